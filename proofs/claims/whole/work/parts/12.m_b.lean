/-! X2_addBunk -/
def rm_X2_addBunk : Room := { frames := 4, cells := 0, slots := 0, locals := 144 }
def wp_X2_addBunk (a0 : Nat) (x1 : Int32) (h : hp_T) (Q : Int32 → hp_T → Prop) : Prop :=
  (vp_in (hp_i h a0 1) 6) ∧ wp_X0_settle (a0 + 8 + 3 * (hp_i h a0 1).toNatClampNeg) x1 (-1 : Int32) h (fun h_2 => (vp_in (hp_i h_2 a0 1) 6) ∧ (∀ h_5, h_5 = hp_si h_2 (a0 + 8 + 3 * (hp_i h_2 a0 1).toNatClampNeg) 4 (-1 : Int32) → (∀ h_8, h_8 = hp_si h_5 a0 1 ((hp_i h_5 a0 1) + (1 : Int32)) → (Q ((hp_i h_8 a0 1) - (1 : Int32)) h_8))))
set_option maxRecDepth 100000 in
set_option maxHeartbeats 4000000 in
theorem mt_X2_addBunk {l : Launch} {G : ab_G} {a0 : Nat} {x1 : Int32} {h : hp_T} {Q : Int32 → hp_T → Prop} (hk0 : ab_k a0 = 2) (hw : wf h) (f : wp_X2_addBunk a0 x1 h Q) : ab_M l G yX2_addBunk cX2_addBunk 2 (some .int) rm_X2_addBunk 0 0 [.ref (G.1 + a0), .int x1] h (po_h Q) := by
  refine ab_intro (own := RX2) (nm := "addBunk") rfl rfl rfl (Nat.le_of_ble_eq_true rfl) (fun F C => ?_)
  show ab_W l G F 2 (ab_MQ G F (po_h Q) 0 0) 0 0 h [(0, .ref (G.1 + a0)), (1, .int x1)] [] 0
  unfold wp_X2_addBunk at f
  refine ab_aload_n C 0 dX2_addBunk_0 rfl rfl ?_
  refine ab_getR C (q := (a0 + 1)) fl_X2_11 rfl hk0 (wf_lt hw hk0 rfl) (wr_2_0 hw hk0) dX2_addBunk_1 ?_
  refine ab_aload_n C 0 dX2_addBunk_4 rfl rfl ?_
  refine ab_getI C fl_X2_52 rfl hk0 (wf_lt hw hk0 rfl) dX2_addBunk_5 ?_
  obtain ⟨c_1, f⟩ := f
  refine ab_aaldR C (q := (a0 + 8 + 3 * (hp_i h a0 1).toNatClampNeg)) (kn_2_0 hk0) (Or.inl rfl) (wf_lt hw (kn_2_0 hk0) rfl) (wf_len hw (kn_2_0 hk0) rfl rfl (by decide)) c_1 (j := (hp_i h a0 1).toNatClampNeg) rfl (wx_bunk hw hk0 (vp_in_lt c_1)) dX2_addBunk_8 ?_
  refine ab_iload_n C 1 dX2_addBunk_9 rfl rfl ?_
  refine ab_iconst C (v := (-1 : Int32)) dX2_addBunk_10 (by decide) ?_
  refine ab_callV C (k := 0) (n := 0) (rest := []) [.int x1, .int (-1 : Int32)] cl_X2_86 (mt_X0_settle (kx_bunk hk0 (vp_in_lt c_1)) hw f) rfl (by decide) (kx_bunk hk0 (vp_in_lt c_1)) (wf_lt hw (kx_bunk hk0 (vp_in_lt c_1)) rfl) ⟨rfl, rfl, Nat.le_of_ble_eq_true rfl, Nat.le_of_ble_eq_true rfl, Nat.zero_le _, Nat.zero_le _⟩ rfl rfl (Nat.le_of_ble_eq_true rfl) dX2_addBunk_11 (ab_kv (k := 0) (n := 0) (fun h_2 hw_3 f => ?_))
  refine ab_aload_n C 0 dX2_addBunk_14 rfl rfl ?_
  refine ab_getR C (q := (a0 + 1)) fl_X2_11 rfl hk0 (wf_lt hw_3 hk0 rfl) (wr_2_0 hw_3 hk0) dX2_addBunk_15 ?_
  refine ab_aload_n C 0 dX2_addBunk_18 rfl rfl ?_
  refine ab_getI C fl_X2_52 rfl hk0 (wf_lt hw_3 hk0 rfl) dX2_addBunk_19 ?_
  obtain ⟨c_4, f⟩ := f
  refine ab_aaldR C (q := (a0 + 8 + 3 * (hp_i h_2 a0 1).toNatClampNeg)) (kn_2_0 hk0) (Or.inl rfl) (wf_lt hw_3 (kn_2_0 hk0) rfl) (wf_len hw_3 (kn_2_0 hk0) rfl rfl (by decide)) c_4 (j := (hp_i h_2 a0 1).toNatClampNeg) rfl (wx_bunk hw_3 hk0 (vp_in_lt c_4)) dX2_addBunk_22 ?_
  refine ab_iconst C (v := (-1 : Int32)) dX2_addBunk_23 (by decide) ?_
  refine ab_putI C fl_X2_90 rfl (kx_bunk hk0 (vp_in_lt c_4)) (wf_lt hw_3 (kx_bunk hk0 (vp_in_lt c_4)) rfl) rfl rfl dX2_addBunk_24 (fun h_5 e_6 => ?_)
  have f := f h_5 e_6
  have hw_7 := wf_si e_6 hw_3
  refine ab_aload_n C 0 dX2_addBunk_27 rfl rfl ?_
  refine ab_dup C dX2_addBunk_28 rfl ?_
  refine ab_getI C fl_X2_52 rfl hk0 (wf_lt hw_7 hk0 rfl) dX2_addBunk_29 ?_
  refine ab_iconst C (v := (1 : Int32)) dX2_addBunk_32 (by decide) ?_
  refine ab_iadd C dX2_addBunk_33 ?_
  refine ab_putI C fl_X2_52 rfl hk0 (wf_lt hw_7 hk0 rfl) rfl rfl dX2_addBunk_34 (fun h_8 e_9 => ?_)
  have f := f h_8 e_9
  have hw_10 := wf_si e_9 hw_7
  refine ab_aload_n C 0 dX2_addBunk_37 rfl rfl ?_
  refine ab_getI C fl_X2_52 rfl hk0 (wf_lt hw_10 hk0 rfl) dX2_addBunk_38 ?_
  refine ab_iconst C (v := (1 : Int32)) dX2_addBunk_41 (by decide) ?_
  refine ab_isub C dX2_addBunk_42 ?_
  exact ab_iret C dX2_addBunk_43 ⟨hw_10, _, rfl, f⟩
/-! X2_knowers -/
def rm_X2_knowers : Room := { frames := 5, cells := 0, slots := 0, locals := 163 }
def wp_X2_knowers_L4 (a0 : Nat) (x1 : Int32) (h : hp_T) (Q : Int32 → Prop) : Nat → Int32 → Int32 → Prop
  | 0 => fun _ _ => False
  | nn + 1 => fun y2 y3 => (((hp_i h a0 1) ≤ y3 → (Q y2)) ∧ (¬ ((hp_i h a0 1) ≤ y3) → (vp_in y3 6) ∧ wp_X0_knows (a0 + 8 + 3 * y3.toNatClampNeg) x1 h (fun v_3 => ((v_3 = 0 → (wp_X2_knowers_L4 a0 x1 h Q nn) (y2 + (0 : Int32)) (y3 + (1 : Int32))) ∧ (¬ (v_3 = 0) → (wp_X2_knowers_L4 a0 x1 h Q nn) (y2 + (1 : Int32)) (y3 + (1 : Int32)))))))
set_option maxRecDepth 100000 in
set_option maxHeartbeats 4000000 in
theorem bt_X2_knowers_L4 {l : Launch} {G : ab_G} {F : ab_F} {a0 : Nat} {x1 : Int32} {h : hp_T} {Q : Int32 → Prop}  (C : ab_C G F rm_X2_knowers cX2_knowers 4 RX2 (some .int) "knowers") (hk0 : ab_k a0 = 2) (hw : wf h)  : ∀ (nn : Nat) (y2 : Int32) (y3 : Int32), wp_X2_knowers_L4 a0 x1 h Q nn y2 y3 → ab_W l G F 4 (ab_MQ G F (po_p h Q) 0 0) 0 0 h [(0, .ref (G.1 + a0)), (1, .int x1), (2, .int y2), (3, .int y3)] [] 4 := by
  intro nn
  induction nn with
  | zero =>
    intro y2 y3 f
    exact absurd f id
  | succ nn ih =>
    intro y2 y3 f
    unfold wp_X2_knowers_L4 at f
    refine ab_iload_n C 3 dX2_knowers_4 rfl rfl ?_
    refine ab_aload_n C 0 dX2_knowers_5 rfl rfl ?_
    refine ab_getI C fl_X2_52 rfl hk0 (wf_lt hw hk0 rfl) dX2_knowers_6 ?_
    refine ab_icmp_ge C (tgt := 39) dX2_knowers_9 (by decide) (fun c_1 => ?_) (fun c_1 => ?_)
    · have f := f.1 c_1
      refine ab_iload_n C 2 dX2_knowers_39 rfl rfl ?_
      exact ab_iret C dX2_knowers_40 ⟨rfl, _, rfl, f⟩
    · have f := f.2 c_1
      refine ab_iload_n C 2 dX2_knowers_12 rfl rfl ?_
      refine ab_aload_n C 0 dX2_knowers_13 rfl rfl ?_
      refine ab_getR C (q := (a0 + 1)) fl_X2_11 rfl hk0 (wf_lt hw hk0 rfl) (wr_2_0 hw hk0) dX2_knowers_14 ?_
      refine ab_iload_n C 3 dX2_knowers_17 rfl rfl ?_
      obtain ⟨c_2, f⟩ := f
      refine ab_aaldR C (q := (a0 + 8 + 3 * y3.toNatClampNeg)) (kn_2_0 hk0) (Or.inl rfl) (wf_lt hw (kn_2_0 hk0) rfl) (wf_len hw (kn_2_0 hk0) rfl rfl (by decide)) c_2 (j := y3.toNatClampNeg) rfl (wx_bunk hw hk0 (vp_in_lt c_2)) dX2_knowers_18 ?_
      refine ab_iload_n C 1 dX2_knowers_19 rfl rfl ?_
      refine ab_callV C (k := 0) (n := 0) (rest := [.int y2]) [.int x1] cl_X2_115 (mt_X0_knows (kx_bunk hk0 (vp_in_lt c_2)) hw f) rfl (by decide) (kx_bunk hk0 (vp_in_lt c_2)) (wf_lt hw (kx_bunk hk0 (vp_in_lt c_2)) rfl) ⟨rfl, rfl, Nat.le_of_ble_eq_true rfl, Nat.le_of_ble_eq_true rfl, Nat.zero_le _, Nat.zero_le _⟩ rfl rfl (Nat.le_of_ble_eq_true rfl) dX2_knowers_20 (ab_kp (k := 0) (n := 0) (fun v_3 f => ?_))
      refine ab_if_eq C (tgt := 30) dX2_knowers_23 (by decide) (fun c_4 => ?_) (fun c_4 => ?_)
      · have f := f.1 c_4
        refine ab_iconst C (v := (0 : Int32)) dX2_knowers_30 (by decide) ?_
        refine ab_iadd C dX2_knowers_31 ?_
        refine ab_istore_n C (lv' := [(2, .int (y2 + (0 : Int32))), (0, .ref (G.1 + a0)), (1, .int x1), (3, .int y3)]) dX2_knowers_32 rfl (by decide) rfl ?_
        refine ab_iinc C (lv' := [(3, .int (y3 + (1 : Int32))), (2, .int (y2 + (0 : Int32))), (0, .ref (G.1 + a0)), (1, .int x1)]) 3 (v := (y3 + (1 : Int32))) dX2_knowers_33 rfl rfl (by decide) rfl ?_
        refine ab_goto C (tgt := 4) dX2_knowers_36 (by decide) ?_
        refine ab_sub (lv' := [(0, .ref (G.1 + a0)), (1, .int x1), (2, .int (y2 + (0 : Int32))), (3, .int (y3 + (1 : Int32)))]) [2, 3, 1, 0] rfl ?_
        exact ih (y2 + (0 : Int32)) (y3 + (1 : Int32))   f
      · have f := f.2 c_4
        refine ab_iconst C (v := (1 : Int32)) dX2_knowers_26 (by decide) ?_
        refine ab_goto C (tgt := 31) dX2_knowers_27 (by decide) ?_
        refine ab_iadd C dX2_knowers_31 ?_
        refine ab_istore_n C (lv' := [(2, .int (y2 + (1 : Int32))), (0, .ref (G.1 + a0)), (1, .int x1), (3, .int y3)]) dX2_knowers_32 rfl (by decide) rfl ?_
        refine ab_iinc C (lv' := [(3, .int (y3 + (1 : Int32))), (2, .int (y2 + (1 : Int32))), (0, .ref (G.1 + a0)), (1, .int x1)]) 3 (v := (y3 + (1 : Int32))) dX2_knowers_33 rfl rfl (by decide) rfl ?_
        refine ab_goto C (tgt := 4) dX2_knowers_36 (by decide) ?_
        refine ab_sub (lv' := [(0, .ref (G.1 + a0)), (1, .int x1), (2, .int (y2 + (1 : Int32))), (3, .int (y3 + (1 : Int32)))]) [2, 3, 1, 0] rfl ?_
        exact ih (y2 + (1 : Int32)) (y3 + (1 : Int32))   f
def wp_X2_knowers (a0 : Nat) (x1 : Int32) (h : hp_T) (Q : Int32 → Prop) : Prop :=
  (∃ n0, wp_X2_knowers_L4 a0 x1 h Q  n0 (0 : Int32) (0 : Int32))
set_option maxRecDepth 100000 in
set_option maxHeartbeats 4000000 in
theorem mt_X2_knowers {l : Launch} {G : ab_G} {a0 : Nat} {x1 : Int32} {h : hp_T} {Q : Int32 → Prop} (hk0 : ab_k a0 = 2) (hw : wf h) (f : wp_X2_knowers a0 x1 h Q) : ab_M l G yX2_knowers cX2_knowers 4 (some .int) rm_X2_knowers 0 0 [.ref (G.1 + a0), .int x1] h (po_p h Q) := by
  refine ab_intro (own := RX2) (nm := "knowers") rfl rfl rfl (Nat.le_of_ble_eq_true rfl) (fun F C => ?_)
  show ab_W l G F 4 (ab_MQ G F (po_p h Q) 0 0) 0 0 h [(0, .ref (G.1 + a0)), (1, .int x1)] [] 0
  unfold wp_X2_knowers at f
  refine ab_iconst C (v := (0 : Int32)) dX2_knowers_0 (by decide) ?_
  refine ab_istore_n C (lv' := [(2, .int (0 : Int32)), (0, .ref (G.1 + a0)), (1, .int x1)]) dX2_knowers_1 rfl (by decide) rfl ?_
  refine ab_iconst C (v := (0 : Int32)) dX2_knowers_2 (by decide) ?_
  refine ab_istore_n C (lv' := [(3, .int (0 : Int32)), (2, .int (0 : Int32)), (0, .ref (G.1 + a0)), (1, .int x1)]) dX2_knowers_3 rfl (by decide) rfl ?_
  obtain ⟨n0, f⟩ := f
  refine ab_sub (lv' := [(0, .ref (G.1 + a0)), (1, .int x1), (2, .int (0 : Int32)), (3, .int (0 : Int32))]) [2, 3, 1, 0] rfl ?_
  exact bt_X2_knowers_L4 C hk0 hw  n0 (0 : Int32) (0 : Int32)   f
/-! X2_canSpare -/
def rm_X2_canSpare : Room := { frames := 6, cells := 0, slots := 0, locals := 186 }
def wp_X2_canSpare_b37 (a0 : Nat) (x1 : Int32) (x2 : Int32) (h : hp_T) (Q : Int32 → Prop) (lp_2 : Int32 → Prop) (y3 : Int32) (y4 : Int32) (z0 : Int32) : Prop :=
  (vp_in x2 6) ∧ wp_X0_knows (a0 + 8 + 3 * x2.toNatClampNeg) y4 h (fun v_7 => ((v_7 = 0 → (vp_in y3 4) ∧ (((hp_i h (a0 + 26 + y3.toNatClampNeg) 1) ≤ 0 → lp_2 (y3 + (1 : Int32))) ∧ (¬ ((hp_i h (a0 + 26 + y3.toNatClampNeg) 1) ≤ 0) → wp_X2_knowers a0 y4 h (fun v_11 => (vp_in y3 4) ∧ (((hp_i h (a0 + 26 + y3.toNatClampNeg) 1) ≤ (v_11 - (z0 + (0 : Int32))) → lp_2 (y3 + (1 : Int32))) ∧ (¬ ((hp_i h (a0 + 26 + y3.toNatClampNeg) 1) ≤ (v_11 - (z0 + (0 : Int32)))) → (Q (0 : Int32)))))))) ∧ (¬ (v_7 = 0) → (vp_in y3 4) ∧ (((hp_i h (a0 + 26 + y3.toNatClampNeg) 1) ≤ 0 → lp_2 (y3 + (1 : Int32))) ∧ (¬ ((hp_i h (a0 + 26 + y3.toNatClampNeg) 1) ≤ 0) → wp_X2_knowers a0 y4 h (fun v_16 => (vp_in y3 4) ∧ (((hp_i h (a0 + 26 + y3.toNatClampNeg) 1) ≤ (v_16 - (z0 + (1 : Int32))) → lp_2 (y3 + (1 : Int32))) ∧ (¬ ((hp_i h (a0 + 26 + y3.toNatClampNeg) 1) ≤ (v_16 - (z0 + (1 : Int32)))) → (Q (0 : Int32))))))))))
set_option maxRecDepth 100000 in
set_option maxHeartbeats 4000000 in
theorem bt_X2_canSpare_b37 {l : Launch} {G : ab_G} {F : ab_F} {a0 : Nat} {x1 : Int32} {x2 : Int32} {h : hp_T} {Q : Int32 → Prop} {lp_2 : Int32 → Prop} (C : ab_C G F rm_X2_canSpare cX2_canSpare 6 RX2 (some .boolean) "canSpare") (hk0 : ab_k a0 = 2) (hw : wf h) (il_2 : ∀ (y3 : Int32), lp_2 y3 → ab_W l G F 6 (ab_MQ G F (po_p h Q) 0 0) 0 0 h [(0, .ref (G.1 + a0)), (1, .int x1), (2, .int x2), (3, .int y3)] [] 2) : ∀ (y3 : Int32) (y4 : Int32) (z0 : Int32), wp_X2_canSpare_b37 a0 x1 x2 h Q lp_2 y3 y4 z0 → ab_W l G F 6 (ab_MQ G F (po_p h Q) 0 0) 0 0 h [(0, .ref (G.1 + a0)), (1, .int x1), (2, .int x2), (3, .int y3), (4, .int y4)] [.int z0] 37 := by
  intro y3 y4 z0 f
  unfold wp_X2_canSpare_b37 at f
  refine ab_aload_n C 0 dX2_canSpare_37 rfl rfl ?_
  refine ab_getR C (q := (a0 + 1)) fl_X2_11 rfl hk0 (wf_lt hw hk0 rfl) (wr_2_0 hw hk0) dX2_canSpare_38 ?_
  refine ab_iload_n C 2 dX2_canSpare_41 rfl rfl ?_
  obtain ⟨c_6, f⟩ := f
  refine ab_aaldR C (q := (a0 + 8 + 3 * x2.toNatClampNeg)) (kn_2_0 hk0) (Or.inl rfl) (wf_lt hw (kn_2_0 hk0) rfl) (wf_len hw (kn_2_0 hk0) rfl rfl (by decide)) c_6 (j := x2.toNatClampNeg) rfl (wx_bunk hw hk0 (vp_in_lt c_6)) dX2_canSpare_42 ?_
  refine ab_iload C 4 dX2_canSpare_43 rfl ?_
  refine ab_callV C (k := 0) (n := 0) (rest := [.int z0]) [.int y4] cl_X2_115 (mt_X0_knows (kx_bunk hk0 (vp_in_lt c_6)) hw f) rfl (by decide) (kx_bunk hk0 (vp_in_lt c_6)) (wf_lt hw (kx_bunk hk0 (vp_in_lt c_6)) rfl) ⟨rfl, rfl, Nat.le_of_ble_eq_true rfl, Nat.le_of_ble_eq_true rfl, Nat.zero_le _, Nat.zero_le _⟩ rfl rfl (Nat.le_of_ble_eq_true rfl) dX2_canSpare_45 (ab_kp (k := 0) (n := 0) (fun v_7 f => ?_))
  refine ab_if_eq C (tgt := 55) dX2_canSpare_48 (by decide) (fun c_8 => ?_) (fun c_8 => ?_)
  · have f := f.1 c_8
    refine ab_iconst C (v := (0 : Int32)) dX2_canSpare_55 (by decide) ?_
    refine ab_iadd C dX2_canSpare_56 ?_
    refine ab_istore C (lv' := [(5, .int (z0 + (0 : Int32))), (0, .ref (G.1 + a0)), (1, .int x1), (2, .int x2), (3, .int y3), (4, .int y4)]) dX2_canSpare_57 (by decide) rfl ?_
    refine ab_aload_n C 1 dX2_canSpare_59 rfl rfl ?_
    refine ab_getR C (q := (a0 + 4)) fl_X2_26 rfl hk0 (wf_lt hw hk0 rfl) (wr_2_7 hw hk0) dX2_canSpare_60 ?_
    refine ab_iload_n C 4 dX2_canSpare_63 rfl rfl ?_
    obtain ⟨c_9, f⟩ := f
    refine ab_aaldR C (q := (a0 + 26 + y3.toNatClampNeg)) (kn_2_7 hk0) (Or.inr (Or.inl rfl)) (wf_lt hw (kn_2_7 hk0) rfl) (wf_len hw (kn_2_7 hk0) rfl rfl (by decide)) c_9 (j := y3.toNatClampNeg) rfl (wx_task hw hk0 (vp_in_lt c_9)) dX2_canSpare_64 ?_
    refine ab_getI C fl_X2_186 rfl (kx_task hk0 (vp_in_lt c_9)) (wf_lt hw (kx_task hk0 (vp_in_lt c_9)) rfl) dX2_canSpare_65 ?_
    refine ab_if_le C (tgt := 94) dX2_canSpare_68 (by decide) (fun c_10 => ?_) (fun c_10 => ?_)
    · have f := f.1 c_10
      refine ab_iinc C (lv' := [(3, .int (y3 + (1 : Int32))), (5, .int (z0 + (0 : Int32))), (0, .ref (G.1 + a0)), (1, .int x1), (2, .int x2), (4, .int y4)]) 4 (v := (y3 + (1 : Int32))) dX2_canSpare_94 rfl rfl (by decide) rfl ?_
      refine ab_goto C (tgt := 2) dX2_canSpare_97 (by decide) ?_
      refine ab_sub (lv' := [(0, .ref (G.1 + a0)), (1, .int x1), (2, .int x2), (3, .int (y3 + (1 : Int32)))]) [2, 3, 4, 0] rfl ?_
      exact il_2 (y3 + (1 : Int32))   f
    · have f := f.2 c_10
      refine ab_aload_n C 1 dX2_canSpare_71 rfl rfl ?_
      refine ab_iload C 5 dX2_canSpare_72 rfl ?_
      refine ab_callV C (k := 0) (n := 0) (rest := []) [.int y4] cl_X2_148 (mt_X2_knowers hk0 hw f) rfl (by decide) hk0 (wf_lt hw hk0 rfl) ⟨rfl, rfl, Nat.le_of_ble_eq_true rfl, Nat.le_of_ble_eq_true rfl, Nat.zero_le _, Nat.zero_le _⟩ rfl rfl (Nat.le_of_ble_eq_true rfl) dX2_canSpare_74 (ab_kp (k := 0) (n := 0) (fun v_11 f => ?_))
      refine ab_iload C 0 dX2_canSpare_77 rfl ?_
      refine ab_isub C dX2_canSpare_79 ?_
      refine ab_aload_n C 1 dX2_canSpare_80 rfl rfl ?_
      refine ab_getR C (q := (a0 + 4)) fl_X2_26 rfl hk0 (wf_lt hw hk0 rfl) (wr_2_7 hw hk0) dX2_canSpare_81 ?_
      refine ab_iload_n C 4 dX2_canSpare_84 rfl rfl ?_
      obtain ⟨c_12, f⟩ := f
      refine ab_aaldR C (q := (a0 + 26 + y3.toNatClampNeg)) (kn_2_7 hk0) (Or.inr (Or.inl rfl)) (wf_lt hw (kn_2_7 hk0) rfl) (wf_len hw (kn_2_7 hk0) rfl rfl (by decide)) c_12 (j := y3.toNatClampNeg) rfl (wx_task hw hk0 (vp_in_lt c_12)) dX2_canSpare_85 ?_
      refine ab_getI C fl_X2_186 rfl (kx_task hk0 (vp_in_lt c_12)) (wf_lt hw (kx_task hk0 (vp_in_lt c_12)) rfl) dX2_canSpare_86 ?_
      refine ab_icmp_ge C (tgt := 94) dX2_canSpare_89 (by decide) (fun c_13 => ?_) (fun c_13 => ?_)
      · have f := f.1 c_13
        refine ab_iinc C (lv' := [(3, .int (y3 + (1 : Int32))), (5, .int (z0 + (0 : Int32))), (0, .ref (G.1 + a0)), (1, .int x1), (2, .int x2), (4, .int y4)]) 4 (v := (y3 + (1 : Int32))) dX2_canSpare_94 rfl rfl (by decide) rfl ?_
        refine ab_goto C (tgt := 2) dX2_canSpare_97 (by decide) ?_
        refine ab_sub (lv' := [(0, .ref (G.1 + a0)), (1, .int x1), (2, .int x2), (3, .int (y3 + (1 : Int32)))]) [2, 3, 4, 0] rfl ?_
        exact il_2 (y3 + (1 : Int32))   f
      · have f := f.2 c_13
        refine ab_iconst C (v := (0 : Int32)) dX2_canSpare_92 (by decide) ?_
        exact ab_zret C dX2_canSpare_93 rfl ⟨rfl, _, rfl, f⟩
  · have f := f.2 c_8
    refine ab_iconst C (v := (1 : Int32)) dX2_canSpare_51 (by decide) ?_
    refine ab_goto C (tgt := 56) dX2_canSpare_52 (by decide) ?_
    refine ab_iadd C dX2_canSpare_56 ?_
    refine ab_istore C (lv' := [(5, .int (z0 + (1 : Int32))), (0, .ref (G.1 + a0)), (1, .int x1), (2, .int x2), (3, .int y3), (4, .int y4)]) dX2_canSpare_57 (by decide) rfl ?_
    refine ab_aload_n C 1 dX2_canSpare_59 rfl rfl ?_
    refine ab_getR C (q := (a0 + 4)) fl_X2_26 rfl hk0 (wf_lt hw hk0 rfl) (wr_2_7 hw hk0) dX2_canSpare_60 ?_
    refine ab_iload_n C 4 dX2_canSpare_63 rfl rfl ?_
    obtain ⟨c_14, f⟩ := f
    refine ab_aaldR C (q := (a0 + 26 + y3.toNatClampNeg)) (kn_2_7 hk0) (Or.inr (Or.inl rfl)) (wf_lt hw (kn_2_7 hk0) rfl) (wf_len hw (kn_2_7 hk0) rfl rfl (by decide)) c_14 (j := y3.toNatClampNeg) rfl (wx_task hw hk0 (vp_in_lt c_14)) dX2_canSpare_64 ?_
    refine ab_getI C fl_X2_186 rfl (kx_task hk0 (vp_in_lt c_14)) (wf_lt hw (kx_task hk0 (vp_in_lt c_14)) rfl) dX2_canSpare_65 ?_
    refine ab_if_le C (tgt := 94) dX2_canSpare_68 (by decide) (fun c_15 => ?_) (fun c_15 => ?_)
    · have f := f.1 c_15
      refine ab_iinc C (lv' := [(3, .int (y3 + (1 : Int32))), (5, .int (z0 + (1 : Int32))), (0, .ref (G.1 + a0)), (1, .int x1), (2, .int x2), (4, .int y4)]) 4 (v := (y3 + (1 : Int32))) dX2_canSpare_94 rfl rfl (by decide) rfl ?_
      refine ab_goto C (tgt := 2) dX2_canSpare_97 (by decide) ?_
      refine ab_sub (lv' := [(0, .ref (G.1 + a0)), (1, .int x1), (2, .int x2), (3, .int (y3 + (1 : Int32)))]) [2, 3, 4, 0] rfl ?_
      exact il_2 (y3 + (1 : Int32))   f
    · have f := f.2 c_15
      refine ab_aload_n C 1 dX2_canSpare_71 rfl rfl ?_
      refine ab_iload C 5 dX2_canSpare_72 rfl ?_
      refine ab_callV C (k := 0) (n := 0) (rest := []) [.int y4] cl_X2_148 (mt_X2_knowers hk0 hw f) rfl (by decide) hk0 (wf_lt hw hk0 rfl) ⟨rfl, rfl, Nat.le_of_ble_eq_true rfl, Nat.le_of_ble_eq_true rfl, Nat.zero_le _, Nat.zero_le _⟩ rfl rfl (Nat.le_of_ble_eq_true rfl) dX2_canSpare_74 (ab_kp (k := 0) (n := 0) (fun v_16 f => ?_))
      refine ab_iload C 0 dX2_canSpare_77 rfl ?_
      refine ab_isub C dX2_canSpare_79 ?_
      refine ab_aload_n C 1 dX2_canSpare_80 rfl rfl ?_
      refine ab_getR C (q := (a0 + 4)) fl_X2_26 rfl hk0 (wf_lt hw hk0 rfl) (wr_2_7 hw hk0) dX2_canSpare_81 ?_
      refine ab_iload_n C 4 dX2_canSpare_84 rfl rfl ?_
      obtain ⟨c_17, f⟩ := f
      refine ab_aaldR C (q := (a0 + 26 + y3.toNatClampNeg)) (kn_2_7 hk0) (Or.inr (Or.inl rfl)) (wf_lt hw (kn_2_7 hk0) rfl) (wf_len hw (kn_2_7 hk0) rfl rfl (by decide)) c_17 (j := y3.toNatClampNeg) rfl (wx_task hw hk0 (vp_in_lt c_17)) dX2_canSpare_85 ?_
      refine ab_getI C fl_X2_186 rfl (kx_task hk0 (vp_in_lt c_17)) (wf_lt hw (kx_task hk0 (vp_in_lt c_17)) rfl) dX2_canSpare_86 ?_
      refine ab_icmp_ge C (tgt := 94) dX2_canSpare_89 (by decide) (fun c_18 => ?_) (fun c_18 => ?_)
      · have f := f.1 c_18
        refine ab_iinc C (lv' := [(3, .int (y3 + (1 : Int32))), (5, .int (z0 + (1 : Int32))), (0, .ref (G.1 + a0)), (1, .int x1), (2, .int x2), (4, .int y4)]) 4 (v := (y3 + (1 : Int32))) dX2_canSpare_94 rfl rfl (by decide) rfl ?_
        refine ab_goto C (tgt := 2) dX2_canSpare_97 (by decide) ?_
        refine ab_sub (lv' := [(0, .ref (G.1 + a0)), (1, .int x1), (2, .int x2), (3, .int (y3 + (1 : Int32)))]) [2, 3, 4, 0] rfl ?_
        exact il_2 (y3 + (1 : Int32))   f
      · have f := f.2 c_18
        refine ab_iconst C (v := (0 : Int32)) dX2_canSpare_92 (by decide) ?_
        exact ab_zret C dX2_canSpare_93 rfl ⟨rfl, _, rfl, f⟩
def wp_X2_canSpare_L2 (a0 : Nat) (x1 : Int32) (x2 : Int32) (h : hp_T) (Q : Int32 → Prop) : Nat → Int32 → Prop
  | 0 => fun _ => False
  | nn + 1 => fun y3 => (((4 : Int32) ≤ y3 → (Q (1 : Int32))) ∧ (¬ ((4 : Int32) ≤ y3) → (vp_in y3 4) ∧ (vp_in x1 6) ∧ wp_X0_knows (a0 + 8 + 3 * x1.toNatClampNeg) (hp_i h (a0 + 26 + y3.toNatClampNeg) 0) h (fun v_4 => ((v_4 = 0 → (wp_X2_canSpare_b37 a0 x1 x2 h Q (wp_X2_canSpare_L2 a0 x1 x2 h Q nn) y3 (hp_i h (a0 + 26 + y3.toNatClampNeg) 0) (0 : Int32))) ∧ (¬ (v_4 = 0) → (wp_X2_canSpare_b37 a0 x1 x2 h Q (wp_X2_canSpare_L2 a0 x1 x2 h Q nn) y3 (hp_i h (a0 + 26 + y3.toNatClampNeg) 0) (1 : Int32)))))))
set_option maxRecDepth 100000 in
set_option maxHeartbeats 4000000 in
theorem bt_X2_canSpare_L2 {l : Launch} {G : ab_G} {F : ab_F} {a0 : Nat} {x1 : Int32} {x2 : Int32} {h : hp_T} {Q : Int32 → Prop}  (C : ab_C G F rm_X2_canSpare cX2_canSpare 6 RX2 (some .boolean) "canSpare") (hk0 : ab_k a0 = 2) (hw : wf h)  : ∀ (nn : Nat) (y3 : Int32), wp_X2_canSpare_L2 a0 x1 x2 h Q nn y3 → ab_W l G F 6 (ab_MQ G F (po_p h Q) 0 0) 0 0 h [(0, .ref (G.1 + a0)), (1, .int x1), (2, .int x2), (3, .int y3)] [] 2 := by
  intro nn
  induction nn with
  | zero =>
    intro y3 f
    exact absurd f id
  | succ nn ih =>
    intro y3 f
    unfold wp_X2_canSpare_L2 at f
    refine ab_iload_n C 3 dX2_canSpare_2 rfl rfl ?_
    refine ab_iconst C (v := (4 : Int32)) dX2_canSpare_3 (by decide) ?_
    refine ab_icmp_ge C (tgt := 100) dX2_canSpare_4 (by decide) (fun c_1 => ?_) (fun c_1 => ?_)
    · have f := f.1 c_1
      refine ab_iconst C (v := (1 : Int32)) dX2_canSpare_100 (by decide) ?_
      exact ab_zret C dX2_canSpare_101 rfl ⟨rfl, _, rfl, f⟩
    · have f := f.2 c_1
      refine ab_aload_n C 0 dX2_canSpare_7 rfl rfl ?_
      refine ab_getR C (q := (a0 + 4)) fl_X2_26 rfl hk0 (wf_lt hw hk0 rfl) (wr_2_7 hw hk0) dX2_canSpare_8 ?_
      refine ab_iload_n C 3 dX2_canSpare_11 rfl rfl ?_
      obtain ⟨c_2, f⟩ := f
      refine ab_aaldR C (q := (a0 + 26 + y3.toNatClampNeg)) (kn_2_7 hk0) (Or.inr (Or.inl rfl)) (wf_lt hw (kn_2_7 hk0) rfl) (wf_len hw (kn_2_7 hk0) rfl rfl (by decide)) c_2 (j := y3.toNatClampNeg) rfl (wx_task hw hk0 (vp_in_lt c_2)) dX2_canSpare_12 ?_
      refine ab_getI C fl_X2_145 rfl (kx_task hk0 (vp_in_lt c_2)) (wf_lt hw (kx_task hk0 (vp_in_lt c_2)) rfl) dX2_canSpare_13 ?_
      refine ab_istore C (lv' := [(4, .int (hp_i h (a0 + 26 + y3.toNatClampNeg) 0)), (0, .ref (G.1 + a0)), (1, .int x1), (2, .int x2), (3, .int y3)]) dX2_canSpare_16 (by decide) rfl ?_
      refine ab_aload_n C 1 dX2_canSpare_18 rfl rfl ?_
      refine ab_getR C (q := (a0 + 1)) fl_X2_11 rfl hk0 (wf_lt hw hk0 rfl) (wr_2_0 hw hk0) dX2_canSpare_19 ?_
      refine ab_iload_n C 2 dX2_canSpare_22 rfl rfl ?_
      obtain ⟨c_3, f⟩ := f
      refine ab_aaldR C (q := (a0 + 8 + 3 * x1.toNatClampNeg)) (kn_2_0 hk0) (Or.inl rfl) (wf_lt hw (kn_2_0 hk0) rfl) (wf_len hw (kn_2_0 hk0) rfl rfl (by decide)) c_3 (j := x1.toNatClampNeg) rfl (wx_bunk hw hk0 (vp_in_lt c_3)) dX2_canSpare_23 ?_
      refine ab_iload C 0 dX2_canSpare_24 rfl ?_
      refine ab_callV C (k := 0) (n := 0) (rest := []) [.int (hp_i h (a0 + 26 + y3.toNatClampNeg) 0)] cl_X2_115 (mt_X0_knows (kx_bunk hk0 (vp_in_lt c_3)) hw f) rfl (by decide) (kx_bunk hk0 (vp_in_lt c_3)) (wf_lt hw (kx_bunk hk0 (vp_in_lt c_3)) rfl) ⟨rfl, rfl, Nat.le_of_ble_eq_true rfl, Nat.le_of_ble_eq_true rfl, Nat.zero_le _, Nat.zero_le _⟩ rfl rfl (Nat.le_of_ble_eq_true rfl) dX2_canSpare_26 (ab_kp (k := 0) (n := 0) (fun v_4 f => ?_))
      refine ab_if_eq C (tgt := 36) dX2_canSpare_29 (by decide) (fun c_5 => ?_) (fun c_5 => ?_)
      · have f := f.1 c_5
        refine ab_iconst C (v := (0 : Int32)) dX2_canSpare_36 (by decide) ?_
        refine ab_sub (lv' := [(0, .ref (G.1 + a0)), (1, .int x1), (2, .int x2), (3, .int y3), (4, .int (hp_i h (a0 + 26 + y3.toNatClampNeg) 0))]) [1, 2, 3, 4, 0] rfl ?_
        exact bt_X2_canSpare_b37 C hk0 hw ih  y3 (hp_i h (a0 + 26 + y3.toNatClampNeg) 0) (0 : Int32)   f
      · have f := f.2 c_5
        refine ab_iconst C (v := (1 : Int32)) dX2_canSpare_32 (by decide) ?_
        refine ab_goto C (tgt := 37) dX2_canSpare_33 (by decide) ?_
        refine ab_sub (lv' := [(0, .ref (G.1 + a0)), (1, .int x1), (2, .int x2), (3, .int y3), (4, .int (hp_i h (a0 + 26 + y3.toNatClampNeg) 0))]) [1, 2, 3, 4, 0] rfl ?_
        exact bt_X2_canSpare_b37 C hk0 hw ih  y3 (hp_i h (a0 + 26 + y3.toNatClampNeg) 0) (1 : Int32)   f
def wp_X2_canSpare (a0 : Nat) (x1 : Int32) (x2 : Int32) (h : hp_T) (Q : Int32 → Prop) : Prop :=
  (∃ n0, wp_X2_canSpare_L2 a0 x1 x2 h Q  n0 (0 : Int32))
set_option maxRecDepth 100000 in
set_option maxHeartbeats 4000000 in
theorem mt_X2_canSpare {l : Launch} {G : ab_G} {a0 : Nat} {x1 : Int32} {x2 : Int32} {h : hp_T} {Q : Int32 → Prop} (hk0 : ab_k a0 = 2) (hw : wf h) (f : wp_X2_canSpare a0 x1 x2 h Q) : ab_M l G yX2_canSpare cX2_canSpare 6 (some .boolean) rm_X2_canSpare 0 0 [.ref (G.1 + a0), .int x1, .int x2] h (po_p h Q) := by
  refine ab_intro (own := RX2) (nm := "canSpare") rfl rfl rfl (Nat.le_of_ble_eq_true rfl) (fun F C => ?_)
  show ab_W l G F 6 (ab_MQ G F (po_p h Q) 0 0) 0 0 h [(0, .ref (G.1 + a0)), (1, .int x1), (2, .int x2)] [] 0
  unfold wp_X2_canSpare at f
  refine ab_iconst C (v := (0 : Int32)) dX2_canSpare_0 (by decide) ?_
  refine ab_istore_n C (lv' := [(3, .int (0 : Int32)), (0, .ref (G.1 + a0)), (1, .int x1), (2, .int x2)]) dX2_canSpare_1 rfl (by decide) rfl ?_
  obtain ⟨n0, f⟩ := f
  refine ab_sub (lv' := [(0, .ref (G.1 + a0)), (1, .int x1), (2, .int x2), (3, .int (0 : Int32))]) [1, 2, 3, 0] rfl ?_
  exact bt_X2_canSpare_L2 C hk0 hw  n0 (0 : Int32)   f
/-! X2_copyFrom -/
def rm_X2_copyFrom : Room := { frames := 3, cells := 0, slots := 0, locals := 121 }
def wp_X2_copyFrom_L133 (a0 : Nat) (a1 : Nat) (Q : hp_T → Prop) : Nat → Int32 → hp_T → Prop
  | 0 => fun _ _ => False
  | nn + 1 => fun y2 h => (((2 : Int32) ≤ y2 → (cp_ok (0 : Int32) (0 : Int32) (hp_i h a0 4) 12 12) ∧ (∀ h_32, h_32 = hp_cp h (a1 + 2) 0 (a0 + 2) 0 ((hp_i h a0 4).toNatClampNeg) → (cp_ok (0 : Int32) (0 : Int32) (hp_i h_32 a0 4) 12 12) ∧ (∀ h_36, h_36 = hp_cp h_32 (a1 + 3) 0 (a0 + 3) 0 ((hp_i h_32 a0 4).toNatClampNeg) → (cp_ok (0 : Int32) (0 : Int32) (hp_i h_36 a0 12) 60 60) ∧ (cp_by h_36 (a1 + 5) (0 : Int32) (hp_i h_36 a0 12)) ∧ (∀ h_41, h_41 = hp_cp h_36 (a1 + 5) 0 (a0 + 5) 0 ((hp_i h_36 a0 12).toNatClampNeg) → (cp_ok (0 : Int32) (0 : Int32) (hp_i h_41 a0 15) 24 24) ∧ (∀ h_45, h_45 = hp_cp h_41 (a1 + 7) 0 (a0 + 7) 0 ((hp_i h_41 a0 15).toNatClampNeg) → (Q h_45)))))) ∧ (¬ ((2 : Int32) ≤ y2) → (vp_in y2 2) ∧ ((hp_r h (a1 + 6) y2.toNatClampNeg = none → (vp_in y2 2) ∧ (∀ h_52, h_52 = hp_sr h (a0 + 6) y2.toNatClampNeg none → (wp_X2_copyFrom_L133 a0 a1 Q nn) (y2 + (1 : Int32)) h_52)) ∧ (∀ q_49, hp_r h (a1 + 6) y2.toNatClampNeg = some q_49 → (vp_in y2 2) ∧ (ab_k q_49 = 4) ∧ (q_49 < hp_n h) ∧ (∀ h_56, h_56 = hp_sr h (a0 + 6) y2.toNatClampNeg (some q_49) → (wp_X2_copyFrom_L133 a0 a1 Q nn) (y2 + (1 : Int32)) h_56)))))
set_option maxRecDepth 100000 in
set_option maxHeartbeats 4000000 in
theorem bt_X2_copyFrom_L133 {l : Launch} {G : ab_G} {F : ab_F} {a0 : Nat} {a1 : Nat} {Q : hp_T → Prop}  (C : ab_C G F rm_X2_copyFrom cX2_copyFrom 3 RX2 none "copyFrom") (hk0 : ab_k a0 = 2) (hk1 : ab_k a1 = 2)  : ∀ (nn : Nat) (y2 : Int32) (h : hp_T), wf h → wp_X2_copyFrom_L133 a0 a1 Q nn y2 h → ab_W l G F 3 (ab_MQ G F (po_v Q) 0 0) 0 0 h [(0, .ref (G.1 + a0)), (1, .ref (G.1 + a1)), (2, .int y2)] [] 133 := by
  intro nn
  induction nn with
  | zero =>
    intro y2 h hw f
    exact absurd f id
  | succ nn ih =>
    intro y2 h hw f
    unfold wp_X2_copyFrom_L133 at f
    refine ab_iload_n C 2 dX2_copyFrom_133 rfl rfl ?_
    refine ab_iconst C (v := (2 : Int32)) dX2_copyFrom_134 (by decide) ?_
    refine ab_icmp_ge C (tgt := 156) dX2_copyFrom_135 (by decide) (fun c_30 => ?_) (fun c_30 => ?_)
    · have f := f.1 c_30
      refine ab_aload_n C 1 dX2_copyFrom_156 rfl rfl ?_
      refine ab_getR C (q := (a1 + 2)) fl_X2_17 rfl hk1 (wf_lt hw hk1 rfl) (wr_2_2 hw hk1) dX2_copyFrom_157 ?_
      refine ab_iconst C (v := (0 : Int32)) dX2_copyFrom_160 (by decide) ?_
      refine ab_aload_n C 0 dX2_copyFrom_161 rfl rfl ?_
      refine ab_getR C (q := (a0 + 2)) fl_X2_17 rfl hk0 (wf_lt hw hk0 rfl) (wr_2_2 hw hk0) dX2_copyFrom_162 ?_
      refine ab_iconst C (v := (0 : Int32)) dX2_copyFrom_165 (by decide) ?_
      refine ab_aload_n C 0 dX2_copyFrom_166 rfl rfl ?_
      refine ab_getI C fl_X2_55 rfl hk0 (wf_lt hw hk0 rfl) dX2_copyFrom_167 ?_
      obtain ⟨c_31, f⟩ := f
      refine ab_copy C (t0 := 0) (ty := .int) (s0 := 0) (d0 := 0) (z0 := (hp_i h a0 4).toNatClampNeg) cs_X2_80 (Or.inl ⟨by rw [(kn_2_2 hk1)]; decide, by rw [(kn_2_2 hk0)]; decide, rfl, rfl⟩) (wf_lt hw (kn_2_2 hk1) rfl) (wf_lt hw (kn_2_2 hk0) rfl) (wf_len hw (kn_2_2 hk1) rfl rfl (by decide)) (wf_len hw (kn_2_2 hk0) rfl rfl (by decide)) c_31.1 c_31.2.1 c_31.2.2.1 (by decide) (by decide) rfl c_31.2.2.2.1 c_31.2.2.2.2 (fun _ _ => rfl) (by decide) (by decide) (Nat.le_of_ble_eq_true rfl) dX2_copyFrom_170 (fun h_32 e_33 => ?_)
      have f := f h_32 e_33
      have hw_34 := wf_cp e_33 hw
      refine ab_aload_n C 1 dX2_copyFrom_173 rfl rfl ?_
      refine ab_getR C (q := (a1 + 3)) fl_X2_21 rfl hk1 (wf_lt hw_34 hk1 rfl) (wr_2_3 hw_34 hk1) dX2_copyFrom_174 ?_
      refine ab_iconst C (v := (0 : Int32)) dX2_copyFrom_177 (by decide) ?_
      refine ab_aload_n C 0 dX2_copyFrom_178 rfl rfl ?_
      refine ab_getR C (q := (a0 + 3)) fl_X2_21 rfl hk0 (wf_lt hw_34 hk0 rfl) (wr_2_3 hw_34 hk0) dX2_copyFrom_179 ?_
      refine ab_iconst C (v := (0 : Int32)) dX2_copyFrom_182 (by decide) ?_
      refine ab_aload_n C 0 dX2_copyFrom_183 rfl rfl ?_
      refine ab_getI C fl_X2_55 rfl hk0 (wf_lt hw_34 hk0 rfl) dX2_copyFrom_184 ?_
      obtain ⟨c_35, f⟩ := f
      refine ab_copy C (t0 := 0) (ty := .int) (s0 := 0) (d0 := 0) (z0 := (hp_i h_32 a0 4).toNatClampNeg) cs_X2_80 (Or.inl ⟨by rw [(kn_2_3 hk1)]; decide, by rw [(kn_2_3 hk0)]; decide, rfl, rfl⟩) (wf_lt hw_34 (kn_2_3 hk1) rfl) (wf_lt hw_34 (kn_2_3 hk0) rfl) (wf_len hw_34 (kn_2_3 hk1) rfl rfl (by decide)) (wf_len hw_34 (kn_2_3 hk0) rfl rfl (by decide)) c_35.1 c_35.2.1 c_35.2.2.1 (by decide) (by decide) rfl c_35.2.2.2.1 c_35.2.2.2.2 (fun _ _ => rfl) (by decide) (by decide) (Nat.le_of_ble_eq_true rfl) dX2_copyFrom_187 (fun h_36 e_37 => ?_)
      have f := f h_36 e_37
      have hw_38 := wf_cp e_37 hw_34
      refine ab_aload_n C 1 dX2_copyFrom_190 rfl rfl ?_
      refine ab_getR C (q := (a1 + 5)) fl_X2_37 rfl hk1 (wf_lt hw_38 hk1 rfl) (wr_2_11 hw_38 hk1) dX2_copyFrom_191 ?_
      refine ab_iconst C (v := (0 : Int32)) dX2_copyFrom_194 (by decide) ?_
      refine ab_aload_n C 0 dX2_copyFrom_195 rfl rfl ?_
      refine ab_getR C (q := (a0 + 5)) fl_X2_37 rfl hk0 (wf_lt hw_38 hk0 rfl) (wr_2_11 hw_38 hk0) dX2_copyFrom_196 ?_
      refine ab_iconst C (v := (0 : Int32)) dX2_copyFrom_199 (by decide) ?_
      refine ab_aload_n C 0 dX2_copyFrom_200 rfl rfl ?_
      refine ab_getI C fl_X2_67 rfl hk0 (wf_lt hw_38 hk0 rfl) dX2_copyFrom_201 ?_
      obtain ⟨c_39, c_40, f⟩ := f
      refine ab_copy C (t0 := 1) (ty := .byte) (s0 := 0) (d0 := 0) (z0 := (hp_i h_36 a0 12).toNatClampNeg) cs_X2_80 (Or.inr ⟨(kn_2_11 hk1), (kn_2_11 hk0), rfl, rfl⟩) (wf_lt hw_38 (kn_2_11 hk1) rfl) (wf_lt hw_38 (kn_2_11 hk0) rfl) (wf_len hw_38 (kn_2_11 hk1) rfl rfl (by decide)) (wf_len hw_38 (kn_2_11 hk0) rfl rfl (by decide)) c_39.1 c_39.2.1 c_39.2.2.1 (by decide) (by decide) rfl c_39.2.2.2.1 c_39.2.2.2.2 c_40 (by decide) (by decide) (Nat.le_of_ble_eq_true rfl) dX2_copyFrom_204 (fun h_41 e_42 => ?_)
      have f := f h_41 e_42
      have hw_43 := wf_cp e_42 hw_38
      refine ab_aload_n C 1 dX2_copyFrom_207 rfl rfl ?_
      refine ab_getR C (q := (a1 + 7)) fl_X2_47 rfl hk1 (wf_lt hw_43 hk1 rfl) (wr_2_14 hw_43 hk1) dX2_copyFrom_208 ?_
      refine ab_iconst C (v := (0 : Int32)) dX2_copyFrom_211 (by decide) ?_
      refine ab_aload_n C 0 dX2_copyFrom_212 rfl rfl ?_
      refine ab_getR C (q := (a0 + 7)) fl_X2_47 rfl hk0 (wf_lt hw_43 hk0 rfl) (wr_2_14 hw_43 hk0) dX2_copyFrom_213 ?_
      refine ab_iconst C (v := (0 : Int32)) dX2_copyFrom_216 (by decide) ?_
      refine ab_aload_n C 0 dX2_copyFrom_217 rfl rfl ?_
      refine ab_getI C fl_X2_70 rfl hk0 (wf_lt hw_43 hk0 rfl) dX2_copyFrom_218 ?_
      obtain ⟨c_44, f⟩ := f
      refine ab_copy C (t0 := 0) (ty := .int) (s0 := 0) (d0 := 0) (z0 := (hp_i h_41 a0 15).toNatClampNeg) cs_X2_80 (Or.inl ⟨by rw [(kn_2_14 hk1)]; decide, by rw [(kn_2_14 hk0)]; decide, rfl, rfl⟩) (wf_lt hw_43 (kn_2_14 hk1) rfl) (wf_lt hw_43 (kn_2_14 hk0) rfl) (wf_len hw_43 (kn_2_14 hk1) rfl rfl (by decide)) (wf_len hw_43 (kn_2_14 hk0) rfl rfl (by decide)) c_44.1 c_44.2.1 c_44.2.2.1 (by decide) (by decide) rfl c_44.2.2.2.1 c_44.2.2.2.2 (fun _ _ => rfl) (by decide) (by decide) (Nat.le_of_ble_eq_true rfl) dX2_copyFrom_221 (fun h_45 e_46 => ?_)
      have f := f h_45 e_46
      have hw_47 := wf_cp e_46 hw_43
      exact ab_vret C dX2_copyFrom_224 ⟨hw_47, rfl, f⟩
    · have f := f.2 c_30
      refine ab_aload_n C 0 dX2_copyFrom_138 rfl rfl ?_
      refine ab_getR C (q := (a0 + 6)) fl_X2_43 rfl hk0 (wf_lt hw hk0 rfl) (wr_2_13 hw hk0) dX2_copyFrom_139 ?_
      refine ab_iload_n C 2 dX2_copyFrom_142 rfl rfl ?_
      refine ab_aload_n C 1 dX2_copyFrom_143 rfl rfl ?_
      refine ab_getR C (q := (a1 + 6)) fl_X2_43 rfl hk1 (wf_lt hw hk1 rfl) (wr_2_13 hw hk1) dX2_copyFrom_144 ?_
      refine ab_iload_n C 2 dX2_copyFrom_147 rfl rfl ?_
      obtain ⟨c_48, f⟩ := f
      refine ab_aaldQ C (kn_2_13 hk1) (Or.inr (Or.inr (Or.inl rfl))) (wf_lt hw (kn_2_13 hk1) rfl) (wf_len hw (kn_2_13 hk1) rfl rfl (by decide)) c_48 (j := y2.toNatClampNeg) rfl dX2_copyFrom_148 (fun c_50 => ?_) (fun q_49 c_50 => ?_)
      · have f := f.1 c_50
        obtain ⟨c_51, f⟩ := f
        refine ab_aastN C (t0 := 4) (kn_2_13 hk0) (by decide) (by decide) (fun _ => rfl) (wf_lt hw (kn_2_13 hk0) rfl) (wf_len hw (kn_2_13 hk0) rfl rfl (by decide)) c_51 (j := y2.toNatClampNeg) rfl dX2_copyFrom_149 (fun h_52 e_53 => ?_)
        have f := f h_52 e_53
        have hw_54 := wf_sr e_53 (sr_text (kn_2_13 hk0)) hw
        refine ab_iinc C (lv' := [(2, .int (y2 + (1 : Int32))), (0, .ref (G.1 + a0)), (1, .ref (G.1 + a1))]) 2 (v := (y2 + (1 : Int32))) dX2_copyFrom_150 rfl rfl (by decide) rfl ?_
        refine ab_goto C (tgt := 133) dX2_copyFrom_153 (by decide) ?_
        refine ab_sub (lv' := [(0, .ref (G.1 + a0)), (1, .ref (G.1 + a1)), (2, .int (y2 + (1 : Int32)))]) [1, 2, 0] rfl ?_
        exact ih (y2 + (1 : Int32)) h_52  hw_54 f
      · have f := f.2 q_49 c_50
        obtain ⟨c_55, f⟩ := f
        obtain ⟨c_58, c_59, f⟩ := f
        refine ab_aast C (t0 := 4) (ci := 4) (v := q_49) (kn_2_13 hk0) (by decide) (by decide) (fun _ => rfl) rfl (wf_lt hw (kn_2_13 hk0) rfl) (wf_len hw (kn_2_13 hk0) rfl rfl (by decide)) c_55 (j := y2.toNatClampNeg) rfl c_58 (by decide) c_59 dX2_copyFrom_149 (fun h_56 e_57 => ?_)
        have f := f h_56 e_57
        have hw_60 := wf_sr e_57 (sr_text (kn_2_13 hk0)) hw
        refine ab_iinc C (lv' := [(2, .int (y2 + (1 : Int32))), (0, .ref (G.1 + a0)), (1, .ref (G.1 + a1))]) 2 (v := (y2 + (1 : Int32))) dX2_copyFrom_150 rfl rfl (by decide) rfl ?_
        refine ab_goto C (tgt := 133) dX2_copyFrom_153 (by decide) ?_
        refine ab_sub (lv' := [(0, .ref (G.1 + a0)), (1, .ref (G.1 + a1)), (2, .int (y2 + (1 : Int32)))]) [1, 2, 0] rfl ?_
        exact ih (y2 + (1 : Int32)) h_56  hw_60 f
def wp_X2_copyFrom_L105 (a0 : Nat) (a1 : Nat) (Q : hp_T → Prop) : Nat → Int32 → hp_T → Prop
  | 0 => fun _ _ => False
  | nn + 1 => fun y2 h => (((4 : Int32) ≤ y2 → (∃ n0, wp_X2_copyFrom_L133 a0 a1 Q  n0 (0 : Int32) h)) ∧ (¬ ((4 : Int32) ≤ y2) → (vp_in y2 4) ∧ (vp_in y2 4) ∧ wp_X3_copyFrom (a0 + 26 + y2.toNatClampNeg) (a1 + 26 + y2.toNatClampNeg) h (fun h_63 => (wp_X2_copyFrom_L105 a0 a1 Q nn) (y2 + (1 : Int32)) h_63)))
set_option maxRecDepth 100000 in
set_option maxHeartbeats 4000000 in
theorem bt_X2_copyFrom_L105 {l : Launch} {G : ab_G} {F : ab_F} {a0 : Nat} {a1 : Nat} {Q : hp_T → Prop}  (C : ab_C G F rm_X2_copyFrom cX2_copyFrom 3 RX2 none "copyFrom") (hk0 : ab_k a0 = 2) (hk1 : ab_k a1 = 2)  : ∀ (nn : Nat) (y2 : Int32) (h : hp_T), wf h → wp_X2_copyFrom_L105 a0 a1 Q nn y2 h → ab_W l G F 3 (ab_MQ G F (po_v Q) 0 0) 0 0 h [(0, .ref (G.1 + a0)), (1, .ref (G.1 + a1)), (2, .int y2)] [] 105 := by
  intro nn
  induction nn with
  | zero =>
    intro y2 h hw f
    exact absurd f id
  | succ nn ih =>
    intro y2 h hw f
    unfold wp_X2_copyFrom_L105 at f
    refine ab_iload_n C 2 dX2_copyFrom_105 rfl rfl ?_
    refine ab_iconst C (v := (4 : Int32)) dX2_copyFrom_106 (by decide) ?_
    refine ab_icmp_ge C (tgt := 131) dX2_copyFrom_107 (by decide) (fun c_29 => ?_) (fun c_29 => ?_)
    · have f := f.1 c_29
      refine ab_iconst C (v := (0 : Int32)) dX2_copyFrom_131 (by decide) ?_
      refine ab_istore_n C (lv' := [(2, .int (0 : Int32)), (0, .ref (G.1 + a0)), (1, .ref (G.1 + a1))]) dX2_copyFrom_132 rfl (by decide) rfl ?_
      obtain ⟨n0, f⟩ := f
      refine ab_sub (lv' := [(0, .ref (G.1 + a0)), (1, .ref (G.1 + a1)), (2, .int (0 : Int32))]) [1, 2, 0] rfl ?_
      exact bt_X2_copyFrom_L133 C hk0 hk1   n0 (0 : Int32) h  hw f
    · have f := f.2 c_29
      refine ab_aload_n C 0 dX2_copyFrom_110 rfl rfl ?_
      refine ab_getR C (q := (a0 + 4)) fl_X2_26 rfl hk0 (wf_lt hw hk0 rfl) (wr_2_7 hw hk0) dX2_copyFrom_111 ?_
      refine ab_iload_n C 2 dX2_copyFrom_114 rfl rfl ?_
      obtain ⟨c_61, f⟩ := f
      refine ab_aaldR C (q := (a0 + 26 + y2.toNatClampNeg)) (kn_2_7 hk0) (Or.inr (Or.inl rfl)) (wf_lt hw (kn_2_7 hk0) rfl) (wf_len hw (kn_2_7 hk0) rfl rfl (by decide)) c_61 (j := y2.toNatClampNeg) rfl (wx_task hw hk0 (vp_in_lt c_61)) dX2_copyFrom_115 ?_
      refine ab_aload_n C 1 dX2_copyFrom_116 rfl rfl ?_
      refine ab_getR C (q := (a1 + 4)) fl_X2_26 rfl hk1 (wf_lt hw hk1 rfl) (wr_2_7 hw hk1) dX2_copyFrom_117 ?_
      refine ab_iload_n C 2 dX2_copyFrom_120 rfl rfl ?_
      obtain ⟨c_62, f⟩ := f
      refine ab_aaldR C (q := (a1 + 26 + y2.toNatClampNeg)) (kn_2_7 hk1) (Or.inr (Or.inl rfl)) (wf_lt hw (kn_2_7 hk1) rfl) (wf_len hw (kn_2_7 hk1) rfl rfl (by decide)) c_62 (j := y2.toNatClampNeg) rfl (wx_task hw hk1 (vp_in_lt c_62)) dX2_copyFrom_121 ?_
      refine ab_callV C (k := 0) (n := 0) (rest := []) [.ref (G.1 + (a1 + 26 + y2.toNatClampNeg))] cl_X2_77 (mt_X3_copyFrom (kx_task hk0 (vp_in_lt c_61)) (kx_task hk1 (vp_in_lt c_62)) hw f) rfl (by decide) (kx_task hk0 (vp_in_lt c_61)) (wf_lt hw (kx_task hk0 (vp_in_lt c_61)) rfl) ⟨rfl, rfl, Nat.le_of_ble_eq_true rfl, Nat.le_of_ble_eq_true rfl, Nat.zero_le _, Nat.zero_le _⟩ rfl rfl (Nat.le_of_ble_eq_true rfl) dX2_copyFrom_122 (ab_kv (k := 0) (n := 0) (fun h_63 hw_64 f => ?_))
      refine ab_iinc C (lv' := [(2, .int (y2 + (1 : Int32))), (0, .ref (G.1 + a0)), (1, .ref (G.1 + a1))]) 2 (v := (y2 + (1 : Int32))) dX2_copyFrom_125 rfl rfl (by decide) rfl ?_
      refine ab_goto C (tgt := 105) dX2_copyFrom_128 (by decide) ?_
      refine ab_sub (lv' := [(0, .ref (G.1 + a0)), (1, .ref (G.1 + a1)), (2, .int (y2 + (1 : Int32)))]) [1, 2, 0] rfl ?_
      exact ih (y2 + (1 : Int32)) h_63  hw_64 f
def wp_X2_copyFrom_L74 (a0 : Nat) (a1 : Nat) (Q : hp_T → Prop) : Nat → Int32 → hp_T → Prop
  | 0 => fun _ _ => False
  | nn + 1 => fun y2 h => (((hp_i h a0 1) ≤ y2 → (∃ n0, wp_X2_copyFrom_L105 a0 a1 Q  n0 (0 : Int32) h)) ∧ (¬ ((hp_i h a0 1) ≤ y2) → (vp_in y2 6) ∧ (vp_in y2 6) ∧ wp_X0_copyFrom (a0 + 8 + 3 * y2.toNatClampNeg) (a1 + 8 + 3 * y2.toNatClampNeg) h (fun h_67 => (wp_X2_copyFrom_L74 a0 a1 Q nn) (y2 + (1 : Int32)) h_67)))
set_option maxRecDepth 100000 in
set_option maxHeartbeats 4000000 in
theorem bt_X2_copyFrom_L74 {l : Launch} {G : ab_G} {F : ab_F} {a0 : Nat} {a1 : Nat} {Q : hp_T → Prop}  (C : ab_C G F rm_X2_copyFrom cX2_copyFrom 3 RX2 none "copyFrom") (hk0 : ab_k a0 = 2) (hk1 : ab_k a1 = 2)  : ∀ (nn : Nat) (y2 : Int32) (h : hp_T), wf h → wp_X2_copyFrom_L74 a0 a1 Q nn y2 h → ab_W l G F 3 (ab_MQ G F (po_v Q) 0 0) 0 0 h [(0, .ref (G.1 + a0)), (1, .ref (G.1 + a1)), (2, .int y2)] [] 74 := by
  intro nn
  induction nn with
  | zero =>
    intro y2 h hw f
    exact absurd f id
  | succ nn ih =>
    intro y2 h hw f
    unfold wp_X2_copyFrom_L74 at f
    refine ab_iload_n C 2 dX2_copyFrom_74 rfl rfl ?_
    refine ab_aload_n C 0 dX2_copyFrom_75 rfl rfl ?_
    refine ab_getI C fl_X2_52 rfl hk0 (wf_lt hw hk0 rfl) dX2_copyFrom_76 ?_
    refine ab_icmp_ge C (tgt := 103) dX2_copyFrom_79 (by decide) (fun c_28 => ?_) (fun c_28 => ?_)
    · have f := f.1 c_28
      refine ab_iconst C (v := (0 : Int32)) dX2_copyFrom_103 (by decide) ?_
      refine ab_istore_n C (lv' := [(2, .int (0 : Int32)), (0, .ref (G.1 + a0)), (1, .ref (G.1 + a1))]) dX2_copyFrom_104 rfl (by decide) rfl ?_
      obtain ⟨n0, f⟩ := f
      refine ab_sub (lv' := [(0, .ref (G.1 + a0)), (1, .ref (G.1 + a1)), (2, .int (0 : Int32))]) [1, 2, 0] rfl ?_
      exact bt_X2_copyFrom_L105 C hk0 hk1   n0 (0 : Int32) h  hw f
    · have f := f.2 c_28
      refine ab_aload_n C 0 dX2_copyFrom_82 rfl rfl ?_
      refine ab_getR C (q := (a0 + 1)) fl_X2_11 rfl hk0 (wf_lt hw hk0 rfl) (wr_2_0 hw hk0) dX2_copyFrom_83 ?_
      refine ab_iload_n C 2 dX2_copyFrom_86 rfl rfl ?_
      obtain ⟨c_65, f⟩ := f
      refine ab_aaldR C (q := (a0 + 8 + 3 * y2.toNatClampNeg)) (kn_2_0 hk0) (Or.inl rfl) (wf_lt hw (kn_2_0 hk0) rfl) (wf_len hw (kn_2_0 hk0) rfl rfl (by decide)) c_65 (j := y2.toNatClampNeg) rfl (wx_bunk hw hk0 (vp_in_lt c_65)) dX2_copyFrom_87 ?_
      refine ab_aload_n C 1 dX2_copyFrom_88 rfl rfl ?_
      refine ab_getR C (q := (a1 + 1)) fl_X2_11 rfl hk1 (wf_lt hw hk1 rfl) (wr_2_0 hw hk1) dX2_copyFrom_89 ?_
      refine ab_iload_n C 2 dX2_copyFrom_92 rfl rfl ?_
      obtain ⟨c_66, f⟩ := f
      refine ab_aaldR C (q := (a1 + 8 + 3 * y2.toNatClampNeg)) (kn_2_0 hk1) (Or.inl rfl) (wf_lt hw (kn_2_0 hk1) rfl) (wf_len hw (kn_2_0 hk1) rfl rfl (by decide)) c_66 (j := y2.toNatClampNeg) rfl (wx_bunk hw hk1 (vp_in_lt c_66)) dX2_copyFrom_93 ?_
      refine ab_callV C (k := 0) (n := 0) (rest := []) [.ref (G.1 + (a1 + 8 + 3 * y2.toNatClampNeg))] cl_X2_73 (mt_X0_copyFrom (kx_bunk hk0 (vp_in_lt c_65)) (kx_bunk hk1 (vp_in_lt c_66)) hw f) rfl (by decide) (kx_bunk hk0 (vp_in_lt c_65)) (wf_lt hw (kx_bunk hk0 (vp_in_lt c_65)) rfl) ⟨rfl, rfl, Nat.le_of_ble_eq_true rfl, Nat.le_of_ble_eq_true rfl, Nat.zero_le _, Nat.zero_le _⟩ rfl rfl (Nat.le_of_ble_eq_true rfl) dX2_copyFrom_94 (ab_kv (k := 0) (n := 0) (fun h_67 hw_68 f => ?_))
      refine ab_iinc C (lv' := [(2, .int (y2 + (1 : Int32))), (0, .ref (G.1 + a0)), (1, .ref (G.1 + a1))]) 2 (v := (y2 + (1 : Int32))) dX2_copyFrom_97 rfl rfl (by decide) rfl ?_
      refine ab_goto C (tgt := 74) dX2_copyFrom_100 (by decide) ?_
      refine ab_sub (lv' := [(0, .ref (G.1 + a0)), (1, .ref (G.1 + a1)), (2, .int (y2 + (1 : Int32)))]) [1, 2, 0] rfl ?_
      exact ih (y2 + (1 : Int32)) h_67  hw_68 f
def wp_X2_copyFrom (a0 : Nat) (a1 : Nat) (h : hp_T) (Q : hp_T → Prop) : Prop :=
  (∀ h_1, h_1 = hp_si h a0 1 (hp_i h a1 1) → (∀ h_4, h_4 = hp_si h_1 a0 4 (hp_i h_1 a1 4) → (∀ h_7, h_7 = hp_si h_4 a0 5 (hp_i h_4 a1 5) → (∀ h_10, h_10 = hp_si h_7 a0 6 (hp_i h_7 a1 6) → (∀ h_13, h_13 = hp_si h_10 a0 8 (hp_i h_10 a1 8) → (∀ h_16, h_16 = hp_si h_13 a0 9 (hp_i h_13 a1 9) → (∀ h_19, h_19 = hp_si h_16 a0 10 (hp_i h_16 a1 10) → (∀ h_22, h_22 = hp_si h_19 a0 12 (hp_i h_19 a1 12) → (∀ h_25, h_25 = hp_si h_22 a0 15 (hp_i h_22 a1 15) → (∃ n0, wp_X2_copyFrom_L74 a0 a1 Q  n0 (0 : Int32) h_25))))))))))
set_option maxRecDepth 100000 in
set_option maxHeartbeats 4000000 in
theorem mt_X2_copyFrom {l : Launch} {G : ab_G} {a0 : Nat} {a1 : Nat} {h : hp_T} {Q : hp_T → Prop} (hk0 : ab_k a0 = 2) (hk1 : ab_k a1 = 2) (hw : wf h) (f : wp_X2_copyFrom a0 a1 h Q) : ab_M l G yX2_copyFrom cX2_copyFrom 3 none rm_X2_copyFrom 0 0 [.ref (G.1 + a0), .ref (G.1 + a1)] h (po_v Q) := by
  refine ab_intro (own := RX2) (nm := "copyFrom") rfl rfl rfl (Nat.le_of_ble_eq_true rfl) (fun F C => ?_)
  show ab_W l G F 3 (ab_MQ G F (po_v Q) 0 0) 0 0 h [(0, .ref (G.1 + a0)), (1, .ref (G.1 + a1))] [] 0
  unfold wp_X2_copyFrom at f
  refine ab_aload_n C 0 dX2_copyFrom_0 rfl rfl ?_
  refine ab_aload_n C 1 dX2_copyFrom_1 rfl rfl ?_
  refine ab_getI C fl_X2_52 rfl hk1 (wf_lt hw hk1 rfl) dX2_copyFrom_2 ?_
  refine ab_putI C fl_X2_52 rfl hk0 (wf_lt hw hk0 rfl) rfl rfl dX2_copyFrom_5 (fun h_1 e_2 => ?_)
  have f := f h_1 e_2
  have hw_3 := wf_si e_2 hw
  refine ab_aload_n C 0 dX2_copyFrom_8 rfl rfl ?_
  refine ab_aload_n C 1 dX2_copyFrom_9 rfl rfl ?_
  refine ab_getI C fl_X2_55 rfl hk1 (wf_lt hw_3 hk1 rfl) dX2_copyFrom_10 ?_
  refine ab_putI C fl_X2_55 rfl hk0 (wf_lt hw_3 hk0 rfl) rfl rfl dX2_copyFrom_13 (fun h_4 e_5 => ?_)
  have f := f h_4 e_5
  have hw_6 := wf_si e_5 hw_3
  refine ab_aload_n C 0 dX2_copyFrom_16 rfl rfl ?_
  refine ab_aload_n C 1 dX2_copyFrom_17 rfl rfl ?_
  refine ab_getI C fl_X2_58 rfl hk1 (wf_lt hw_6 hk1 rfl) dX2_copyFrom_18 ?_
  refine ab_putI C fl_X2_58 rfl hk0 (wf_lt hw_6 hk0 rfl) rfl rfl dX2_copyFrom_21 (fun h_7 e_8 => ?_)
  have f := f h_7 e_8
  have hw_9 := wf_si e_8 hw_6
  refine ab_aload_n C 0 dX2_copyFrom_24 rfl rfl ?_
  refine ab_aload_n C 1 dX2_copyFrom_25 rfl rfl ?_
  refine ab_getI C fl_X2_61 rfl hk1 (wf_lt hw_9 hk1 rfl) dX2_copyFrom_26 ?_
  refine ab_putI C fl_X2_61 rfl hk0 (wf_lt hw_9 hk0 rfl) rfl rfl dX2_copyFrom_29 (fun h_10 e_11 => ?_)
  have f := f h_10 e_11
  have hw_12 := wf_si e_11 hw_9
  refine ab_aload_n C 0 dX2_copyFrom_32 rfl rfl ?_
  refine ab_aload_n C 1 dX2_copyFrom_33 rfl rfl ?_
  refine ab_getI C fl_X2_64 rfl hk1 (wf_lt hw_12 hk1 rfl) dX2_copyFrom_34 ?_
  refine ab_putI C fl_X2_64 rfl hk0 (wf_lt hw_12 hk0 rfl) rfl rfl dX2_copyFrom_37 (fun h_13 e_14 => ?_)
  have f := f h_13 e_14
  have hw_15 := wf_si e_14 hw_12
  refine ab_aload_n C 0 dX2_copyFrom_40 rfl rfl ?_
  refine ab_aload_n C 1 dX2_copyFrom_41 rfl rfl ?_
  refine ab_getI C fl_X2_30 rfl hk1 (wf_lt hw_15 hk1 rfl) dX2_copyFrom_42 ?_
  refine ab_putI C fl_X2_30 rfl hk0 (wf_lt hw_15 hk0 rfl) rfl rfl dX2_copyFrom_45 (fun h_16 e_17 => ?_)
  have f := f h_16 e_17
  have hw_18 := wf_si e_17 hw_15
  refine ab_aload_n C 0 dX2_copyFrom_48 rfl rfl ?_
  refine ab_aload_n C 1 dX2_copyFrom_49 rfl rfl ?_
  refine ab_getI C fl_X2_34 rfl hk1 (wf_lt hw_18 hk1 rfl) dX2_copyFrom_50 ?_
  refine ab_putI C fl_X2_34 rfl hk0 (wf_lt hw_18 hk0 rfl) rfl rfl dX2_copyFrom_53 (fun h_19 e_20 => ?_)
  have f := f h_19 e_20
  have hw_21 := wf_si e_20 hw_18
  refine ab_aload_n C 0 dX2_copyFrom_56 rfl rfl ?_
  refine ab_aload_n C 1 dX2_copyFrom_57 rfl rfl ?_
  refine ab_getI C fl_X2_67 rfl hk1 (wf_lt hw_21 hk1 rfl) dX2_copyFrom_58 ?_
  refine ab_putI C fl_X2_67 rfl hk0 (wf_lt hw_21 hk0 rfl) rfl rfl dX2_copyFrom_61 (fun h_22 e_23 => ?_)
  have f := f h_22 e_23
  have hw_24 := wf_si e_23 hw_21
  refine ab_aload_n C 0 dX2_copyFrom_64 rfl rfl ?_
  refine ab_aload_n C 1 dX2_copyFrom_65 rfl rfl ?_
  refine ab_getI C fl_X2_70 rfl hk1 (wf_lt hw_24 hk1 rfl) dX2_copyFrom_66 ?_
  refine ab_putI C fl_X2_70 rfl hk0 (wf_lt hw_24 hk0 rfl) rfl rfl dX2_copyFrom_69 (fun h_25 e_26 => ?_)
  have f := f h_25 e_26
  have hw_27 := wf_si e_26 hw_24
  refine ab_iconst C (v := (0 : Int32)) dX2_copyFrom_72 (by decide) ?_
  refine ab_istore_n C (lv' := [(2, .int (0 : Int32)), (0, .ref (G.1 + a0)), (1, .ref (G.1 + a1))]) dX2_copyFrom_73 rfl (by decide) rfl ?_
  obtain ⟨n0, f⟩ := f
  refine ab_sub (lv' := [(0, .ref (G.1 + a0)), (1, .ref (G.1 + a1)), (2, .int (0 : Int32))]) [1, 2, 0] rfl ?_
  exact bt_X2_copyFrom_L74 C hk0 hk1   n0 (0 : Int32) h_25  hw_27 f
/-! X2_doneOfAll -/
def rm_X2_doneOfAll : Room := { frames := 2, cells := 0, slots := 0, locals := 100 }
def wp_X2_doneOfAll_L4 (a0 : Nat) (h : hp_T) (Q : Int32 → Prop) : Nat → Int32 → Int32 → Prop
  | 0 => fun _ _ => False
  | nn + 1 => fun y1 y2 => (((4 : Int32) ≤ y2 → (Q y1)) ∧ (¬ ((4 : Int32) ≤ y2) → (vp_in y2 4) ∧ (wp_X2_doneOfAll_L4 a0 h Q nn) (y1 + (hp_i h (a0 + 26 + y2.toNatClampNeg) 2)) (y2 + (1 : Int32))))
set_option maxRecDepth 100000 in
set_option maxHeartbeats 4000000 in
theorem bt_X2_doneOfAll_L4 {l : Launch} {G : ab_G} {F : ab_F} {a0 : Nat} {h : hp_T} {Q : Int32 → Prop}  (C : ab_C G F rm_X2_doneOfAll cX2_doneOfAll 3 RX2 (some .int) "doneOfAll") (hk0 : ab_k a0 = 2) (hw : wf h)  : ∀ (nn : Nat) (y1 : Int32) (y2 : Int32), wp_X2_doneOfAll_L4 a0 h Q nn y1 y2 → ab_W l G F 3 (ab_MQ G F (po_p h Q) 0 0) 0 0 h [(0, .ref (G.1 + a0)), (1, .int y1), (2, .int y2)] [] 4 := by
  intro nn
  induction nn with
  | zero =>
    intro y1 y2 f
    exact absurd f id
  | succ nn ih =>
    intro y1 y2 f
    unfold wp_X2_doneOfAll_L4 at f
    refine ab_iload_n C 2 dX2_doneOfAll_4 rfl rfl ?_
    refine ab_iconst C (v := (4 : Int32)) dX2_doneOfAll_5 (by decide) ?_
    refine ab_icmp_ge C (tgt := 27) dX2_doneOfAll_6 (by decide) (fun c_1 => ?_) (fun c_1 => ?_)
    · have f := f.1 c_1
      refine ab_iload_n C 1 dX2_doneOfAll_27 rfl rfl ?_
      exact ab_iret C dX2_doneOfAll_28 ⟨rfl, _, rfl, f⟩
    · have f := f.2 c_1
      refine ab_iload_n C 1 dX2_doneOfAll_9 rfl rfl ?_
      refine ab_aload_n C 0 dX2_doneOfAll_10 rfl rfl ?_
      refine ab_getR C (q := (a0 + 4)) fl_X2_26 rfl hk0 (wf_lt hw hk0 rfl) (wr_2_7 hw hk0) dX2_doneOfAll_11 ?_
      refine ab_iload_n C 2 dX2_doneOfAll_14 rfl rfl ?_
      obtain ⟨c_2, f⟩ := f
      refine ab_aaldR C (q := (a0 + 26 + y2.toNatClampNeg)) (kn_2_7 hk0) (Or.inr (Or.inl rfl)) (wf_lt hw (kn_2_7 hk0) rfl) (wf_len hw (kn_2_7 hk0) rfl rfl (by decide)) c_2 (j := y2.toNatClampNeg) rfl (wx_task hw hk0 (vp_in_lt c_2)) dX2_doneOfAll_15 ?_
      refine ab_getI C fl_X2_183 rfl (kx_task hk0 (vp_in_lt c_2)) (wf_lt hw (kx_task hk0 (vp_in_lt c_2)) rfl) dX2_doneOfAll_16 ?_
      refine ab_iadd C dX2_doneOfAll_19 ?_
      refine ab_istore_n C (lv' := [(1, .int (y1 + (hp_i h (a0 + 26 + y2.toNatClampNeg) 2))), (0, .ref (G.1 + a0)), (2, .int y2)]) dX2_doneOfAll_20 rfl (by decide) rfl ?_
      refine ab_iinc C (lv' := [(2, .int (y2 + (1 : Int32))), (1, .int (y1 + (hp_i h (a0 + 26 + y2.toNatClampNeg) 2))), (0, .ref (G.1 + a0))]) 2 (v := (y2 + (1 : Int32))) dX2_doneOfAll_21 rfl rfl (by decide) rfl ?_
      refine ab_goto C (tgt := 4) dX2_doneOfAll_24 (by decide) ?_
      refine ab_sub (lv' := [(0, .ref (G.1 + a0)), (1, .int (y1 + (hp_i h (a0 + 26 + y2.toNatClampNeg) 2))), (2, .int (y2 + (1 : Int32)))]) [2, 1, 0] rfl ?_
      exact ih (y1 + (hp_i h (a0 + 26 + y2.toNatClampNeg) 2)) (y2 + (1 : Int32))   f
def wp_X2_doneOfAll (a0 : Nat) (h : hp_T) (Q : Int32 → Prop) : Prop :=
  (∃ n0, wp_X2_doneOfAll_L4 a0 h Q  n0 (0 : Int32) (0 : Int32))
set_option maxRecDepth 100000 in
set_option maxHeartbeats 4000000 in
theorem mt_X2_doneOfAll {l : Launch} {G : ab_G} {a0 : Nat} {h : hp_T} {Q : Int32 → Prop} (hk0 : ab_k a0 = 2) (hw : wf h) (f : wp_X2_doneOfAll a0 h Q) : ab_M l G yX2_doneOfAll cX2_doneOfAll 3 (some .int) rm_X2_doneOfAll 0 0 [.ref (G.1 + a0)] h (po_p h Q) := by
  refine ab_intro (own := RX2) (nm := "doneOfAll") rfl rfl rfl (Nat.le_of_ble_eq_true rfl) (fun F C => ?_)
  show ab_W l G F 3 (ab_MQ G F (po_p h Q) 0 0) 0 0 h [(0, .ref (G.1 + a0))] [] 0
  unfold wp_X2_doneOfAll at f
  refine ab_iconst C (v := (0 : Int32)) dX2_doneOfAll_0 (by decide) ?_
  refine ab_istore_n C (lv' := [(1, .int (0 : Int32)), (0, .ref (G.1 + a0))]) dX2_doneOfAll_1 rfl (by decide) rfl ?_
  refine ab_iconst C (v := (0 : Int32)) dX2_doneOfAll_2 (by decide) ?_
  refine ab_istore_n C (lv' := [(2, .int (0 : Int32)), (1, .int (0 : Int32)), (0, .ref (G.1 + a0))]) dX2_doneOfAll_3 rfl (by decide) rfl ?_
  obtain ⟨n0, f⟩ := f
  refine ab_sub (lv' := [(0, .ref (G.1 + a0)), (1, .int (0 : Int32)), (2, .int (0 : Int32))]) [2, 1, 0] rfl ?_
  exact bt_X2_doneOfAll_L4 C hk0 hw  n0 (0 : Int32) (0 : Int32)   f
/-! X2_draw -/
def rm_X2_draw : Room := { frames := 2, cells := 0, slots := 0, locals := 100 }
def wp_X2_draw (a0 : Nat) (h : hp_T) (Q : Int32 → hp_T → Prop) : Prop :=
  (∀ h_1, h_1 = hp_si h a0 10 (((hp_i h a0 10) * (1103515245 : Int32)) + (12345 : Int32)) → (Q (ab_ush (hp_i h_1 a0 10) (8 : Int32)) h_1))
set_option maxRecDepth 100000 in
set_option maxHeartbeats 4000000 in
theorem mt_X2_draw {l : Launch} {G : ab_G} {a0 : Nat} {h : hp_T} {Q : Int32 → hp_T → Prop} (hk0 : ab_k a0 = 2) (hw : wf h) (f : wp_X2_draw a0 h Q) : ab_M l G yX2_draw cX2_draw 1 (some .int) rm_X2_draw 0 0 [.ref (G.1 + a0)] h (po_h Q) := by
  refine ab_intro (own := RX2) (nm := "draw") rfl rfl rfl (Nat.le_of_ble_eq_true rfl) (fun F C => ?_)
  show ab_W l G F 1 (ab_MQ G F (po_h Q) 0 0) 0 0 h [(0, .ref (G.1 + a0))] [] 0
  unfold wp_X2_draw at f
  refine ab_aload_n C 0 dX2_draw_0 rfl rfl ?_
  refine ab_aload_n C 0 dX2_draw_1 rfl rfl ?_
  refine ab_getI C fl_X2_34 rfl hk0 (wf_lt hw hk0 rfl) dX2_draw_2 ?_
  refine ab_ldc C kw_t511 dX2_draw_5 ?_
  refine ab_imul C dX2_draw_7 ?_
  refine ab_sipush C (v := (12345 : Int32)) dX2_draw_8 (by decide) ?_
  refine ab_iadd C dX2_draw_11 ?_
  refine ab_putI C fl_X2_34 rfl hk0 (wf_lt hw hk0 rfl) rfl rfl dX2_draw_12 (fun h_1 e_2 => ?_)
  have f := f h_1 e_2
  have hw_3 := wf_si e_2 hw
  refine ab_aload_n C 0 dX2_draw_15 rfl rfl ?_
  refine ab_getI C fl_X2_34 rfl hk0 (wf_lt hw_3 hk0 rfl) dX2_draw_16 ?_
  refine ab_bipush C (v := (8 : Int32)) dX2_draw_19 (by decide) ?_
  refine ab_iushr C dX2_draw_21 ?_
  exact ab_iret C dX2_draw_22 ⟨hw_3, _, rfl, f⟩
/-! X2_endDay -/
def rm_X2_endDay : Room := { frames := 6, cells := 0, slots := 0, locals := 186 }
def wp_X2_endDay_L2 (a0 : Nat) (Q : hp_T → Prop) : Nat → Int32 → hp_T → Prop
  | 0 => fun _ _ => False
  | nn + 1 => fun y1 h => (((4 : Int32) ≤ y1 → (∀ h_2, h_2 = hp_si h a0 8 ((hp_i h a0 8) + (1 : Int32)) → (Q h_2))) ∧ (¬ ((4 : Int32) ≤ y1) → (vp_in y1 4) ∧ (vp_in y1 4) ∧ wp_X2_knowers a0 (hp_i h (a0 + 26 + y1.toNatClampNeg) 0) h (fun v_7 => wp_X3_tryWith (a0 + 26 + y1.toNatClampNeg) v_7 h (fun h_8 => (wp_X2_endDay_L2 a0 Q nn) (y1 + (1 : Int32)) h_8))))
set_option maxRecDepth 100000 in
set_option maxHeartbeats 4000000 in
theorem bt_X2_endDay_L2 {l : Launch} {G : ab_G} {F : ab_F} {a0 : Nat} {Q : hp_T → Prop}  (C : ab_C G F rm_X2_endDay cX2_endDay 2 RX2 none "endDay") (hk0 : ab_k a0 = 2)  : ∀ (nn : Nat) (y1 : Int32) (h : hp_T), wf h → wp_X2_endDay_L2 a0 Q nn y1 h → ab_W l G F 2 (ab_MQ G F (po_v Q) 0 0) 0 0 h [(0, .ref (G.1 + a0)), (1, .int y1)] [] 2 := by
  intro nn
  induction nn with
  | zero =>
    intro y1 h hw f
    exact absurd f id
  | succ nn ih =>
    intro y1 h hw f
    unfold wp_X2_endDay_L2 at f
    refine ab_iload_n C 1 dX2_endDay_2 rfl rfl ?_
    refine ab_iconst C (v := (4 : Int32)) dX2_endDay_3 (by decide) ?_
    refine ab_icmp_ge C (tgt := 35) dX2_endDay_4 (by decide) (fun c_1 => ?_) (fun c_1 => ?_)
    · have f := f.1 c_1
      refine ab_aload_n C 0 dX2_endDay_35 rfl rfl ?_
      refine ab_dup C dX2_endDay_36 rfl ?_
      refine ab_getI C fl_X2_64 rfl hk0 (wf_lt hw hk0 rfl) dX2_endDay_37 ?_
      refine ab_iconst C (v := (1 : Int32)) dX2_endDay_40 (by decide) ?_
      refine ab_iadd C dX2_endDay_41 ?_
      refine ab_putI C fl_X2_64 rfl hk0 (wf_lt hw hk0 rfl) rfl rfl dX2_endDay_42 (fun h_2 e_3 => ?_)
      have f := f h_2 e_3
      have hw_4 := wf_si e_3 hw
      exact ab_vret C dX2_endDay_45 ⟨hw_4, rfl, f⟩
    · have f := f.2 c_1
      refine ab_aload_n C 0 dX2_endDay_7 rfl rfl ?_
      refine ab_getR C (q := (a0 + 4)) fl_X2_26 rfl hk0 (wf_lt hw hk0 rfl) (wr_2_7 hw hk0) dX2_endDay_8 ?_
      refine ab_iload_n C 1 dX2_endDay_11 rfl rfl ?_
      obtain ⟨c_5, f⟩ := f
      refine ab_aaldR C (q := (a0 + 26 + y1.toNatClampNeg)) (kn_2_7 hk0) (Or.inr (Or.inl rfl)) (wf_lt hw (kn_2_7 hk0) rfl) (wf_len hw (kn_2_7 hk0) rfl rfl (by decide)) c_5 (j := y1.toNatClampNeg) rfl (wx_task hw hk0 (vp_in_lt c_5)) dX2_endDay_12 ?_
      refine ab_aload_n C 0 dX2_endDay_13 rfl rfl ?_
      refine ab_aload_n C 0 dX2_endDay_14 rfl rfl ?_
      refine ab_getR C (q := (a0 + 4)) fl_X2_26 rfl hk0 (wf_lt hw hk0 rfl) (wr_2_7 hw hk0) dX2_endDay_15 ?_
      refine ab_iload_n C 1 dX2_endDay_18 rfl rfl ?_
      obtain ⟨c_6, f⟩ := f
      refine ab_aaldR C (q := (a0 + 26 + y1.toNatClampNeg)) (kn_2_7 hk0) (Or.inr (Or.inl rfl)) (wf_lt hw (kn_2_7 hk0) rfl) (wf_len hw (kn_2_7 hk0) rfl rfl (by decide)) c_6 (j := y1.toNatClampNeg) rfl (wx_task hw hk0 (vp_in_lt c_6)) dX2_endDay_19 ?_
      refine ab_getI C fl_X2_145 rfl (kx_task hk0 (vp_in_lt c_6)) (wf_lt hw (kx_task hk0 (vp_in_lt c_6)) rfl) dX2_endDay_20 ?_
      refine ab_callV C (k := 0) (n := 0) (rest := [.ref (G.1 + (a0 + 26 + y1.toNatClampNeg))]) [.int (hp_i h (a0 + 26 + y1.toNatClampNeg) 0)] cl_X2_148 (mt_X2_knowers hk0 hw f) rfl (by decide) hk0 (wf_lt hw hk0 rfl) ⟨rfl, rfl, Nat.le_of_ble_eq_true rfl, Nat.le_of_ble_eq_true rfl, Nat.zero_le _, Nat.zero_le _⟩ rfl rfl (Nat.le_of_ble_eq_true rfl) dX2_endDay_23 (ab_kp (k := 0) (n := 0) (fun v_7 f => ?_))
      refine ab_callV C (k := 0) (n := 0) (rest := []) [.int v_7] cl_X2_151 (mt_X3_tryWith (kx_task hk0 (vp_in_lt c_5)) hw f) rfl (by decide) (kx_task hk0 (vp_in_lt c_5)) (wf_lt hw (kx_task hk0 (vp_in_lt c_5)) rfl) ⟨rfl, rfl, Nat.le_of_ble_eq_true rfl, Nat.le_of_ble_eq_true rfl, Nat.zero_le _, Nat.zero_le _⟩ rfl rfl (Nat.le_of_ble_eq_true rfl) dX2_endDay_26 (ab_kv (k := 0) (n := 0) (fun h_8 hw_9 f => ?_))
      refine ab_iinc C (lv' := [(1, .int (y1 + (1 : Int32))), (0, .ref (G.1 + a0))]) 1 (v := (y1 + (1 : Int32))) dX2_endDay_29 rfl rfl (by decide) rfl ?_
      refine ab_goto C (tgt := 2) dX2_endDay_32 (by decide) ?_
      refine ab_sub (lv' := [(0, .ref (G.1 + a0)), (1, .int (y1 + (1 : Int32)))]) [1, 0] rfl ?_
      exact ih (y1 + (1 : Int32)) h_8  hw_9 f
def wp_X2_endDay (a0 : Nat) (h : hp_T) (Q : hp_T → Prop) : Prop :=
  (∃ n0, wp_X2_endDay_L2 a0 Q  n0 (0 : Int32) h)
set_option maxRecDepth 100000 in
set_option maxHeartbeats 4000000 in
theorem mt_X2_endDay {l : Launch} {G : ab_G} {a0 : Nat} {h : hp_T} {Q : hp_T → Prop} (hk0 : ab_k a0 = 2) (hw : wf h) (f : wp_X2_endDay a0 h Q) : ab_M l G yX2_endDay cX2_endDay 2 none rm_X2_endDay 0 0 [.ref (G.1 + a0)] h (po_v Q) := by
  refine ab_intro (own := RX2) (nm := "endDay") rfl rfl rfl (Nat.le_of_ble_eq_true rfl) (fun F C => ?_)
  show ab_W l G F 2 (ab_MQ G F (po_v Q) 0 0) 0 0 h [(0, .ref (G.1 + a0))] [] 0
  unfold wp_X2_endDay at f
  refine ab_iconst C (v := (0 : Int32)) dX2_endDay_0 (by decide) ?_
  refine ab_istore_n C (lv' := [(1, .int (0 : Int32)), (0, .ref (G.1 + a0))]) dX2_endDay_1 rfl (by decide) rfl ?_
  obtain ⟨n0, f⟩ := f
  refine ab_sub (lv' := [(0, .ref (G.1 + a0)), (1, .int (0 : Int32))]) [1, 0] rfl ?_
  exact bt_X2_endDay_L2 C hk0   n0 (0 : Int32) h  hw f
/-! X2_enlist -/
def rm_X2_enlist : Room := { frames := 2, cells := 0, slots := 0, locals := 100 }
def wp_X2_enlist (a0 : Nat) (x1 : Int32) (x2 : Int32) (h : hp_T) (Q : Int32 → hp_T → Prop) : Prop :=
  (vp_in (hp_i h a0 4) 12) ∧ (∀ h_2, h_2 = hp_si h (a0 + 2) ((hp_i h a0 4).toNatClampNeg) x1 → (vp_in (hp_i h_2 a0 4) 12) ∧ (∀ h_6, h_6 = hp_si h_2 (a0 + 3) ((hp_i h_2 a0 4).toNatClampNeg) x2 → (∀ h_9, h_9 = hp_si h_6 a0 4 ((hp_i h_6 a0 4) + (1 : Int32)) → (Q (hp_i h_9 a0 4) h_9))))
set_option maxRecDepth 100000 in
set_option maxHeartbeats 4000000 in
theorem mt_X2_enlist {l : Launch} {G : ab_G} {a0 : Nat} {x1 : Int32} {x2 : Int32} {h : hp_T} {Q : Int32 → hp_T → Prop} (hk0 : ab_k a0 = 2) (hw : wf h) (f : wp_X2_enlist a0 x1 x2 h Q) : ab_M l G yX2_enlist cX2_enlist 3 (some .int) rm_X2_enlist 0 0 [.ref (G.1 + a0), .int x1, .int x2] h (po_h Q) := by
  refine ab_intro (own := RX2) (nm := "enlist") rfl rfl rfl (Nat.le_of_ble_eq_true rfl) (fun F C => ?_)
  show ab_W l G F 3 (ab_MQ G F (po_h Q) 0 0) 0 0 h [(0, .ref (G.1 + a0)), (1, .int x1), (2, .int x2)] [] 0
  unfold wp_X2_enlist at f
  refine ab_aload_n C 0 dX2_enlist_0 rfl rfl ?_
  refine ab_getR C (q := (a0 + 2)) fl_X2_17 rfl hk0 (wf_lt hw hk0 rfl) (wr_2_2 hw hk0) dX2_enlist_1 ?_
  refine ab_aload_n C 0 dX2_enlist_4 rfl rfl ?_
  refine ab_getI C fl_X2_55 rfl hk0 (wf_lt hw hk0 rfl) dX2_enlist_5 ?_
  refine ab_iload_n C 1 dX2_enlist_8 rfl rfl ?_
  obtain ⟨c_1, f⟩ := f
  refine ab_iast C (by rw [(kn_2_2 hk0)]; decide) (wf_lt hw (kn_2_2 hk0) rfl) (wf_len hw (kn_2_2 hk0) rfl rfl (by decide)) c_1 (j := (hp_i h a0 4).toNatClampNeg) rfl dX2_enlist_9 (fun h_2 e_3 => ?_)
  have f := f h_2 e_3
  have hw_4 := wf_si e_3 hw
  refine ab_aload_n C 0 dX2_enlist_10 rfl rfl ?_
  refine ab_getR C (q := (a0 + 3)) fl_X2_21 rfl hk0 (wf_lt hw_4 hk0 rfl) (wr_2_3 hw_4 hk0) dX2_enlist_11 ?_
  refine ab_aload_n C 0 dX2_enlist_14 rfl rfl ?_
  refine ab_getI C fl_X2_55 rfl hk0 (wf_lt hw_4 hk0 rfl) dX2_enlist_15 ?_
  refine ab_iload_n C 2 dX2_enlist_18 rfl rfl ?_
  obtain ⟨c_5, f⟩ := f
  refine ab_iast C (by rw [(kn_2_3 hk0)]; decide) (wf_lt hw_4 (kn_2_3 hk0) rfl) (wf_len hw_4 (kn_2_3 hk0) rfl rfl (by decide)) c_5 (j := (hp_i h_2 a0 4).toNatClampNeg) rfl dX2_enlist_19 (fun h_6 e_7 => ?_)
  have f := f h_6 e_7
  have hw_8 := wf_si e_7 hw_4
  refine ab_aload_n C 0 dX2_enlist_20 rfl rfl ?_
  refine ab_dup C dX2_enlist_21 rfl ?_
  refine ab_getI C fl_X2_55 rfl hk0 (wf_lt hw_8 hk0 rfl) dX2_enlist_22 ?_
  refine ab_iconst C (v := (1 : Int32)) dX2_enlist_25 (by decide) ?_
  refine ab_iadd C dX2_enlist_26 ?_
  refine ab_putI C fl_X2_55 rfl hk0 (wf_lt hw_8 hk0 rfl) rfl rfl dX2_enlist_27 (fun h_9 e_10 => ?_)
  have f := f h_9 e_10
  have hw_11 := wf_si e_10 hw_8
  refine ab_aload_n C 0 dX2_enlist_30 rfl rfl ?_
  refine ab_getI C fl_X2_55 rfl hk0 (wf_lt hw_11 hk0 rfl) dX2_enlist_31 ?_
  exact ab_iret C dX2_enlist_34 ⟨hw_11, _, rfl, f⟩
/-! X2_init -/
def rm_X2_init : Room := { frames := 3, cells := 29, slots := 250, locals := 120 }
def wp_X2_init_L100 (a0 : Nat) (Q : hp_T → Prop) : Nat → Int32 → Nat → Nat → hp_T → Prop
  | 0 => fun _ _ _ _ => False
  | nn + 1 => fun y1 kc nc h => (((4 : Int32) ≤ y1 → (kc ≤ 29) ∧ (nc ≤ 250) ∧ (Q h)) ∧ (¬ ((4 : Int32) ≤ y1) → (a0 < hp_n h) ∧ (∃ q_54, (hp_r h a0 7 = some q_54) ∧ (ab_k (hp_n h) = 3) ∧ ((kc + 1) ≤ 29) ∧ ((nc + 4) ≤ 250) ∧ (∀ h_56, h_56 = hp_no h → ((hp_n h) < hp_n h_56) ∧ (((kc + 1) + 0) ≤ 29) ∧ (((nc + 4) + 0) ≤ 250) ∧ wp_X3_init (hp_n h) h_56 (fun h_64 => (ab_k q_54 = 13) ∧ (q_54 < hp_n h_64) ∧ (vp_in y1 (hp_l h_64 q_54)) ∧ ((hp_n h) < hp_n h_64) ∧ (∀ h_68, h_68 = hp_sr h_64 q_54 y1.toNatClampNeg (some (hp_n h)) → (wp_X2_init_L100 a0 Q nn) (y1 + (1 : Int32)) ((kc + 1) + 0) ((nc + 4) + 0) h_68))))))
set_option maxRecDepth 100000 in
set_option maxHeartbeats 4000000 in
theorem bt_X2_init_L100 {l : Launch} {G : ab_G} {F : ab_F} {a0 : Nat} {Q : hp_T → Prop}  (C : ab_C G F rm_X2_init cX2_init 2 RX2 none "<init>") (hk0 : ab_k a0 = 2)  : ∀ (nn : Nat) (y1 : Int32) (kc : Nat) (nc : Nat) (h : hp_T), wp_X2_init_L100 a0 Q nn y1 kc nc h → ab_W l G F 2 (ab_MQ G F (po_r Q) 29 250) kc nc h [(0, .ref (G.1 + a0)), (1, .int y1)] [] 100 := by
  intro nn
  induction nn with
  | zero =>
    intro y1 kc nc h f
    exact absurd f id
  | succ nn ih =>
    intro y1 kc nc h f
    unfold wp_X2_init_L100 at f
    refine ab_iload_n C 1 dX2_init_100 rfl rfl ?_
    refine ab_iconst C (v := (4 : Int32)) dX2_init_101 (by decide) ?_
    refine ab_icmp_ge C (tgt := 124) dX2_init_102 (by decide) (fun c_50 => ?_) (fun c_50 => ?_)
    · have f := f.1 c_50
      obtain ⟨c_51, f⟩ := f
      obtain ⟨c_52, f⟩ := f
      refine ab_widen (k' := 29) (n' := 250) (c_51) (c_52) ?_
      exact ab_vret C dX2_init_124 ⟨rfl, f⟩
    · have f := f.2 c_50
      refine ab_aload_n C 0 dX2_init_105 rfl rfl ?_
      obtain ⟨c_53, f⟩ := f
      obtain ⟨q_54, c_55, f⟩ := f
      refine ab_getR C (q := q_54) fl_X2_26 rfl hk0 c_53 c_55 dX2_init_106 ?_
      refine ab_iload_n C 1 dX2_init_109 rfl rfl ?_
      obtain ⟨c_58, f⟩ := f
      obtain ⟨c_59, f⟩ := f
      obtain ⟨c_60, f⟩ := f
      refine ab_new C (k := kc) (n := nc) ac_3 cn_X2_24 c_58 (c_59) (c_60) dX2_init_110 (fun h_56 e_57 => ?_)
      have f := f h_56 e_57
      refine ab_dup C dX2_init_113 rfl ?_
      obtain ⟨c_61, f⟩ := f
      obtain ⟨c_62, f⟩ := f
      obtain ⟨c_63, f⟩ := f
      refine ab_callJ C (k := (kc + 1)) (n := (nc + 4)) (rest := [.ref (G.1 + (hp_n h)), .int y1, .ref (G.1 + q_54)]) [] cl_X2_51 (mt_X3_init c_58  f) ⟨rfl, rfl, Nat.le_of_ble_eq_true rfl, Nat.le_of_ble_eq_true rfl, c_62, c_63⟩ rfl rfl (Nat.le_of_ble_eq_true rfl) dX2_init_114 (ab_kr (k := ((kc + 1) + 0)) (n := ((nc + 4) + 0)) (fun h_64 f => ?_))
      obtain ⟨c_65, c_66, f⟩ := f
      obtain ⟨c_67, f⟩ := f
      obtain ⟨c_70, f⟩ := f
      refine ab_aast C (t0 := 3) (ci := 3) (v := (hp_n h)) c_65 (by decide) (by decide) (fun _ => rfl) rfl c_66 rfl c_67 (j := y1.toNatClampNeg) rfl c_58 (by decide) c_70 dX2_init_117 (fun h_68 e_69 => ?_)
      have f := f h_68 e_69
      refine ab_iinc C (lv' := [(1, .int (y1 + (1 : Int32))), (0, .ref (G.1 + a0))]) 1 (v := (y1 + (1 : Int32))) dX2_init_118 rfl rfl (by decide) rfl ?_
      refine ab_goto C (tgt := 100) dX2_init_121 (by decide) ?_
      refine ab_sub (lv' := [(0, .ref (G.1 + a0)), (1, .int (y1 + (1 : Int32)))]) [1, 0] rfl ?_
      exact ih (y1 + (1 : Int32)) ((kc + 1) + 0) ((nc + 4) + 0) h_68   f
def wp_X2_init_L73 (a0 : Nat) (Q : hp_T → Prop) : Nat → Int32 → Nat → Nat → hp_T → Prop
  | 0 => fun _ _ _ _ => False
  | nn + 1 => fun y1 kc nc h => (((6 : Int32) ≤ y1 → (∃ n0, wp_X2_init_L100 a0 Q  n0 (0 : Int32) kc nc h)) ∧ (¬ ((6 : Int32) ≤ y1) → (a0 < hp_n h) ∧ (∃ q_72, (hp_r h a0 0 = some q_72) ∧ (ab_k (hp_n h) = 0) ∧ ((kc + 1) ≤ 29) ∧ ((nc + 7) ≤ 250) ∧ (∀ h_74, h_74 = hp_no h → ((hp_n h) < hp_n h_74) ∧ (((kc + 1) + 2) ≤ 29) ∧ (((nc + 7) + 12) ≤ 250) ∧ wp_X0_init (hp_n h) h_74 (fun h_82 => (ab_k q_72 = 12) ∧ (q_72 < hp_n h_82) ∧ (vp_in y1 (hp_l h_82 q_72)) ∧ ((hp_n h) < hp_n h_82) ∧ (∀ h_86, h_86 = hp_sr h_82 q_72 y1.toNatClampNeg (some (hp_n h)) → (wp_X2_init_L73 a0 Q nn) (y1 + (1 : Int32)) ((kc + 1) + 2) ((nc + 7) + 12) h_86))))))
set_option maxRecDepth 100000 in
set_option maxHeartbeats 4000000 in
theorem bt_X2_init_L73 {l : Launch} {G : ab_G} {F : ab_F} {a0 : Nat} {Q : hp_T → Prop}  (C : ab_C G F rm_X2_init cX2_init 2 RX2 none "<init>") (hk0 : ab_k a0 = 2)  : ∀ (nn : Nat) (y1 : Int32) (kc : Nat) (nc : Nat) (h : hp_T), wp_X2_init_L73 a0 Q nn y1 kc nc h → ab_W l G F 2 (ab_MQ G F (po_r Q) 29 250) kc nc h [(0, .ref (G.1 + a0)), (1, .int y1)] [] 73 := by
  intro nn
  induction nn with
  | zero =>
    intro y1 kc nc h f
    exact absurd f id
  | succ nn ih =>
    intro y1 kc nc h f
    unfold wp_X2_init_L73 at f
    refine ab_iload_n C 1 dX2_init_73 rfl rfl ?_
    refine ab_bipush C (v := (6 : Int32)) dX2_init_74 (by decide) ?_
    refine ab_icmp_ge C (tgt := 98) dX2_init_76 (by decide) (fun c_49 => ?_) (fun c_49 => ?_)
    · have f := f.1 c_49
      refine ab_iconst C (v := (0 : Int32)) dX2_init_98 (by decide) ?_
      refine ab_istore_n C (lv' := [(1, .int (0 : Int32)), (0, .ref (G.1 + a0))]) dX2_init_99 rfl (by decide) rfl ?_
      obtain ⟨n0, f⟩ := f
      refine ab_sub (lv' := [(0, .ref (G.1 + a0)), (1, .int (0 : Int32))]) [1, 0] rfl ?_
      exact bt_X2_init_L100 C hk0   n0 (0 : Int32) kc nc h   f
    · have f := f.2 c_49
      refine ab_aload_n C 0 dX2_init_79 rfl rfl ?_
      obtain ⟨c_71, f⟩ := f
      obtain ⟨q_72, c_73, f⟩ := f
      refine ab_getR C (q := q_72) fl_X2_11 rfl hk0 c_71 c_73 dX2_init_80 ?_
      refine ab_iload_n C 1 dX2_init_83 rfl rfl ?_
      obtain ⟨c_76, f⟩ := f
      obtain ⟨c_77, f⟩ := f
      obtain ⟨c_78, f⟩ := f
      refine ab_new C (k := kc) (n := nc) ac_0 cn_X2_9 c_76 (c_77) (c_78) dX2_init_84 (fun h_74 e_75 => ?_)
      have f := f h_74 e_75
      refine ab_dup C dX2_init_87 rfl ?_
      obtain ⟨c_79, f⟩ := f
      obtain ⟨c_80, f⟩ := f
      obtain ⟨c_81, f⟩ := f
      refine ab_callJ C (k := (kc + 1)) (n := (nc + 7)) (rest := [.ref (G.1 + (hp_n h)), .int y1, .ref (G.1 + q_72)]) [] cl_X2_50 (mt_X0_init c_76  f) ⟨rfl, rfl, Nat.le_of_ble_eq_true rfl, Nat.le_of_ble_eq_true rfl, c_80, c_81⟩ rfl rfl (Nat.le_of_ble_eq_true rfl) dX2_init_88 (ab_kr (k := ((kc + 1) + 2)) (n := ((nc + 7) + 12)) (fun h_82 f => ?_))
      obtain ⟨c_83, c_84, f⟩ := f
      obtain ⟨c_85, f⟩ := f
      obtain ⟨c_88, f⟩ := f
      refine ab_aast C (t0 := 2) (ci := 0) (v := (hp_n h)) c_83 (by decide) (by decide) (fun _ => rfl) rfl c_84 rfl c_85 (j := y1.toNatClampNeg) rfl c_76 (by decide) c_88 dX2_init_91 (fun h_86 e_87 => ?_)
      have f := f h_86 e_87
      refine ab_iinc C (lv' := [(1, .int (y1 + (1 : Int32))), (0, .ref (G.1 + a0))]) 1 (v := (y1 + (1 : Int32))) dX2_init_92 rfl rfl (by decide) rfl ?_
      refine ab_goto C (tgt := 73) dX2_init_95 (by decide) ?_
      refine ab_sub (lv' := [(0, .ref (G.1 + a0)), (1, .int (y1 + (1 : Int32)))]) [1, 0] rfl ?_
      exact ih (y1 + (1 : Int32)) ((kc + 1) + 2) ((nc + 7) + 12) h_86   f
def wp_X2_init (a0 : Nat) (h : hp_T) (Q : hp_T → Prop) : Prop :=
  (ab_k (hp_n h) = 12) ∧ (∀ h_1, h_1 = hp_na h 6 → (a0 < hp_n h_1) ∧ (∀ h_5, h_5 = hp_sr h_1 a0 0 (some (hp_n h)) → (16 ≤ ab_k (hp_n h_5)) ∧ (∀ h_7, h_7 = hp_na h_5 12 → (a0 < hp_n h_7) ∧ (∀ h_11, h_11 = hp_sr h_7 a0 2 (some (hp_n h_5)) → (16 ≤ ab_k (hp_n h_11)) ∧ (∀ h_13, h_13 = hp_na h_11 12 → (a0 < hp_n h_13) ∧ (∀ h_17, h_17 = hp_sr h_13 a0 3 (some (hp_n h_11)) → (ab_k (hp_n h_17) = 13) ∧ (∀ h_19, h_19 = hp_na h_17 4 → (a0 < hp_n h_19) ∧ (∀ h_23, h_23 = hp_sr h_19 a0 7 (some (hp_n h_17)) → (a0 < hp_n h_23) ∧ (∀ h_26, h_26 = hp_si h_23 a0 9 (4 : Int32) → (a0 < hp_n h_26) ∧ (∀ h_29, h_29 = hp_si h_26 a0 10 (1 : Int32) → (ab_k (hp_n h_29) = 11) ∧ (∀ h_31, h_31 = hp_na h_29 60 → (a0 < hp_n h_31) ∧ (∀ h_35, h_35 = hp_sr h_31 a0 11 (some (hp_n h_29)) → (ab_k (hp_n h_35) = 14) ∧ (∀ h_37, h_37 = hp_na h_35 2 → (a0 < hp_n h_37) ∧ (∀ h_41, h_41 = hp_sr h_37 a0 13 (some (hp_n h_35)) → (16 ≤ ab_k (hp_n h_41)) ∧ (∀ h_43, h_43 = hp_na h_41 24 → (a0 < hp_n h_43) ∧ (∀ h_47, h_47 = hp_sr h_43 a0 14 (some (hp_n h_41)) → (∃ n0, wp_X2_init_L73 a0 Q  n0 (0 : Int32) 7 120 h_47)))))))))))))))))
set_option maxRecDepth 100000 in
set_option maxHeartbeats 4000000 in
theorem mt_X2_init {l : Launch} {G : ab_G} {a0 : Nat} {h : hp_T} {Q : hp_T → Prop} (hk0 : ab_k a0 = 2) (f : wp_X2_init a0 h Q) : ab_M l G yX2_init cX2_init 2 none rm_X2_init 29 250 [.ref (G.1 + a0)] h (po_r Q) := by
  refine ab_intro (own := RX2) (nm := "<init>") rfl rfl rfl (Nat.le_of_ble_eq_true rfl) (fun F C => ?_)
  show ab_W l G F 2 (ab_MQ G F (po_r Q) 29 250) 0 0 h [(0, .ref (G.1 + a0))] [] 0
  unfold wp_X2_init at f
  refine ab_aload_n C 0 dX2_init_0 rfl rfl ?_
  refine ab_oinit C (b := a0) co_X2 (by decide) (by decide) (Nat.le_of_ble_eq_true rfl) dX2_init_1 ?_
  refine ab_aload_n C 0 dX2_init_4 rfl rfl ?_
  refine ab_bipush C (v := (6 : Int32)) dX2_init_5 (by decide) ?_
  obtain ⟨c_3, f⟩ := f
  refine ab_newQ C (k := 0) (n := 0) (t0 := 2) (N := 6) kw_t27 (fun _ h => h.2.2.2.2.2.2.2.2.1) (fun _ => rfl) (by decide) (by decide) c_3 (by decide) (by decide) (by decide) (Nat.le_of_ble_eq_true rfl) (Nat.le_of_ble_eq_true rfl) dX2_init_7 (fun h_1 e_2 => ?_)
  have f := f h_1 e_2
  obtain ⟨c_4, f⟩ := f
  refine ab_putR C (q := (hp_n h)) fl_X2_11 rfl (fun _ => rfl) hk0 c_4 (fun _ => rfl) (fun _ => rfl) dX2_init_10 (fun h_5 e_6 => ?_)
  have f := f h_5 e_6
  refine ab_aload_n C 0 dX2_init_13 rfl rfl ?_
  refine ab_bipush C (v := (12 : Int32)) dX2_init_14 (by decide) ?_
  obtain ⟨c_9, f⟩ := f
  refine ab_newI C (k := 1) (n := 6) (N := 12) kw_t73 c_9 (by decide) (by decide) (by decide) (Nat.le_of_ble_eq_true rfl) (Nat.le_of_ble_eq_true rfl) dX2_init_16 (fun h_7 e_8 => ?_)
  have f := f h_7 e_8
  obtain ⟨c_10, f⟩ := f
  refine ab_putR C (q := (hp_n h_5)) fl_X2_17 rfl (fun _ => rfl) hk0 c_10 (fun _ => rfl) (fun _ => rfl) dX2_init_18 (fun h_11 e_12 => ?_)
  have f := f h_11 e_12
  refine ab_aload_n C 0 dX2_init_21 rfl rfl ?_
  refine ab_bipush C (v := (12 : Int32)) dX2_init_22 (by decide) ?_
  obtain ⟨c_15, f⟩ := f
  refine ab_newI C (k := 2) (n := 18) (N := 12) kw_t73 c_15 (by decide) (by decide) (by decide) (Nat.le_of_ble_eq_true rfl) (Nat.le_of_ble_eq_true rfl) dX2_init_24 (fun h_13 e_14 => ?_)
  have f := f h_13 e_14
  obtain ⟨c_16, f⟩ := f
  refine ab_putR C (q := (hp_n h_11)) fl_X2_21 rfl (fun _ => rfl) hk0 c_16 (fun _ => rfl) (fun _ => rfl) dX2_init_26 (fun h_17 e_18 => ?_)
  have f := f h_17 e_18
  refine ab_aload_n C 0 dX2_init_29 rfl rfl ?_
  refine ab_iconst C (v := (4 : Int32)) dX2_init_30 (by decide) ?_
  obtain ⟨c_21, f⟩ := f
  refine ab_newQ C (k := 3) (n := 30) (t0 := 3) (N := 4) kw_t29 (fun _ h => h.2.2.2.2.2.2.2.2.2.2.1) (fun _ => rfl) (by decide) (by decide) c_21 (by decide) (by decide) (by decide) (Nat.le_of_ble_eq_true rfl) (Nat.le_of_ble_eq_true rfl) dX2_init_31 (fun h_19 e_20 => ?_)
  have f := f h_19 e_20
  obtain ⟨c_22, f⟩ := f
  refine ab_putR C (q := (hp_n h_17)) fl_X2_26 rfl (fun _ => rfl) hk0 c_22 (fun _ => rfl) (fun _ => rfl) dX2_init_34 (fun h_23 e_24 => ?_)
  have f := f h_23 e_24
  refine ab_aload_n C 0 dX2_init_37 rfl rfl ?_
  refine ab_iconst C (v := (4 : Int32)) dX2_init_38 (by decide) ?_
  obtain ⟨c_25, f⟩ := f
  refine ab_putI C fl_X2_30 rfl hk0 c_25 rfl rfl dX2_init_39 (fun h_26 e_27 => ?_)
  have f := f h_26 e_27
  refine ab_aload_n C 0 dX2_init_42 rfl rfl ?_
  refine ab_iconst C (v := (1 : Int32)) dX2_init_43 (by decide) ?_
  obtain ⟨c_28, f⟩ := f
  refine ab_putI C fl_X2_34 rfl hk0 c_28 rfl rfl dX2_init_44 (fun h_29 e_30 => ?_)
  have f := f h_29 e_30
  refine ab_aload_n C 0 dX2_init_47 rfl rfl ?_
  refine ab_bipush C (v := (60 : Int32)) dX2_init_48 (by decide) ?_
  obtain ⟨c_33, f⟩ := f
  refine ab_newB C (k := 4) (n := 34) (N := 60) kw_t74 c_33 (by decide) (by decide) (by decide) (Nat.le_of_ble_eq_true rfl) (Nat.le_of_ble_eq_true rfl) dX2_init_50 (fun h_31 e_32 => ?_)
  have f := f h_31 e_32
  obtain ⟨c_34, f⟩ := f
  refine ab_putR C (q := (hp_n h_29)) fl_X2_37 rfl (fun _ => rfl) hk0 c_34 (fun _ => rfl) (fun _ => rfl) dX2_init_52 (fun h_35 e_36 => ?_)
  have f := f h_35 e_36
  refine ab_aload_n C 0 dX2_init_55 rfl rfl ?_
  refine ab_iconst C (v := (2 : Int32)) dX2_init_56 (by decide) ?_
  obtain ⟨c_39, f⟩ := f
  refine ab_newQ C (k := 5) (n := 94) (t0 := 4) (N := 2) kw_t31 (fun _ h => h.2.2.2.2.2.2.2.2.2.2.2) (fun _ => rfl) (by decide) (by decide) c_39 (by decide) (by decide) (by decide) (Nat.le_of_ble_eq_true rfl) (Nat.le_of_ble_eq_true rfl) dX2_init_57 (fun h_37 e_38 => ?_)
  have f := f h_37 e_38
  obtain ⟨c_40, f⟩ := f
  refine ab_putR C (q := (hp_n h_35)) fl_X2_43 rfl (fun _ => rfl) hk0 c_40 (fun _ => rfl) (fun _ => rfl) dX2_init_60 (fun h_41 e_42 => ?_)
  have f := f h_41 e_42
  refine ab_aload_n C 0 dX2_init_63 rfl rfl ?_
  refine ab_bipush C (v := (24 : Int32)) dX2_init_64 (by decide) ?_
  obtain ⟨c_45, f⟩ := f
  refine ab_newI C (k := 6) (n := 96) (N := 24) kw_t73 c_45 (by decide) (by decide) (by decide) (Nat.le_of_ble_eq_true rfl) (Nat.le_of_ble_eq_true rfl) dX2_init_66 (fun h_43 e_44 => ?_)
  have f := f h_43 e_44
  obtain ⟨c_46, f⟩ := f
  refine ab_putR C (q := (hp_n h_41)) fl_X2_47 rfl (fun _ => rfl) hk0 c_46 (fun _ => rfl) (fun _ => rfl) dX2_init_68 (fun h_47 e_48 => ?_)
  have f := f h_47 e_48
  refine ab_iconst C (v := (0 : Int32)) dX2_init_71 (by decide) ?_
  refine ab_istore_n C (lv' := [(1, .int (0 : Int32)), (0, .ref (G.1 + a0))]) dX2_init_72 rfl (by decide) rfl ?_
  obtain ⟨n0, f⟩ := f
  refine ab_sub (lv' := [(0, .ref (G.1 + a0)), (1, .int (0 : Int32))]) [1, 0] rfl ?_
  exact bt_X2_init_L73 C hk0   n0 (0 : Int32) 7 120 h_47   f
/-! X2_knownByAny -/
def rm_X2_knownByAny : Room := { frames := 2, cells := 0, slots := 0, locals := 100 }
def wp_X2_knownByAny_L4 (a0 : Nat) (h : hp_T) (Q : Int32 → Prop) : Nat → Int32 → Int32 → Prop
  | 0 => fun _ _ => False
  | nn + 1 => fun y1 y2 => (((hp_i h a0 1) ≤ y2 → (Q y1)) ∧ (¬ ((hp_i h a0 1) ≤ y2) → (vp_in y2 6) ∧ (wp_X2_knownByAny_L4 a0 h Q nn) (y1 ||| (hp_i h (a0 + 8 + 3 * y2.toNatClampNeg) 3)) (y2 + (1 : Int32))))
set_option maxRecDepth 100000 in
set_option maxHeartbeats 4000000 in
theorem bt_X2_knownByAny_L4 {l : Launch} {G : ab_G} {F : ab_F} {a0 : Nat} {h : hp_T} {Q : Int32 → Prop}  (C : ab_C G F rm_X2_knownByAny cX2_knownByAny 3 RX2 (some .int) "knownByAny") (hk0 : ab_k a0 = 2) (hw : wf h)  : ∀ (nn : Nat) (y1 : Int32) (y2 : Int32), wp_X2_knownByAny_L4 a0 h Q nn y1 y2 → ab_W l G F 3 (ab_MQ G F (po_p h Q) 0 0) 0 0 h [(0, .ref (G.1 + a0)), (1, .int y1), (2, .int y2)] [] 4 := by
  intro nn
  induction nn with
  | zero =>
    intro y1 y2 f
    exact absurd f id
  | succ nn ih =>
    intro y1 y2 f
    unfold wp_X2_knownByAny_L4 at f
    refine ab_iload_n C 2 dX2_knownByAny_4 rfl rfl ?_
    refine ab_aload_n C 0 dX2_knownByAny_5 rfl rfl ?_
    refine ab_getI C fl_X2_52 rfl hk0 (wf_lt hw hk0 rfl) dX2_knownByAny_6 ?_
    refine ab_icmp_ge C (tgt := 30) dX2_knownByAny_9 (by decide) (fun c_1 => ?_) (fun c_1 => ?_)
    · have f := f.1 c_1
      refine ab_iload_n C 1 dX2_knownByAny_30 rfl rfl ?_
      exact ab_iret C dX2_knownByAny_31 ⟨rfl, _, rfl, f⟩
    · have f := f.2 c_1
      refine ab_iload_n C 1 dX2_knownByAny_12 rfl rfl ?_
      refine ab_aload_n C 0 dX2_knownByAny_13 rfl rfl ?_
      refine ab_getR C (q := (a0 + 1)) fl_X2_11 rfl hk0 (wf_lt hw hk0 rfl) (wr_2_0 hw hk0) dX2_knownByAny_14 ?_
      refine ab_iload_n C 2 dX2_knownByAny_17 rfl rfl ?_
      obtain ⟨c_2, f⟩ := f
      refine ab_aaldR C (q := (a0 + 8 + 3 * y2.toNatClampNeg)) (kn_2_0 hk0) (Or.inl rfl) (wf_lt hw (kn_2_0 hk0) rfl) (wf_len hw (kn_2_0 hk0) rfl rfl (by decide)) c_2 (j := y2.toNatClampNeg) rfl (wx_bunk hw hk0 (vp_in_lt c_2)) dX2_knownByAny_18 ?_
      refine ab_getI C fl_X2_161 rfl (kx_bunk hk0 (vp_in_lt c_2)) (wf_lt hw (kx_bunk hk0 (vp_in_lt c_2)) rfl) dX2_knownByAny_19 ?_
      refine ab_ior C dX2_knownByAny_22 ?_
      refine ab_istore_n C (lv' := [(1, .int (y1 ||| (hp_i h (a0 + 8 + 3 * y2.toNatClampNeg) 3))), (0, .ref (G.1 + a0)), (2, .int y2)]) dX2_knownByAny_23 rfl (by decide) rfl ?_
      refine ab_iinc C (lv' := [(2, .int (y2 + (1 : Int32))), (1, .int (y1 ||| (hp_i h (a0 + 8 + 3 * y2.toNatClampNeg) 3))), (0, .ref (G.1 + a0))]) 2 (v := (y2 + (1 : Int32))) dX2_knownByAny_24 rfl rfl (by decide) rfl ?_
      refine ab_goto C (tgt := 4) dX2_knownByAny_27 (by decide) ?_
      refine ab_sub (lv' := [(0, .ref (G.1 + a0)), (1, .int (y1 ||| (hp_i h (a0 + 8 + 3 * y2.toNatClampNeg) 3))), (2, .int (y2 + (1 : Int32)))]) [2, 1, 0] rfl ?_
      exact ih (y1 ||| (hp_i h (a0 + 8 + 3 * y2.toNatClampNeg) 3)) (y2 + (1 : Int32))   f
def wp_X2_knownByAny (a0 : Nat) (h : hp_T) (Q : Int32 → Prop) : Prop :=
  (∃ n0, wp_X2_knownByAny_L4 a0 h Q  n0 (0 : Int32) (0 : Int32))
set_option maxRecDepth 100000 in
set_option maxHeartbeats 4000000 in
theorem mt_X2_knownByAny {l : Launch} {G : ab_G} {a0 : Nat} {h : hp_T} {Q : Int32 → Prop} (hk0 : ab_k a0 = 2) (hw : wf h) (f : wp_X2_knownByAny a0 h Q) : ab_M l G yX2_knownByAny cX2_knownByAny 3 (some .int) rm_X2_knownByAny 0 0 [.ref (G.1 + a0)] h (po_p h Q) := by
  refine ab_intro (own := RX2) (nm := "knownByAny") rfl rfl rfl (Nat.le_of_ble_eq_true rfl) (fun F C => ?_)
  show ab_W l G F 3 (ab_MQ G F (po_p h Q) 0 0) 0 0 h [(0, .ref (G.1 + a0))] [] 0
  unfold wp_X2_knownByAny at f
  refine ab_iconst C (v := (0 : Int32)) dX2_knownByAny_0 (by decide) ?_
  refine ab_istore_n C (lv' := [(1, .int (0 : Int32)), (0, .ref (G.1 + a0))]) dX2_knownByAny_1 rfl (by decide) rfl ?_
  refine ab_iconst C (v := (0 : Int32)) dX2_knownByAny_2 (by decide) ?_
  refine ab_istore_n C (lv' := [(2, .int (0 : Int32)), (1, .int (0 : Int32)), (0, .ref (G.1 + a0))]) dX2_knownByAny_3 rfl (by decide) rfl ?_
  obtain ⟨n0, f⟩ := f
  refine ab_sub (lv' := [(0, .ref (G.1 + a0)), (1, .int (0 : Int32)), (2, .int (0 : Int32))]) [2, 1, 0] rfl ?_
  exact bt_X2_knownByAny_L4 C hk0 hw  n0 (0 : Int32) (0 : Int32)   f
/-! X4_joined -/
def rm_X4_joined : Room := { frames := 2, cells := 0, slots := 0, locals := 100 }
def wp_X4_joined (x0 : Int32) (x1 : Int32) (x2 : Int32) (h : hp_T) (Q : Int32 → Prop) : Prop :=
  ((x0 = (37 : Int32) → ((x2 = 0 → (Q (0 : Int32))) ∧ (¬ (x2 = 0) → (¬ x2 = 0) ∧ (Q (x1 - x1 / x2 * x2))))) ∧ (¬ (x0 = (37 : Int32)) → ((x0 = (38 : Int32) → ((x1 = 0 → (Q (0 : Int32))) ∧ (¬ (x1 = 0) → ((x2 = 0 → (Q (0 : Int32))) ∧ (¬ (x2 = 0) → (Q (1 : Int32))))))) ∧ (¬ (x0 = (38 : Int32)) → ((x0 = (42 : Int32) → (Q (x1 * x2))) ∧ (¬ (x0 = (42 : Int32)) → ((x0 = (43 : Int32) → (Q (x1 + x2))) ∧ (¬ (x0 = (43 : Int32)) → ((x0 = (45 : Int32) → (Q (x1 - x2))) ∧ (¬ (x0 = (45 : Int32)) → ((x0 = (47 : Int32) → ((x2 = 0 → (Q (0 : Int32))) ∧ (¬ (x2 = 0) → (¬ x2 = 0) ∧ (Q (x1 / x2))))) ∧ (¬ (x0 = (47 : Int32)) → ((x0 = (60 : Int32) → ((x2 ≤ x1 → (Q (0 : Int32))) ∧ (¬ (x2 ≤ x1) → (Q (1 : Int32))))) ∧ (¬ (x0 = (60 : Int32)) → ((x0 = (61 : Int32) → ((x1 = x2 → (Q (1 : Int32))) ∧ (¬ (x1 = x2) → (Q (0 : Int32))))) ∧ (¬ (x0 = (61 : Int32)) → ((x0 = (62 : Int32) → ((x1 ≤ x2 → (Q (0 : Int32))) ∧ (¬ (x1 ≤ x2) → (Q (1 : Int32))))) ∧ (¬ (x0 = (62 : Int32)) → ((x0 = (124 : Int32) → ((x1 = 0 → ((x2 = 0 → (Q (0 : Int32))) ∧ (¬ (x2 = 0) → (Q (1 : Int32))))) ∧ (¬ (x1 = 0) → (Q (1 : Int32))))) ∧ (¬ (x0 = (124 : Int32)) → (Q (0 : Int32))))))))))))))))))))))
set_option maxRecDepth 100000 in
set_option maxHeartbeats 4000000 in
theorem mt_X4_joined {l : Launch} {G : ab_G} {x0 : Int32} {x1 : Int32} {x2 : Int32} {h : hp_T} {Q : Int32 → Prop} (hw : wf h) (f : wp_X4_joined x0 x1 x2 h Q) : ab_M l G yX4_joined cX4_joined 3 (some .int) rm_X4_joined 0 0 [.int x0, .int x1, .int x2] h (po_p h Q) := by
  refine ab_intro (own := RX4) (nm := "joined") rfl rfl rfl (Nat.le_of_ble_eq_true rfl) (fun F C => ?_)
  show ab_W l G F 3 (ab_MQ G F (po_p h Q) 0 0) 0 0 h [(0, .int x0), (1, .int x1), (2, .int x2)] [] 0
  unfold wp_X4_joined at f
  refine ab_iload_n C 0 dX4_joined_0 rfl rfl ?_
  by_cases c_1 : x0 = (37 : Int32)
  · have f := f.1 c_1
    refine ab_lookC C (off := 176) (tgt := 177) dX4_joined_1 c_1 (by decide) (by decide) (by decide) ?_
    refine ab_iload_n C 2 dX4_joined_177 rfl rfl ?_
    refine ab_if_ne C (tgt := 185) dX4_joined_178 (by decide) (fun c_2 => ?_) (fun c_2 => ?_)
    · have f := f.2 c_2
      refine ab_iload_n C 1 dX4_joined_185 rfl rfl ?_
      refine ab_iload_n C 2 dX4_joined_186 rfl rfl ?_
      obtain ⟨c_3, f⟩ := f
      refine ab_irem C dX4_joined_187 c_3 ?_
      exact ab_iret C dX4_joined_188 ⟨rfl, _, rfl, f⟩
    · have f := f.1 c_2
      refine ab_iconst C (v := (0 : Int32)) dX4_joined_181 (by decide) ?_
      refine ab_goto C (tgt := 188) dX4_joined_182 (by decide) ?_
      exact ab_iret C dX4_joined_188 ⟨rfl, _, rfl, f⟩
  have f := f.2 c_1
  by_cases c_4 : x0 = (38 : Int32)
  · have f := f.1 c_4
    refine ab_lookC C (off := 105) (tgt := 106) dX4_joined_1 c_4 (by decide) (by decide) (by decide) ?_
    refine ab_iload_n C 1 dX4_joined_106 rfl rfl ?_
    refine ab_if_eq C (tgt := 118) dX4_joined_107 (by decide) (fun c_5 => ?_) (fun c_5 => ?_)
    · have f := f.1 c_5
      refine ab_iconst C (v := (0 : Int32)) dX4_joined_118 (by decide) ?_
      exact ab_iret C dX4_joined_119 ⟨rfl, _, rfl, f⟩
    · have f := f.2 c_5
      refine ab_iload_n C 2 dX4_joined_110 rfl rfl ?_
      refine ab_if_eq C (tgt := 118) dX4_joined_111 (by decide) (fun c_6 => ?_) (fun c_6 => ?_)
      · have f := f.1 c_6
        refine ab_iconst C (v := (0 : Int32)) dX4_joined_118 (by decide) ?_
        exact ab_iret C dX4_joined_119 ⟨rfl, _, rfl, f⟩
      · have f := f.2 c_6
        refine ab_iconst C (v := (1 : Int32)) dX4_joined_114 (by decide) ?_
        refine ab_goto C (tgt := 119) dX4_joined_115 (by decide) ?_
        exact ab_iret C dX4_joined_119 ⟨rfl, _, rfl, f⟩
  have f := f.2 c_4
  by_cases c_7 : x0 = (42 : Int32)
  · have f := f.1 c_7
    refine ab_lookC C (off := 160) (tgt := 161) dX4_joined_1 c_7 (by decide) (by decide) (by decide) ?_
    refine ab_iload_n C 1 dX4_joined_161 rfl rfl ?_
    refine ab_iload_n C 2 dX4_joined_162 rfl rfl ?_
    refine ab_imul C dX4_joined_163 ?_
    exact ab_iret C dX4_joined_164 ⟨rfl, _, rfl, f⟩
  have f := f.2 c_7
  by_cases c_8 : x0 = (43 : Int32)
  · have f := f.1 c_8
    refine ab_lookC C (off := 152) (tgt := 153) dX4_joined_1 c_8 (by decide) (by decide) (by decide) ?_
    refine ab_iload_n C 1 dX4_joined_153 rfl rfl ?_
    refine ab_iload_n C 2 dX4_joined_154 rfl rfl ?_
    refine ab_iadd C dX4_joined_155 ?_
    exact ab_iret C dX4_joined_156 ⟨rfl, _, rfl, f⟩
  have f := f.2 c_8
  by_cases c_9 : x0 = (45 : Int32)
  · have f := f.1 c_9
    refine ab_lookC C (off := 156) (tgt := 157) dX4_joined_1 c_9 (by decide) (by decide) (by decide) ?_
    refine ab_iload_n C 1 dX4_joined_157 rfl rfl ?_
    refine ab_iload_n C 2 dX4_joined_158 rfl rfl ?_
    refine ab_isub C dX4_joined_159 ?_
    exact ab_iret C dX4_joined_160 ⟨rfl, _, rfl, f⟩
  have f := f.2 c_9
  by_cases c_10 : x0 = (47 : Int32)
  · have f := f.1 c_10
    refine ab_lookC C (off := 164) (tgt := 165) dX4_joined_1 c_10 (by decide) (by decide) (by decide) ?_
    refine ab_iload_n C 2 dX4_joined_165 rfl rfl ?_
    refine ab_if_ne C (tgt := 173) dX4_joined_166 (by decide) (fun c_11 => ?_) (fun c_11 => ?_)
    · have f := f.2 c_11
      refine ab_iload_n C 1 dX4_joined_173 rfl rfl ?_
      refine ab_iload_n C 2 dX4_joined_174 rfl rfl ?_
      obtain ⟨c_12, f⟩ := f
      refine ab_idiv C dX4_joined_175 c_12 ?_
      exact ab_iret C dX4_joined_176 ⟨rfl, _, rfl, f⟩
    · have f := f.1 c_11
      refine ab_iconst C (v := (0 : Int32)) dX4_joined_169 (by decide) ?_
      refine ab_goto C (tgt := 176) dX4_joined_170 (by decide) ?_
      exact ab_iret C dX4_joined_176 ⟨rfl, _, rfl, f⟩
  have f := f.2 c_10
  by_cases c_13 : x0 = (60 : Int32)
  · have f := f.1 c_13
    refine ab_lookC C (off := 119) (tgt := 120) dX4_joined_1 c_13 (by decide) (by decide) (by decide) ?_
    refine ab_iload_n C 1 dX4_joined_120 rfl rfl ?_
    refine ab_iload_n C 2 dX4_joined_121 rfl rfl ?_
    refine ab_icmp_ge C (tgt := 129) dX4_joined_122 (by decide) (fun c_14 => ?_) (fun c_14 => ?_)
    · have f := f.1 c_14
      refine ab_iconst C (v := (0 : Int32)) dX4_joined_129 (by decide) ?_
      exact ab_iret C dX4_joined_130 ⟨rfl, _, rfl, f⟩
    · have f := f.2 c_14
      refine ab_iconst C (v := (1 : Int32)) dX4_joined_125 (by decide) ?_
      refine ab_goto C (tgt := 130) dX4_joined_126 (by decide) ?_
      exact ab_iret C dX4_joined_130 ⟨rfl, _, rfl, f⟩
  have f := f.2 c_13
  by_cases c_15 : x0 = (61 : Int32)
  · have f := f.1 c_15
    refine ab_lookC C (off := 130) (tgt := 131) dX4_joined_1 c_15 (by decide) (by decide) (by decide) ?_
    refine ab_iload_n C 1 dX4_joined_131 rfl rfl ?_
    refine ab_iload_n C 2 dX4_joined_132 rfl rfl ?_
    refine ab_icmp_ne C (tgt := 140) dX4_joined_133 (by decide) (fun c_16 => ?_) (fun c_16 => ?_)
    · have f := f.2 c_16
      refine ab_iconst C (v := (0 : Int32)) dX4_joined_140 (by decide) ?_
      exact ab_iret C dX4_joined_141 ⟨rfl, _, rfl, f⟩
    · have f := f.1 c_16
      refine ab_iconst C (v := (1 : Int32)) dX4_joined_136 (by decide) ?_
      refine ab_goto C (tgt := 141) dX4_joined_137 (by decide) ?_
      exact ab_iret C dX4_joined_141 ⟨rfl, _, rfl, f⟩
  have f := f.2 c_15
  by_cases c_17 : x0 = (62 : Int32)
  · have f := f.1 c_17
    refine ab_lookC C (off := 141) (tgt := 142) dX4_joined_1 c_17 (by decide) (by decide) (by decide) ?_
    refine ab_iload_n C 1 dX4_joined_142 rfl rfl ?_
    refine ab_iload_n C 2 dX4_joined_143 rfl rfl ?_
    refine ab_icmp_le C (tgt := 151) dX4_joined_144 (by decide) (fun c_18 => ?_) (fun c_18 => ?_)
    · have f := f.1 c_18
      refine ab_iconst C (v := (0 : Int32)) dX4_joined_151 (by decide) ?_
      exact ab_iret C dX4_joined_152 ⟨rfl, _, rfl, f⟩
    · have f := f.2 c_18
      refine ab_iconst C (v := (1 : Int32)) dX4_joined_147 (by decide) ?_
      refine ab_goto C (tgt := 152) dX4_joined_148 (by decide) ?_
      exact ab_iret C dX4_joined_152 ⟨rfl, _, rfl, f⟩
  have f := f.2 c_17
  by_cases c_19 : x0 = (124 : Int32)
  · have f := f.1 c_19
    refine ab_lookC C (off := 91) (tgt := 92) dX4_joined_1 c_19 (by decide) (by decide) (by decide) ?_
    refine ab_iload_n C 1 dX4_joined_92 rfl rfl ?_
    refine ab_if_ne C (tgt := 100) dX4_joined_93 (by decide) (fun c_20 => ?_) (fun c_20 => ?_)
    · have f := f.2 c_20
      refine ab_iconst C (v := (1 : Int32)) dX4_joined_100 (by decide) ?_
      refine ab_goto C (tgt := 105) dX4_joined_101 (by decide) ?_
      exact ab_iret C dX4_joined_105 ⟨rfl, _, rfl, f⟩
    · have f := f.1 c_20
      refine ab_iload_n C 2 dX4_joined_96 rfl rfl ?_
      refine ab_if_eq C (tgt := 104) dX4_joined_97 (by decide) (fun c_21 => ?_) (fun c_21 => ?_)
      · have f := f.1 c_21
        refine ab_iconst C (v := (0 : Int32)) dX4_joined_104 (by decide) ?_
        exact ab_iret C dX4_joined_105 ⟨rfl, _, rfl, f⟩
      · have f := f.2 c_21
        refine ab_iconst C (v := (1 : Int32)) dX4_joined_100 (by decide) ?_
        refine ab_goto C (tgt := 105) dX4_joined_101 (by decide) ?_
        exact ab_iret C dX4_joined_105 ⟨rfl, _, rfl, f⟩
  have f := f.2 c_19
  refine ab_lookup C (off := 188) (tgt := 189) dX4_joined_1 (by decide) ?_ (by decide) ?_
  · exact ab_lout [(37, 176), (38, 105), (42, 160), (43, 152), (45, 156), (47, 164), (60, 119), (61, 130), (62, 141), (124, 91)] (List.forall_mem_cons.mpr ⟨ab_ne c_1, (List.forall_mem_cons.mpr ⟨ab_ne c_4, (List.forall_mem_cons.mpr ⟨ab_ne c_7, (List.forall_mem_cons.mpr ⟨ab_ne c_8, (List.forall_mem_cons.mpr ⟨ab_ne c_9, (List.forall_mem_cons.mpr ⟨ab_ne c_10, (List.forall_mem_cons.mpr ⟨ab_ne c_13, (List.forall_mem_cons.mpr ⟨ab_ne c_15, (List.forall_mem_cons.mpr ⟨ab_ne c_17, (List.forall_mem_cons.mpr ⟨ab_ne c_19, (fun _ h => absurd h List.not_mem_nil)⟩)⟩)⟩)⟩)⟩)⟩)⟩)⟩)⟩)⟩)
  · skip
    refine ab_iconst C (v := (0 : Int32)) dX4_joined_189 (by decide) ?_
    exact ab_iret C dX4_joined_190 ⟨rfl, _, rfl, f⟩
/-! X4_value -/
def rm_X4_value : Room := { frames := 3, cells := 0, slots := 0, locals := 122 }
def wp_X4_value_L6 (a0 : Nat) (x1 : Int32) (x2 : Int32) (x3 : Int32) (Q : Int32 → hp_T → Prop) : Nat → Int32 → Int32 → hp_T → Prop
  | 0 => fun _ _ _ => False
  | nn + 1 => fun y4 y5 h => (a0 < hp_n h) ∧ (∃ q_2, (hp_r h a0 0 = some q_2) ∧ (ab_k q_2 = 16) ∧ (q_2 < hp_n h) ∧ (((nI (hp_l h q_2)) ≤ y5 → ((y4 ≤ 0 → (Q (0 : Int32) h)) ∧ (¬ (y4 ≤ 0) → (a0 < hp_n h) ∧ (∃ q_9, (hp_r h a0 1 = some q_9) ∧ (ab_k q_9 = 17) ∧ (q_9 < hp_n h) ∧ (vp_in (0 : Int32) (hp_l h q_9)) ∧ (Q (hp_i h q_9 0) h))))) ∧ (¬ ((nI (hp_l h q_2)) ≤ y5) → (a0 < hp_n h) ∧ (∃ q_15, (hp_r h a0 1 = some q_15) ∧ (ab_k q_15 = 17) ∧ (q_15 < hp_n h) ∧ (((nI (hp_l h q_15)) ≤ y4 → ((y4 ≤ 0 → (Q (0 : Int32) h)) ∧ (¬ (y4 ≤ 0) → (a0 < hp_n h) ∧ (∃ q_22, (hp_r h a0 1 = some q_22) ∧ (ab_k q_22 = 17) ∧ (q_22 < hp_n h) ∧ (vp_in (0 : Int32) (hp_l h q_22)) ∧ (Q (hp_i h q_22 0) h))))) ∧ (¬ ((nI (hp_l h q_15)) ≤ y4) → (a0 < hp_n h) ∧ (∃ q_28, (hp_r h a0 0 = some q_28) ∧ (ab_k q_28 = 16) ∧ (q_28 < hp_n h) ∧ (vp_in y5 (hp_l h q_28)) ∧ (((hp_i h q_28 y5.toNatClampNeg) < 0 → (((hp_i h q_28 y5.toNatClampNeg) = (-107 : Int32) → (a0 < hp_n h) ∧ (∃ q_136, (hp_r h a0 1 = some q_136) ∧ (ab_k q_136 = 17) ∧ (q_136 < hp_n h) ∧ (vp_in y4 (hp_l h q_136)) ∧ (∀ h_141, h_141 = hp_si h q_136 y4.toNatClampNeg x1 → (wp_X4_value_L6 a0 x1 x2 x3 Q nn) (y4 + (1 : Int32)) (y5 + (1 : Int32)) h_141))) ∧ (¬ ((hp_i h q_28 y5.toNatClampNeg) = (-107 : Int32)) → (((hp_i h q_28 y5.toNatClampNeg) = (-104 : Int32) → (a0 < hp_n h) ∧ (∃ q_127, (hp_r h a0 1 = some q_127) ∧ (ab_k q_127 = 17) ∧ (q_127 < hp_n h) ∧ (vp_in y4 (hp_l h q_127)) ∧ (∀ h_132, h_132 = hp_si h q_127 y4.toNatClampNeg x2 → (wp_X4_value_L6 a0 x1 x2 x3 Q nn) (y4 + (1 : Int32)) (y5 + (1 : Int32)) h_132))) ∧ (¬ ((hp_i h q_28 y5.toNatClampNeg) = (-104 : Int32)) → (((hp_i h q_28 y5.toNatClampNeg) = (-109 : Int32) → (a0 < hp_n h) ∧ (∃ q_38, (hp_r h a0 1 = some q_38) ∧ (ab_k q_38 = 17) ∧ (q_38 < hp_n h) ∧ (vp_in y4 (hp_l h q_38)) ∧ (∀ h_43, h_43 = hp_si h q_38 y4.toNatClampNeg x3 → (wp_X4_value_L6 a0 x1 x2 x3 Q nn) (y4 + (1 : Int32)) (y5 + (1 : Int32)) h_43))) ∧ (¬ ((hp_i h q_28 y5.toNatClampNeg) = (-109 : Int32)) → (((hp_i h q_28 y5.toNatClampNeg) = (-100 : Int32) → (a0 < hp_n h) ∧ (∃ q_118, (hp_r h a0 1 = some q_118) ∧ (ab_k q_118 = 17) ∧ (q_118 < hp_n h) ∧ (vp_in y4 (hp_l h q_118)) ∧ (∀ h_123, h_123 = hp_si h q_118 y4.toNatClampNeg x3 → (wp_X4_value_L6 a0 x1 x2 x3 Q nn) (y4 + (1 : Int32)) (y5 + (1 : Int32)) h_123))) ∧ (¬ ((hp_i h q_28 y5.toNatClampNeg) = (-100 : Int32)) → (((hp_i h q_28 y5.toNatClampNeg) = (-33 : Int32) → ((y4 ≤ 0 → ((y4 ≤ (1 : Int32) → (wp_X4_value_L6 a0 x1 x2 x3 Q nn) y4 (y5 + (1 : Int32)) h) ∧ (¬ (y4 ≤ (1 : Int32)) → (a0 < hp_n h) ∧ (∃ q_74, (hp_r h a0 1 = some q_74) ∧ (a0 < hp_n h) ∧ (∃ q_77, (hp_r h a0 1 = some q_77) ∧ (ab_k q_77 = 17) ∧ (q_77 < hp_n h) ∧ (vp_in ((y4 + (-1 : Int32)) - (1 : Int32)) (hp_l h q_77)) ∧ (a0 < hp_n h) ∧ (∃ q_83, (hp_r h a0 1 = some q_83) ∧ (ab_k q_83 = 17) ∧ (q_83 < hp_n h) ∧ (vp_in (y4 + (-1 : Int32)) (hp_l h q_83)) ∧ wp_X4_joined (-(hp_i h q_28 y5.toNatClampNeg)) (hp_i h q_77 (((y4 + (-1 : Int32)) - (1 : Int32)).toNatClampNeg)) (hp_i h q_83 ((y4 + (-1 : Int32)).toNatClampNeg)) h (fun v_88 => (ab_k q_74 = 17) ∧ (q_74 < hp_n h) ∧ (vp_in ((y4 + (-1 : Int32)) - (1 : Int32)) (hp_l h q_74)) ∧ (∀ h_92, h_92 = hp_si h q_74 (((y4 + (-1 : Int32)) - (1 : Int32)).toNatClampNeg) v_88 → (wp_X4_value_L6 a0 x1 x2 x3 Q nn) (y4 + (-1 : Int32)) (y5 + (1 : Int32)) h_92)))))))) ∧ (¬ (y4 ≤ 0) → (a0 < hp_n h) ∧ (∃ q_96, (hp_r h a0 1 = some q_96) ∧ (a0 < hp_n h) ∧ (∃ q_99, (hp_r h a0 1 = some q_99) ∧ (ab_k q_99 = 17) ∧ (q_99 < hp_n h) ∧ (vp_in (y4 - (1 : Int32)) (hp_l h q_99)) ∧ (((hp_i h q_99 ((y4 - (1 : Int32)).toNatClampNeg)) = 0 → (ab_k q_96 = 17) ∧ (q_96 < hp_n h) ∧ (vp_in (y4 - (1 : Int32)) (hp_l h q_96)) ∧ (∀ h_114, h_114 = hp_si h q_96 ((y4 - (1 : Int32)).toNatClampNeg) (1 : Int32) → (wp_X4_value_L6 a0 x1 x2 x3 Q nn) y4 (y5 + (1 : Int32)) h_114)) ∧ (¬ ((hp_i h q_99 ((y4 - (1 : Int32)).toNatClampNeg)) = 0) → (ab_k q_96 = 17) ∧ (q_96 < hp_n h) ∧ (vp_in (y4 - (1 : Int32)) (hp_l h q_96)) ∧ (∀ h_108, h_108 = hp_si h q_96 ((y4 - (1 : Int32)).toNatClampNeg) (0 : Int32) → (wp_X4_value_L6 a0 x1 x2 x3 Q nn) y4 (y5 + (1 : Int32)) h_108)))))))) ∧ (¬ ((hp_i h q_28 y5.toNatClampNeg) = (-33 : Int32)) → ((y4 ≤ (1 : Int32) → (wp_X4_value_L6 a0 x1 x2 x3 Q nn) y4 (y5 + (1 : Int32)) h) ∧ (¬ (y4 ≤ (1 : Int32)) → (a0 < hp_n h) ∧ (∃ q_50, (hp_r h a0 1 = some q_50) ∧ (a0 < hp_n h) ∧ (∃ q_53, (hp_r h a0 1 = some q_53) ∧ (ab_k q_53 = 17) ∧ (q_53 < hp_n h) ∧ (vp_in ((y4 + (-1 : Int32)) - (1 : Int32)) (hp_l h q_53)) ∧ (a0 < hp_n h) ∧ (∃ q_59, (hp_r h a0 1 = some q_59) ∧ (ab_k q_59 = 17) ∧ (q_59 < hp_n h) ∧ (vp_in (y4 + (-1 : Int32)) (hp_l h q_59)) ∧ wp_X4_joined (-(hp_i h q_28 y5.toNatClampNeg)) (hp_i h q_53 (((y4 + (-1 : Int32)) - (1 : Int32)).toNatClampNeg)) (hp_i h q_59 ((y4 + (-1 : Int32)).toNatClampNeg)) h (fun v_64 => (ab_k q_50 = 17) ∧ (q_50 < hp_n h) ∧ (vp_in ((y4 + (-1 : Int32)) - (1 : Int32)) (hp_l h q_50)) ∧ (∀ h_68, h_68 = hp_si h q_50 (((y4 + (-1 : Int32)) - (1 : Int32)).toNatClampNeg) v_64 → (wp_X4_value_L6 a0 x1 x2 x3 Q nn) (y4 + (-1 : Int32)) (y5 + (1 : Int32)) h_68)))))))))))))))))) ∧ (¬ ((hp_i h q_28 y5.toNatClampNeg) < 0) → (a0 < hp_n h) ∧ (∃ q_145, (hp_r h a0 1 = some q_145) ∧ (ab_k q_145 = 17) ∧ (q_145 < hp_n h) ∧ (vp_in y4 (hp_l h q_145)) ∧ (∀ h_150, h_150 = hp_si h q_145 y4.toNatClampNeg (hp_i h q_28 y5.toNatClampNeg) → (wp_X4_value_L6 a0 x1 x2 x3 Q nn) (y4 + (1 : Int32)) (y5 + (1 : Int32)) h_150)))))))))))
set_option maxRecDepth 100000 in
set_option maxHeartbeats 4000000 in
theorem bt_X4_value_L6 {l : Launch} {G : ab_G} {F : ab_F} {a0 : Nat} {x1 : Int32} {x2 : Int32} {x3 : Int32} {Q : Int32 → hp_T → Prop}  (C : ab_C G F rm_X4_value cX4_value 7 RX4 (some .int) "value") (hk0 : ab_k a0 = 4)  : ∀ (nn : Nat) (y4 : Int32) (y5 : Int32) (h : hp_T), wf h → wp_X4_value_L6 a0 x1 x2 x3 Q nn y4 y5 h → ab_W l G F 7 (ab_MQ G F (po_h Q) 0 0) 0 0 h [(0, .ref (G.1 + a0)), (1, .int x1), (2, .int x2), (3, .int x3), (4, .int y4), (5, .int y5)] [] 6 := by
  intro nn
  induction nn with
  | zero =>
    intro y4 y5 h hw f
    exact absurd f id
  | succ nn ih =>
    intro y4 y5 h hw f
    unfold wp_X4_value_L6 at f
    refine ab_iload C 5 dX4_value_6 rfl ?_
    refine ab_aload_n C 0 dX4_value_8 rfl rfl ?_
    obtain ⟨c_1, f⟩ := f
    obtain ⟨q_2, c_3, f⟩ := f
    refine ab_getR C (q := q_2) fl_X4_7 rfl hk0 c_1 c_3 dX4_value_9 ?_
    obtain ⟨c_4, c_5, f⟩ := f
    refine ab_alen C (N := hp_l h q_2) (Or.inl (by rw [c_4]; decide)) c_5 rfl dX4_value_12 ?_
    refine ab_icmp_ge C (tgt := 212) dX4_value_13 (by decide) (fun c_6 => ?_) (fun c_6 => ?_)
    · have f := f.1 c_6
      refine ab_iload C 4 dX4_value_212 rfl ?_
      refine ab_if_le C (tgt := 226) dX4_value_214 (by decide) (fun c_7 => ?_) (fun c_7 => ?_)
      · have f := f.1 c_7
        refine ab_iconst C (v := (0 : Int32)) dX4_value_226 (by decide) ?_
        exact ab_iret C dX4_value_227 ⟨hw, _, rfl, f⟩
      · have f := f.2 c_7
        refine ab_aload_n C 0 dX4_value_217 rfl rfl ?_
        obtain ⟨c_8, f⟩ := f
        obtain ⟨q_9, c_10, f⟩ := f
        refine ab_getR C (q := q_9) fl_X4_13 rfl hk0 c_8 c_10 dX4_value_218 ?_
        refine ab_iconst C (v := (0 : Int32)) dX4_value_221 (by decide) ?_
        obtain ⟨c_11, c_12, f⟩ := f
        obtain ⟨c_13, f⟩ := f
        refine ab_iald C (by rw [c_11]; decide) c_12 rfl c_13 (j := 0) (by decide) dX4_value_222 ?_
        refine ab_goto C (tgt := 227) dX4_value_223 (by decide) ?_
        exact ab_iret C dX4_value_227 ⟨hw, _, rfl, f⟩
    · have f := f.2 c_6
      refine ab_iload C 4 dX4_value_16 rfl ?_
      refine ab_aload_n C 0 dX4_value_18 rfl rfl ?_
      obtain ⟨c_14, f⟩ := f
      obtain ⟨q_15, c_16, f⟩ := f
      refine ab_getR C (q := q_15) fl_X4_13 rfl hk0 c_14 c_16 dX4_value_19 ?_
      obtain ⟨c_17, c_18, f⟩ := f
      refine ab_alen C (N := hp_l h q_15) (Or.inl (by rw [c_17]; decide)) c_18 rfl dX4_value_22 ?_
      refine ab_icmp_ge C (tgt := 212) dX4_value_23 (by decide) (fun c_19 => ?_) (fun c_19 => ?_)
      · have f := f.1 c_19
        refine ab_iload C 4 dX4_value_212 rfl ?_
        refine ab_if_le C (tgt := 226) dX4_value_214 (by decide) (fun c_20 => ?_) (fun c_20 => ?_)
        · have f := f.1 c_20
          refine ab_iconst C (v := (0 : Int32)) dX4_value_226 (by decide) ?_
          exact ab_iret C dX4_value_227 ⟨hw, _, rfl, f⟩
        · have f := f.2 c_20
          refine ab_aload_n C 0 dX4_value_217 rfl rfl ?_
          obtain ⟨c_21, f⟩ := f
          obtain ⟨q_22, c_23, f⟩ := f
          refine ab_getR C (q := q_22) fl_X4_13 rfl hk0 c_21 c_23 dX4_value_218 ?_
          refine ab_iconst C (v := (0 : Int32)) dX4_value_221 (by decide) ?_
          obtain ⟨c_24, c_25, f⟩ := f
          obtain ⟨c_26, f⟩ := f
          refine ab_iald C (by rw [c_24]; decide) c_25 rfl c_26 (j := 0) (by decide) dX4_value_222 ?_
          refine ab_goto C (tgt := 227) dX4_value_223 (by decide) ?_
          exact ab_iret C dX4_value_227 ⟨hw, _, rfl, f⟩
      · have f := f.2 c_19
        refine ab_aload_n C 0 dX4_value_26 rfl rfl ?_
        obtain ⟨c_27, f⟩ := f
        obtain ⟨q_28, c_29, f⟩ := f
        refine ab_getR C (q := q_28) fl_X4_7 rfl hk0 c_27 c_29 dX4_value_27 ?_
        refine ab_iload C 5 dX4_value_30 rfl ?_
        obtain ⟨c_30, c_31, f⟩ := f
        obtain ⟨c_32, f⟩ := f
        refine ab_iald C (by rw [c_30]; decide) c_31 rfl c_32 (j := y5.toNatClampNeg) rfl dX4_value_32 ?_
        refine ab_istore C (lv' := [(6, .int (hp_i h q_28 y5.toNatClampNeg)), (0, .ref (G.1 + a0)), (1, .int x1), (2, .int x2), (3, .int x3), (4, .int y4), (5, .int y5)]) dX4_value_33 (by decide) rfl ?_
        refine ab_iload C 0 dX4_value_35 rfl ?_
        refine ab_if_lt C (tgt := 55) dX4_value_37 (by decide) (fun c_33 => ?_) (fun c_33 => ?_)
        · have f := f.1 c_33
          refine ab_iload C 0 dX4_value_55 rfl ?_
          refine ab_bipush C (v := (-107 : Int32)) dX4_value_57 (by decide) ?_
          refine ab_icmp_ne C (tgt := 76) dX4_value_59 (by decide) (fun c_34 => ?_) (fun c_34 => ?_)
          · have f := f.2 c_34
            refine ab_iload C 0 dX4_value_76 rfl ?_
            refine ab_bipush C (v := (-104 : Int32)) dX4_value_78 (by decide) ?_
            refine ab_icmp_ne C (tgt := 97) dX4_value_80 (by decide) (fun c_35 => ?_) (fun c_35 => ?_)
            · have f := f.2 c_35
              refine ab_iload C 0 dX4_value_97 rfl ?_
              refine ab_bipush C (v := (-109 : Int32)) dX4_value_99 (by decide) ?_
              refine ab_icmp_eq C (tgt := 111) dX4_value_101 (by decide) (fun c_36 => ?_) (fun c_36 => ?_)
              · have f := f.1 c_36
                refine ab_aload_n C 1 dX4_value_111 rfl rfl ?_
                obtain ⟨c_37, f⟩ := f
                obtain ⟨q_38, c_39, f⟩ := f
                refine ab_getR C (q := q_38) fl_X4_13 rfl hk0 c_37 c_39 dX4_value_112 ?_
                refine ab_iload C 5 dX4_value_115 rfl ?_
                refine ab_iinc C (lv' := [(4, .int (y4 + (1 : Int32))), (6, .int (hp_i h q_28 y5.toNatClampNeg)), (0, .ref (G.1 + a0)), (1, .int x1), (2, .int x2), (3, .int x3), (5, .int y5)]) 5 (v := (y4 + (1 : Int32))) dX4_value_117 rfl rfl (by decide) rfl ?_
                refine ab_iload_n C 5 dX4_value_120 rfl rfl ?_
                obtain ⟨c_40, c_41, f⟩ := f
                obtain ⟨c_42, f⟩ := f
                refine ab_iast C (by rw [c_40]; decide) c_41 rfl c_42 (j := y4.toNatClampNeg) rfl dX4_value_121 (fun h_43 e_44 => ?_)
                have f := f h_43 e_44
                have hw_45 := wf_si e_44 hw
                refine ab_goto C (tgt := 206) dX4_value_122 (by decide) ?_
                refine ab_iinc C (lv' := [(5, .int (y5 + (1 : Int32))), (4, .int (y4 + (1 : Int32))), (6, .int (hp_i h q_28 y5.toNatClampNeg)), (0, .ref (G.1 + a0)), (1, .int x1), (2, .int x2), (3, .int x3)]) 6 (v := (y5 + (1 : Int32))) dX4_value_206 rfl rfl (by decide) rfl ?_
                refine ab_goto C (tgt := 6) dX4_value_209 (by decide) ?_
                refine ab_sub (lv' := [(0, .ref (G.1 + a0)), (1, .int x1), (2, .int x2), (3, .int x3), (4, .int (y4 + (1 : Int32))), (5, .int (y5 + (1 : Int32)))]) [3, 4, 5, 6, 1, 0] rfl ?_
                exact ih (y4 + (1 : Int32)) (y5 + (1 : Int32)) h_43  hw_45 f
              · have f := f.2 c_36
                refine ab_iload C 0 dX4_value_104 rfl ?_
                refine ab_bipush C (v := (-100 : Int32)) dX4_value_106 (by decide) ?_
                refine ab_icmp_ne C (tgt := 125) dX4_value_108 (by decide) (fun c_46 => ?_) (fun c_46 => ?_)
                · have f := f.2 c_46
                  refine ab_iload C 0 dX4_value_125 rfl ?_
                  refine ab_bipush C (v := (-33 : Int32)) dX4_value_127 (by decide) ?_
                  refine ab_icmp_ne C (tgt := 166) dX4_value_129 (by decide) (fun c_47 => ?_) (fun c_47 => ?_)
                  · have f := f.2 c_47
                    refine ab_iload C 5 dX4_value_166 rfl ?_
                    refine ab_iconst C (v := (1 : Int32)) dX4_value_168 (by decide) ?_
                    refine ab_icmp_le C (tgt := 206) dX4_value_169 (by decide) (fun c_48 => ?_) (fun c_48 => ?_)
                    · have f := f.1 c_48
                      refine ab_iinc C (lv' := [(5, .int (y5 + (1 : Int32))), (6, .int (hp_i h q_28 y5.toNatClampNeg)), (0, .ref (G.1 + a0)), (1, .int x1), (2, .int x2), (3, .int x3), (4, .int y4)]) 6 (v := (y5 + (1 : Int32))) dX4_value_206 rfl rfl (by decide) rfl ?_
                      refine ab_goto C (tgt := 6) dX4_value_209 (by decide) ?_
                      refine ab_sub (lv' := [(0, .ref (G.1 + a0)), (1, .int x1), (2, .int x2), (3, .int x3), (4, .int y4), (5, .int (y5 + (1 : Int32)))]) [2, 3, 4, 5, 6, 0] rfl ?_
                      exact ih y4 (y5 + (1 : Int32)) h  hw f
                    · have f := f.2 c_48
                      refine ab_iinc C (lv' := [(4, .int (y4 + (-1 : Int32))), (6, .int (hp_i h q_28 y5.toNatClampNeg)), (0, .ref (G.1 + a0)), (1, .int x1), (2, .int x2), (3, .int x3), (5, .int y5)]) 5 (v := (y4 + (-1 : Int32))) dX4_value_172 rfl rfl (by decide) rfl ?_
                      refine ab_aload_n C 2 dX4_value_175 rfl rfl ?_
                      obtain ⟨c_49, f⟩ := f
                      obtain ⟨q_50, c_51, f⟩ := f
                      refine ab_getR C (q := q_50) fl_X4_13 rfl hk0 c_49 c_51 dX4_value_176 ?_
                      refine ab_iload C 0 dX4_value_179 rfl ?_
                      refine ab_iconst C (v := (1 : Int32)) dX4_value_181 (by decide) ?_
                      refine ab_isub C dX4_value_182 ?_
                      refine ab_iload C 1 dX4_value_183 rfl ?_
                      refine ab_ineg C dX4_value_185 ?_
                      refine ab_aload_n C 2 dX4_value_186 rfl rfl ?_
                      obtain ⟨c_52, f⟩ := f
                      obtain ⟨q_53, c_54, f⟩ := f
                      refine ab_getR C (q := q_53) fl_X4_13 rfl hk0 c_52 c_54 dX4_value_187 ?_
                      refine ab_iload C 0 dX4_value_190 rfl ?_
                      refine ab_iconst C (v := (1 : Int32)) dX4_value_192 (by decide) ?_
                      refine ab_isub C dX4_value_193 ?_
                      obtain ⟨c_55, c_56, f⟩ := f
                      obtain ⟨c_57, f⟩ := f
                      refine ab_iald C (by rw [c_55]; decide) c_56 rfl c_57 (j := ((y4 + (-1 : Int32)) - (1 : Int32)).toNatClampNeg) rfl dX4_value_194 ?_
                      refine ab_aload_n C 2 dX4_value_195 rfl rfl ?_
                      obtain ⟨c_58, f⟩ := f
                      obtain ⟨q_59, c_60, f⟩ := f
                      refine ab_getR C (q := q_59) fl_X4_13 rfl hk0 c_58 c_60 dX4_value_196 ?_
                      refine ab_iload C 0 dX4_value_199 rfl ?_
                      obtain ⟨c_61, c_62, f⟩ := f
                      obtain ⟨c_63, f⟩ := f
                      refine ab_iald C (by rw [c_61]; decide) c_62 rfl c_63 (j := (y4 + (-1 : Int32)).toNatClampNeg) rfl dX4_value_201 ?_
                      refine ab_callS C (k := 0) (n := 0) (rest := [.int ((y4 + (-1 : Int32)) - (1 : Int32)), .ref (G.1 + q_50)]) [.int (-(hp_i h q_28 y5.toNatClampNeg)), .int (hp_i h q_53 (((y4 + (-1 : Int32)) - (1 : Int32)).toNatClampNeg)), .int (hp_i h q_59 ((y4 + (-1 : Int32)).toNatClampNeg))] cl_X4_22 (mt_X4_joined  hw f) ⟨rfl, rfl, Nat.le_of_ble_eq_true rfl, Nat.le_of_ble_eq_true rfl, Nat.zero_le _, Nat.zero_le _⟩ rfl rfl (Nat.le_of_ble_eq_true rfl) dX4_value_202 (ab_kp (k := 0) (n := 0) (fun v_64 f => ?_))
                      obtain ⟨c_65, c_66, f⟩ := f
                      obtain ⟨c_67, f⟩ := f
                      refine ab_iast C (by rw [c_65]; decide) c_66 rfl c_67 (j := ((y4 + (-1 : Int32)) - (1 : Int32)).toNatClampNeg) rfl dX4_value_205 (fun h_68 e_69 => ?_)
                      have f := f h_68 e_69
                      have hw_70 := wf_si e_69 hw
                      refine ab_iinc C (lv' := [(5, .int (y5 + (1 : Int32))), (4, .int (y4 + (-1 : Int32))), (6, .int (hp_i h q_28 y5.toNatClampNeg)), (0, .ref (G.1 + a0)), (1, .int x1), (2, .int x2), (3, .int x3)]) 6 (v := (y5 + (1 : Int32))) dX4_value_206 rfl rfl (by decide) rfl ?_
                      refine ab_goto C (tgt := 6) dX4_value_209 (by decide) ?_
                      refine ab_sub (lv' := [(0, .ref (G.1 + a0)), (1, .int x1), (2, .int x2), (3, .int x3), (4, .int (y4 + (-1 : Int32))), (5, .int (y5 + (1 : Int32)))]) [3, 4, 5, 6, 1, 0] rfl ?_
                      exact ih (y4 + (-1 : Int32)) (y5 + (1 : Int32)) h_68  hw_70 f
                  · have f := f.1 c_47
                    refine ab_iload C 5 dX4_value_132 rfl ?_
                    refine ab_if_le C (tgt := 166) dX4_value_134 (by decide) (fun c_71 => ?_) (fun c_71 => ?_)
                    · have f := f.1 c_71
                      refine ab_iload C 5 dX4_value_166 rfl ?_
                      refine ab_iconst C (v := (1 : Int32)) dX4_value_168 (by decide) ?_
                      refine ab_icmp_le C (tgt := 206) dX4_value_169 (by decide) (fun c_72 => ?_) (fun c_72 => ?_)
                      · have f := f.1 c_72
                        refine ab_iinc C (lv' := [(5, .int (y5 + (1 : Int32))), (6, .int (hp_i h q_28 y5.toNatClampNeg)), (0, .ref (G.1 + a0)), (1, .int x1), (2, .int x2), (3, .int x3), (4, .int y4)]) 6 (v := (y5 + (1 : Int32))) dX4_value_206 rfl rfl (by decide) rfl ?_
                        refine ab_goto C (tgt := 6) dX4_value_209 (by decide) ?_
                        refine ab_sub (lv' := [(0, .ref (G.1 + a0)), (1, .int x1), (2, .int x2), (3, .int x3), (4, .int y4), (5, .int (y5 + (1 : Int32)))]) [2, 3, 4, 5, 6, 0] rfl ?_
                        exact ih y4 (y5 + (1 : Int32)) h  hw f
                      · have f := f.2 c_72
                        refine ab_iinc C (lv' := [(4, .int (y4 + (-1 : Int32))), (6, .int (hp_i h q_28 y5.toNatClampNeg)), (0, .ref (G.1 + a0)), (1, .int x1), (2, .int x2), (3, .int x3), (5, .int y5)]) 5 (v := (y4 + (-1 : Int32))) dX4_value_172 rfl rfl (by decide) rfl ?_
                        refine ab_aload_n C 2 dX4_value_175 rfl rfl ?_
                        obtain ⟨c_73, f⟩ := f
                        obtain ⟨q_74, c_75, f⟩ := f
                        refine ab_getR C (q := q_74) fl_X4_13 rfl hk0 c_73 c_75 dX4_value_176 ?_
                        refine ab_iload C 0 dX4_value_179 rfl ?_
                        refine ab_iconst C (v := (1 : Int32)) dX4_value_181 (by decide) ?_
                        refine ab_isub C dX4_value_182 ?_
                        refine ab_iload C 1 dX4_value_183 rfl ?_
                        refine ab_ineg C dX4_value_185 ?_
                        refine ab_aload_n C 2 dX4_value_186 rfl rfl ?_
                        obtain ⟨c_76, f⟩ := f
                        obtain ⟨q_77, c_78, f⟩ := f
                        refine ab_getR C (q := q_77) fl_X4_13 rfl hk0 c_76 c_78 dX4_value_187 ?_
                        refine ab_iload C 0 dX4_value_190 rfl ?_
                        refine ab_iconst C (v := (1 : Int32)) dX4_value_192 (by decide) ?_
                        refine ab_isub C dX4_value_193 ?_
                        obtain ⟨c_79, c_80, f⟩ := f
                        obtain ⟨c_81, f⟩ := f
                        refine ab_iald C (by rw [c_79]; decide) c_80 rfl c_81 (j := ((y4 + (-1 : Int32)) - (1 : Int32)).toNatClampNeg) rfl dX4_value_194 ?_
                        refine ab_aload_n C 2 dX4_value_195 rfl rfl ?_
                        obtain ⟨c_82, f⟩ := f
                        obtain ⟨q_83, c_84, f⟩ := f
                        refine ab_getR C (q := q_83) fl_X4_13 rfl hk0 c_82 c_84 dX4_value_196 ?_
                        refine ab_iload C 0 dX4_value_199 rfl ?_
                        obtain ⟨c_85, c_86, f⟩ := f
                        obtain ⟨c_87, f⟩ := f
                        refine ab_iald C (by rw [c_85]; decide) c_86 rfl c_87 (j := (y4 + (-1 : Int32)).toNatClampNeg) rfl dX4_value_201 ?_
                        refine ab_callS C (k := 0) (n := 0) (rest := [.int ((y4 + (-1 : Int32)) - (1 : Int32)), .ref (G.1 + q_74)]) [.int (-(hp_i h q_28 y5.toNatClampNeg)), .int (hp_i h q_77 (((y4 + (-1 : Int32)) - (1 : Int32)).toNatClampNeg)), .int (hp_i h q_83 ((y4 + (-1 : Int32)).toNatClampNeg))] cl_X4_22 (mt_X4_joined  hw f) ⟨rfl, rfl, Nat.le_of_ble_eq_true rfl, Nat.le_of_ble_eq_true rfl, Nat.zero_le _, Nat.zero_le _⟩ rfl rfl (Nat.le_of_ble_eq_true rfl) dX4_value_202 (ab_kp (k := 0) (n := 0) (fun v_88 f => ?_))
                        obtain ⟨c_89, c_90, f⟩ := f
                        obtain ⟨c_91, f⟩ := f
                        refine ab_iast C (by rw [c_89]; decide) c_90 rfl c_91 (j := ((y4 + (-1 : Int32)) - (1 : Int32)).toNatClampNeg) rfl dX4_value_205 (fun h_92 e_93 => ?_)
                        have f := f h_92 e_93
                        have hw_94 := wf_si e_93 hw
                        refine ab_iinc C (lv' := [(5, .int (y5 + (1 : Int32))), (4, .int (y4 + (-1 : Int32))), (6, .int (hp_i h q_28 y5.toNatClampNeg)), (0, .ref (G.1 + a0)), (1, .int x1), (2, .int x2), (3, .int x3)]) 6 (v := (y5 + (1 : Int32))) dX4_value_206 rfl rfl (by decide) rfl ?_
                        refine ab_goto C (tgt := 6) dX4_value_209 (by decide) ?_
                        refine ab_sub (lv' := [(0, .ref (G.1 + a0)), (1, .int x1), (2, .int x2), (3, .int x3), (4, .int (y4 + (-1 : Int32))), (5, .int (y5 + (1 : Int32)))]) [3, 4, 5, 6, 1, 0] rfl ?_
                        exact ih (y4 + (-1 : Int32)) (y5 + (1 : Int32)) h_92  hw_94 f
                    · have f := f.2 c_71
                      refine ab_aload_n C 1 dX4_value_137 rfl rfl ?_
                      obtain ⟨c_95, f⟩ := f
                      obtain ⟨q_96, c_97, f⟩ := f
                      refine ab_getR C (q := q_96) fl_X4_13 rfl hk0 c_95 c_97 dX4_value_138 ?_
                      refine ab_iload C 5 dX4_value_141 rfl ?_
                      refine ab_iconst C (v := (1 : Int32)) dX4_value_143 (by decide) ?_
                      refine ab_isub C dX4_value_144 ?_
                      refine ab_aload_n C 1 dX4_value_145 rfl rfl ?_
                      obtain ⟨c_98, f⟩ := f
                      obtain ⟨q_99, c_100, f⟩ := f
                      refine ab_getR C (q := q_99) fl_X4_13 rfl hk0 c_98 c_100 dX4_value_146 ?_
                      refine ab_iload C 5 dX4_value_149 rfl ?_
                      refine ab_iconst C (v := (1 : Int32)) dX4_value_151 (by decide) ?_
                      refine ab_isub C dX4_value_152 ?_
                      obtain ⟨c_101, c_102, f⟩ := f
                      obtain ⟨c_103, f⟩ := f
                      refine ab_iald C (by rw [c_101]; decide) c_102 rfl c_103 (j := (y4 - (1 : Int32)).toNatClampNeg) rfl dX4_value_153 ?_
                      refine ab_if_ne C (tgt := 161) dX4_value_154 (by decide) (fun c_104 => ?_) (fun c_104 => ?_)
                      · have f := f.2 c_104
                        refine ab_iconst C (v := (0 : Int32)) dX4_value_161 (by decide) ?_
                        obtain ⟨c_105, c_106, f⟩ := f
                        obtain ⟨c_107, f⟩ := f
                        refine ab_iast C (by rw [c_105]; decide) c_106 rfl c_107 (j := (y4 - (1 : Int32)).toNatClampNeg) rfl dX4_value_162 (fun h_108 e_109 => ?_)
                        have f := f h_108 e_109
                        have hw_110 := wf_si e_109 hw
                        refine ab_goto C (tgt := 206) dX4_value_163 (by decide) ?_
                        refine ab_iinc C (lv' := [(5, .int (y5 + (1 : Int32))), (6, .int (hp_i h q_28 y5.toNatClampNeg)), (0, .ref (G.1 + a0)), (1, .int x1), (2, .int x2), (3, .int x3), (4, .int y4)]) 6 (v := (y5 + (1 : Int32))) dX4_value_206 rfl rfl (by decide) rfl ?_
                        refine ab_goto C (tgt := 6) dX4_value_209 (by decide) ?_
                        refine ab_sub (lv' := [(0, .ref (G.1 + a0)), (1, .int x1), (2, .int x2), (3, .int x3), (4, .int y4), (5, .int (y5 + (1 : Int32)))]) [2, 3, 4, 5, 6, 0] rfl ?_
                        exact ih y4 (y5 + (1 : Int32)) h_108  hw_110 f
                      · have f := f.1 c_104
                        refine ab_iconst C (v := (1 : Int32)) dX4_value_157 (by decide) ?_
                        refine ab_goto C (tgt := 162) dX4_value_158 (by decide) ?_
                        obtain ⟨c_111, c_112, f⟩ := f
                        obtain ⟨c_113, f⟩ := f
                        refine ab_iast C (by rw [c_111]; decide) c_112 rfl c_113 (j := (y4 - (1 : Int32)).toNatClampNeg) rfl dX4_value_162 (fun h_114 e_115 => ?_)
                        have f := f h_114 e_115
                        have hw_116 := wf_si e_115 hw
                        refine ab_goto C (tgt := 206) dX4_value_163 (by decide) ?_
                        refine ab_iinc C (lv' := [(5, .int (y5 + (1 : Int32))), (6, .int (hp_i h q_28 y5.toNatClampNeg)), (0, .ref (G.1 + a0)), (1, .int x1), (2, .int x2), (3, .int x3), (4, .int y4)]) 6 (v := (y5 + (1 : Int32))) dX4_value_206 rfl rfl (by decide) rfl ?_
                        refine ab_goto C (tgt := 6) dX4_value_209 (by decide) ?_
                        refine ab_sub (lv' := [(0, .ref (G.1 + a0)), (1, .int x1), (2, .int x2), (3, .int x3), (4, .int y4), (5, .int (y5 + (1 : Int32)))]) [2, 3, 4, 5, 6, 0] rfl ?_
                        exact ih y4 (y5 + (1 : Int32)) h_114  hw_116 f
                · have f := f.1 c_46
                  refine ab_aload_n C 1 dX4_value_111 rfl rfl ?_
                  obtain ⟨c_117, f⟩ := f
                  obtain ⟨q_118, c_119, f⟩ := f
                  refine ab_getR C (q := q_118) fl_X4_13 rfl hk0 c_117 c_119 dX4_value_112 ?_
                  refine ab_iload C 5 dX4_value_115 rfl ?_
                  refine ab_iinc C (lv' := [(4, .int (y4 + (1 : Int32))), (6, .int (hp_i h q_28 y5.toNatClampNeg)), (0, .ref (G.1 + a0)), (1, .int x1), (2, .int x2), (3, .int x3), (5, .int y5)]) 5 (v := (y4 + (1 : Int32))) dX4_value_117 rfl rfl (by decide) rfl ?_
                  refine ab_iload_n C 5 dX4_value_120 rfl rfl ?_
                  obtain ⟨c_120, c_121, f⟩ := f
                  obtain ⟨c_122, f⟩ := f
                  refine ab_iast C (by rw [c_120]; decide) c_121 rfl c_122 (j := y4.toNatClampNeg) rfl dX4_value_121 (fun h_123 e_124 => ?_)
                  have f := f h_123 e_124
                  have hw_125 := wf_si e_124 hw
                  refine ab_goto C (tgt := 206) dX4_value_122 (by decide) ?_
                  refine ab_iinc C (lv' := [(5, .int (y5 + (1 : Int32))), (4, .int (y4 + (1 : Int32))), (6, .int (hp_i h q_28 y5.toNatClampNeg)), (0, .ref (G.1 + a0)), (1, .int x1), (2, .int x2), (3, .int x3)]) 6 (v := (y5 + (1 : Int32))) dX4_value_206 rfl rfl (by decide) rfl ?_
                  refine ab_goto C (tgt := 6) dX4_value_209 (by decide) ?_
                  refine ab_sub (lv' := [(0, .ref (G.1 + a0)), (1, .int x1), (2, .int x2), (3, .int x3), (4, .int (y4 + (1 : Int32))), (5, .int (y5 + (1 : Int32)))]) [3, 4, 5, 6, 1, 0] rfl ?_
                  exact ih (y4 + (1 : Int32)) (y5 + (1 : Int32)) h_123  hw_125 f
            · have f := f.1 c_35
              refine ab_aload_n C 1 dX4_value_83 rfl rfl ?_
              obtain ⟨c_126, f⟩ := f
              obtain ⟨q_127, c_128, f⟩ := f
              refine ab_getR C (q := q_127) fl_X4_13 rfl hk0 c_126 c_128 dX4_value_84 ?_
              refine ab_iload C 5 dX4_value_87 rfl ?_
              refine ab_iinc C (lv' := [(4, .int (y4 + (1 : Int32))), (6, .int (hp_i h q_28 y5.toNatClampNeg)), (0, .ref (G.1 + a0)), (1, .int x1), (2, .int x2), (3, .int x3), (5, .int y5)]) 5 (v := (y4 + (1 : Int32))) dX4_value_89 rfl rfl (by decide) rfl ?_
              refine ab_iload_n C 4 dX4_value_92 rfl rfl ?_
              obtain ⟨c_129, c_130, f⟩ := f
              obtain ⟨c_131, f⟩ := f
              refine ab_iast C (by rw [c_129]; decide) c_130 rfl c_131 (j := y4.toNatClampNeg) rfl dX4_value_93 (fun h_132 e_133 => ?_)
              have f := f h_132 e_133
              have hw_134 := wf_si e_133 hw
              refine ab_goto C (tgt := 206) dX4_value_94 (by decide) ?_
              refine ab_iinc C (lv' := [(5, .int (y5 + (1 : Int32))), (4, .int (y4 + (1 : Int32))), (6, .int (hp_i h q_28 y5.toNatClampNeg)), (0, .ref (G.1 + a0)), (1, .int x1), (2, .int x2), (3, .int x3)]) 6 (v := (y5 + (1 : Int32))) dX4_value_206 rfl rfl (by decide) rfl ?_
              refine ab_goto C (tgt := 6) dX4_value_209 (by decide) ?_
              refine ab_sub (lv' := [(0, .ref (G.1 + a0)), (1, .int x1), (2, .int x2), (3, .int x3), (4, .int (y4 + (1 : Int32))), (5, .int (y5 + (1 : Int32)))]) [3, 4, 5, 6, 1, 0] rfl ?_
              exact ih (y4 + (1 : Int32)) (y5 + (1 : Int32)) h_132  hw_134 f
          · have f := f.1 c_34
            refine ab_aload_n C 1 dX4_value_62 rfl rfl ?_
            obtain ⟨c_135, f⟩ := f
            obtain ⟨q_136, c_137, f⟩ := f
            refine ab_getR C (q := q_136) fl_X4_13 rfl hk0 c_135 c_137 dX4_value_63 ?_
            refine ab_iload C 5 dX4_value_66 rfl ?_
            refine ab_iinc C (lv' := [(4, .int (y4 + (1 : Int32))), (6, .int (hp_i h q_28 y5.toNatClampNeg)), (0, .ref (G.1 + a0)), (1, .int x1), (2, .int x2), (3, .int x3), (5, .int y5)]) 5 (v := (y4 + (1 : Int32))) dX4_value_68 rfl rfl (by decide) rfl ?_
            refine ab_iload_n C 3 dX4_value_71 rfl rfl ?_
            obtain ⟨c_138, c_139, f⟩ := f
            obtain ⟨c_140, f⟩ := f
            refine ab_iast C (by rw [c_138]; decide) c_139 rfl c_140 (j := y4.toNatClampNeg) rfl dX4_value_72 (fun h_141 e_142 => ?_)
            have f := f h_141 e_142
            have hw_143 := wf_si e_142 hw
            refine ab_goto C (tgt := 206) dX4_value_73 (by decide) ?_
            refine ab_iinc C (lv' := [(5, .int (y5 + (1 : Int32))), (4, .int (y4 + (1 : Int32))), (6, .int (hp_i h q_28 y5.toNatClampNeg)), (0, .ref (G.1 + a0)), (1, .int x1), (2, .int x2), (3, .int x3)]) 6 (v := (y5 + (1 : Int32))) dX4_value_206 rfl rfl (by decide) rfl ?_
            refine ab_goto C (tgt := 6) dX4_value_209 (by decide) ?_
            refine ab_sub (lv' := [(0, .ref (G.1 + a0)), (1, .int x1), (2, .int x2), (3, .int x3), (4, .int (y4 + (1 : Int32))), (5, .int (y5 + (1 : Int32)))]) [3, 4, 5, 6, 1, 0] rfl ?_
            exact ih (y4 + (1 : Int32)) (y5 + (1 : Int32)) h_141  hw_143 f
        · have f := f.2 c_33
          refine ab_aload_n C 1 dX4_value_40 rfl rfl ?_
          obtain ⟨c_144, f⟩ := f
          obtain ⟨q_145, c_146, f⟩ := f
          refine ab_getR C (q := q_145) fl_X4_13 rfl hk0 c_144 c_146 dX4_value_41 ?_
          refine ab_iload C 5 dX4_value_44 rfl ?_
          refine ab_iinc C (lv' := [(4, .int (y4 + (1 : Int32))), (6, .int (hp_i h q_28 y5.toNatClampNeg)), (0, .ref (G.1 + a0)), (1, .int x1), (2, .int x2), (3, .int x3), (5, .int y5)]) 5 (v := (y4 + (1 : Int32))) dX4_value_46 rfl rfl (by decide) rfl ?_
          refine ab_iload C 1 dX4_value_49 rfl ?_
          obtain ⟨c_147, c_148, f⟩ := f
          obtain ⟨c_149, f⟩ := f
          refine ab_iast C (by rw [c_147]; decide) c_148 rfl c_149 (j := y4.toNatClampNeg) rfl dX4_value_51 (fun h_150 e_151 => ?_)
          have f := f h_150 e_151
          have hw_152 := wf_si e_151 hw
          refine ab_goto C (tgt := 206) dX4_value_52 (by decide) ?_
          refine ab_iinc C (lv' := [(5, .int (y5 + (1 : Int32))), (4, .int (y4 + (1 : Int32))), (6, .int (hp_i h q_28 y5.toNatClampNeg)), (0, .ref (G.1 + a0)), (1, .int x1), (2, .int x2), (3, .int x3)]) 6 (v := (y5 + (1 : Int32))) dX4_value_206 rfl rfl (by decide) rfl ?_
          refine ab_goto C (tgt := 6) dX4_value_209 (by decide) ?_
          refine ab_sub (lv' := [(0, .ref (G.1 + a0)), (1, .int x1), (2, .int x2), (3, .int x3), (4, .int (y4 + (1 : Int32))), (5, .int (y5 + (1 : Int32)))]) [3, 4, 5, 6, 1, 0] rfl ?_
          exact ih (y4 + (1 : Int32)) (y5 + (1 : Int32)) h_150  hw_152 f
def wp_X4_value (a0 : Nat) (x1 : Int32) (x2 : Int32) (x3 : Int32) (h : hp_T) (Q : Int32 → hp_T → Prop) : Prop :=
  (∃ n0, wp_X4_value_L6 a0 x1 x2 x3 Q  n0 (0 : Int32) (0 : Int32) h)
set_option maxRecDepth 100000 in
set_option maxHeartbeats 4000000 in
theorem mt_X4_value {l : Launch} {G : ab_G} {a0 : Nat} {x1 : Int32} {x2 : Int32} {x3 : Int32} {h : hp_T} {Q : Int32 → hp_T → Prop} (hk0 : ab_k a0 = 4) (hw : wf h) (f : wp_X4_value a0 x1 x2 x3 h Q) : ab_M l G yX4_value cX4_value 7 (some .int) rm_X4_value 0 0 [.ref (G.1 + a0), .int x1, .int x2, .int x3] h (po_h Q) := by
  refine ab_intro (own := RX4) (nm := "value") rfl rfl rfl (Nat.le_of_ble_eq_true rfl) (fun F C => ?_)
  show ab_W l G F 7 (ab_MQ G F (po_h Q) 0 0) 0 0 h [(0, .ref (G.1 + a0)), (1, .int x1), (2, .int x2), (3, .int x3)] [] 0
  unfold wp_X4_value at f
  refine ab_iconst C (v := (0 : Int32)) dX4_value_0 (by decide) ?_
  refine ab_istore C (lv' := [(4, .int (0 : Int32)), (0, .ref (G.1 + a0)), (1, .int x1), (2, .int x2), (3, .int x3)]) dX4_value_1 (by decide) rfl ?_
  refine ab_iconst C (v := (0 : Int32)) dX4_value_3 (by decide) ?_
  refine ab_istore C (lv' := [(5, .int (0 : Int32)), (4, .int (0 : Int32)), (0, .ref (G.1 + a0)), (1, .int x1), (2, .int x2), (3, .int x3)]) dX4_value_4 (by decide) rfl ?_
  obtain ⟨n0, f⟩ := f
  refine ab_sub (lv' := [(0, .ref (G.1 + a0)), (1, .int x1), (2, .int x2), (3, .int x3), (4, .int (0 : Int32)), (5, .int (0 : Int32))]) [2, 3, 4, 5, 1, 0] rfl ?_
  exact bt_X4_value_L6 C hk0   n0 (0 : Int32) (0 : Int32) h  hw f
/-! X2_needs -/
def rm_X2_needs : Room := { frames := 4, cells := 0, slots := 0, locals := 148 }
def wp_X2_needs (a0 : Nat) (a1 : Nat) (x2 : Int32) (h : hp_T) (Q : Int32 → hp_T → Prop) : Prop :=
  (((hp_i h a1 0) = (1 : Int32) → (Q (1 : Int32) h)) ∧ (¬ ((hp_i h a1 0) = (1 : Int32)) → (((hp_i h a1 0) = (2 : Int32) → (Q ((2 : Int32) + (hp_i h a1 1)) h)) ∧ (¬ ((hp_i h a1 0) = (2 : Int32)) → (((hp_i h a1 0) = (3 : Int32) → (Q (2 : Int32) h)) ∧ (¬ ((hp_i h a1 0) = (3 : Int32)) → (((hp_i h a1 0) = (4 : Int32) → (Q (1 : Int32) h)) ∧ (¬ ((hp_i h a1 0) = (4 : Int32)) → (((hp_i h a1 0) = (5 : Int32) → (Q (2 : Int32) h)) ∧ (¬ ((hp_i h a1 0) = (5 : Int32)) → (((hp_i h a1 0) = (6 : Int32) → ((hp_r h (a0 + 6) 0 = none → wp_J6_bitCount_0f7a4 (hp_i h a1 3) h (fun v_9 => (Q (if (1 : Int32) < (if (hp_i h a1 1) < (99 : Int32) then (hp_i h a1 1) else (99 : Int32)) then (if (hp_i h a1 1) < (99 : Int32) then (hp_i h a1 1) else (99 : Int32)) else (1 : Int32)) h))) ∧ (∀ q_7, hp_r h (a0 + 6) 0 = some q_7 → wp_J6_bitCount_0f7a4 (hp_i h a1 3) h (fun v_10 => (ab_k q_7 = 4) ∧ (q_7 < hp_n h) ∧ wp_X4_value q_7 x2 v_10 (hp_i h a1 1) h (fun v_13 h_14 => (Q (if (1 : Int32) < (if v_13 < (99 : Int32) then v_13 else (99 : Int32)) then (if v_13 < (99 : Int32) then v_13 else (99 : Int32)) else (1 : Int32)) h_14)))))) ∧ (¬ ((hp_i h a1 0) = (6 : Int32)) → (Q (2 : Int32) h)))))))))))))
set_option maxRecDepth 100000 in
set_option maxHeartbeats 4000000 in
theorem mt_X2_needs {l : Launch} {G : ab_G} {a0 : Nat} {a1 : Nat} {x2 : Int32} {h : hp_T} {Q : Int32 → hp_T → Prop} (hk0 : ab_k a0 = 2) (hk1 : ab_k a1 = 0) (hw : wf h) (f : wp_X2_needs a0 a1 x2 h Q) : ab_M l G yX2_needs cX2_needs 6 (some .int) rm_X2_needs 0 0 [.ref (G.1 + a0), .ref (G.1 + a1), .int x2] h (po_h Q) := by
  refine ab_intro (own := RX2) (nm := "needs") rfl rfl rfl (Nat.le_of_ble_eq_true rfl) (fun F C => ?_)
  show ab_W l G F 6 (ab_MQ G F (po_h Q) 0 0) 0 0 h [(0, .ref (G.1 + a0)), (1, .ref (G.1 + a1)), (2, .int x2)] [] 0
  unfold wp_X2_needs at f
  refine ab_aload_n C 1 dX2_needs_0 rfl rfl ?_
  refine ab_getI C fl_X2_155 rfl hk1 (wf_lt hw hk1 rfl) dX2_needs_1 ?_
  by_cases c_1 : (hp_i h a1 0) = (1 : Int32)
  · have f := f.1 c_1
    refine ab_tabC C (off := 40) (tgt := 44) dX2_needs_4 c_1 (by decide) (by decide) (by decide) (by decide) ?_
    refine ab_iconst C (v := (1 : Int32)) dX2_needs_44 (by decide) ?_
    exact ab_iret C dX2_needs_45 ⟨hw, _, rfl, f⟩
  have f := f.2 c_1
  by_cases c_2 : (hp_i h a1 0) = (2 : Int32)
  · have f := f.1 c_2
    refine ab_tabC C (off := 42) (tgt := 46) dX2_needs_4 c_2 (by decide) (by decide) (by decide) (by decide) ?_
    refine ab_iconst C (v := (2 : Int32)) dX2_needs_46 (by decide) ?_
    refine ab_aload_n C 1 dX2_needs_47 rfl rfl ?_
    refine ab_getI C fl_X2_158 rfl hk1 (wf_lt hw hk1 rfl) dX2_needs_48 ?_
    refine ab_iadd C dX2_needs_51 ?_
    exact ab_iret C dX2_needs_52 ⟨hw, _, rfl, f⟩
  have f := f.2 c_2
  by_cases c_3 : (hp_i h a1 0) = (3 : Int32)
  · have f := f.1 c_3
    refine ab_tabC C (off := 101) (tgt := 105) dX2_needs_4 c_3 (by decide) (by decide) (by decide) (by decide) ?_
    refine ab_iconst C (v := (2 : Int32)) dX2_needs_105 (by decide) ?_
    exact ab_iret C dX2_needs_106 ⟨hw, _, rfl, f⟩
  have f := f.2 c_3
  by_cases c_4 : (hp_i h a1 0) = (4 : Int32)
  · have f := f.1 c_4
    refine ab_tabC C (off := 40) (tgt := 44) dX2_needs_4 c_4 (by decide) (by decide) (by decide) (by decide) ?_
    refine ab_iconst C (v := (1 : Int32)) dX2_needs_44 (by decide) ?_
    exact ab_iret C dX2_needs_45 ⟨hw, _, rfl, f⟩
  have f := f.2 c_4
  by_cases c_5 : (hp_i h a1 0) = (5 : Int32)
  · have f := f.1 c_5
    refine ab_tabC C (off := 101) (tgt := 105) dX2_needs_4 c_5 (by decide) (by decide) (by decide) (by decide) ?_
    refine ab_iconst C (v := (2 : Int32)) dX2_needs_105 (by decide) ?_
    exact ab_iret C dX2_needs_106 ⟨hw, _, rfl, f⟩
  have f := f.2 c_5
  by_cases c_6 : (hp_i h a1 0) = (6 : Int32)
  · have f := f.1 c_6
    refine ab_tabC C (off := 49) (tgt := 53) dX2_needs_4 c_6 (by decide) (by decide) (by decide) (by decide) ?_
    refine ab_aload_n C 0 dX2_needs_53 rfl rfl ?_
    refine ab_getR C (q := (a0 + 6)) fl_X2_43 rfl hk0 (wf_lt hw hk0 rfl) (wr_2_13 hw hk0) dX2_needs_54 ?_
    refine ab_iconst C (v := (0 : Int32)) dX2_needs_57 (by decide) ?_
    refine ab_aaldQ C (kn_2_13 hk0) (Or.inr (Or.inr (Or.inl rfl))) (wf_lt hw (kn_2_13 hk0) rfl) (wf_len hw (kn_2_13 hk0) rfl rfl (by decide)) (vp_lit (by decide)) (j := 0) (by decide) dX2_needs_58 (fun c_8 => ?_) (fun q_7 c_8 => ?_)
    · have f := f.1 c_8
      refine ab_astore_nN C (lv' := [(3, .null), (0, .ref (G.1 + a0)), (1, .ref (G.1 + a1)), (2, .int x2)]) dX2_needs_59 rfl (by decide) rfl ?_
      refine ab_aload_n C 2 dX2_needs_60 rfl rfl ?_
      refine ab_getI C fl_X2_161 rfl hk1 (wf_lt hw hk1 rfl) dX2_needs_61 ?_
      refine ab_callS C (k := 0) (n := 0) (rest := []) [.int (hp_i h a1 3)] cl_X2_164 (mt_J6_bitCount_0f7a4  hw f) ⟨rfl, rfl, Nat.le_of_ble_eq_true rfl, Nat.le_of_ble_eq_true rfl, Nat.zero_le _, Nat.zero_le _⟩ rfl rfl (Nat.le_of_ble_eq_true rfl) dX2_needs_64 (ab_kp (k := 0) (n := 0) (fun v_9 f => ?_))
      refine ab_istore C (lv' := [(4, .int v_9), (3, .null), (0, .ref (G.1 + a0)), (1, .ref (G.1 + a1)), (2, .int x2)]) dX2_needs_67 (by decide) rfl ?_
      refine ab_aload_nN C 1 dX2_needs_69 rfl rfl ?_
      refine ab_ifnonnullN C dX2_needs_70 ?_
      refine ab_aload_n C 3 dX2_needs_73 rfl rfl ?_
      refine ab_getI C fl_X2_158 rfl hk1 (wf_lt hw hk1 rfl) dX2_needs_74 ?_
      refine ab_goto C (tgt := 91) dX2_needs_77 (by decide) ?_
      refine ab_istore C (lv' := [(5, .int (hp_i h a1 1)), (4, .int v_9), (3, .null), (0, .ref (G.1 + a0)), (1, .ref (G.1 + a1)), (2, .int x2)]) dX2_needs_91 (by decide) rfl ?_
      refine ab_iconst C (v := (1 : Int32)) dX2_needs_93 (by decide) ?_
      refine ab_bipush C (v := (99 : Int32)) dX2_needs_94 (by decide) ?_
      refine ab_iload C 0 dX2_needs_96 rfl ?_
      refine ab_mmin C cm_X2_124 (by decide) (by decide) (by decide) (by decide) (Nat.le_of_ble_eq_true rfl) dX2_needs_98 ?_
      refine ab_mmax C cm_X2_173 (by decide) (by decide) (by decide) (by decide) (Nat.le_of_ble_eq_true rfl) dX2_needs_101 ?_
      exact ab_iret C dX2_needs_104 ⟨hw, _, rfl, f⟩
    · have f := f.2 q_7 c_8
      refine ab_astore_n C (lv' := [(3, .ref (G.1 + q_7)), (0, .ref (G.1 + a0)), (1, .ref (G.1 + a1)), (2, .int x2)]) dX2_needs_59 rfl (by decide) rfl ?_
      refine ab_aload_n C 2 dX2_needs_60 rfl rfl ?_
      refine ab_getI C fl_X2_161 rfl hk1 (wf_lt hw hk1 rfl) dX2_needs_61 ?_
      refine ab_callS C (k := 0) (n := 0) (rest := []) [.int (hp_i h a1 3)] cl_X2_164 (mt_J6_bitCount_0f7a4  hw f) ⟨rfl, rfl, Nat.le_of_ble_eq_true rfl, Nat.le_of_ble_eq_true rfl, Nat.zero_le _, Nat.zero_le _⟩ rfl rfl (Nat.le_of_ble_eq_true rfl) dX2_needs_64 (ab_kp (k := 0) (n := 0) (fun v_10 f => ?_))
      refine ab_istore C (lv' := [(4, .int v_10), (3, .ref (G.1 + q_7)), (0, .ref (G.1 + a0)), (1, .ref (G.1 + a1)), (2, .int x2)]) dX2_needs_67 (by decide) rfl ?_
      refine ab_aload_n C 1 dX2_needs_69 rfl rfl ?_
      refine ab_ifnonnullR C (tgt := 80) dX2_needs_70 (by decide) ?_
      refine ab_aload_n C 1 dX2_needs_80 rfl rfl ?_
      refine ab_iload_n C 4 dX2_needs_81 rfl rfl ?_
      refine ab_iload C 0 dX2_needs_82 rfl ?_
      refine ab_aload_n C 3 dX2_needs_84 rfl rfl ?_
      refine ab_getI C fl_X2_158 rfl hk1 (wf_lt hw hk1 rfl) dX2_needs_85 ?_
      obtain ⟨c_11, c_12, f⟩ := f
      refine ab_callV C (k := 0) (n := 0) (rest := []) [.int x2, .int v_10, .int (hp_i h a1 1)] cl_X2_169 (mt_X4_value c_11 hw f) rfl (by decide) c_11 c_12 ⟨rfl, rfl, Nat.le_of_ble_eq_true rfl, Nat.le_of_ble_eq_true rfl, Nat.zero_le _, Nat.zero_le _⟩ rfl rfl (Nat.le_of_ble_eq_true rfl) dX2_needs_88 (ab_kh (k := 0) (n := 0) (fun v_13 h_14 hw_15 f => ?_))
      refine ab_istore C (lv' := [(5, .int v_13), (4, .int v_10), (3, .ref (G.1 + q_7)), (0, .ref (G.1 + a0)), (1, .ref (G.1 + a1)), (2, .int x2)]) dX2_needs_91 (by decide) rfl ?_
      refine ab_iconst C (v := (1 : Int32)) dX2_needs_93 (by decide) ?_
      refine ab_bipush C (v := (99 : Int32)) dX2_needs_94 (by decide) ?_
      refine ab_iload C 0 dX2_needs_96 rfl ?_
      refine ab_mmin C cm_X2_124 (by decide) (by decide) (by decide) (by decide) (Nat.le_of_ble_eq_true rfl) dX2_needs_98 ?_
      refine ab_mmax C cm_X2_173 (by decide) (by decide) (by decide) (by decide) (Nat.le_of_ble_eq_true rfl) dX2_needs_101 ?_
      exact ab_iret C dX2_needs_104 ⟨hw_15, _, rfl, f⟩
  have f := f.2 c_6
  refine ab_tabOut C (tgt := 105) dX2_needs_4 (ab_tout (fun j j1 j2 => ?_)) (by decide) ?_
  · have hh : j = 1 ∨ j = 2 ∨ j = 3 ∨ j = 4 ∨ j = 5 ∨ j = 6 := by omega
    rcases hh with rfl | rfl | rfl | rfl | rfl | rfl
    · exact ab_ne c_1
    · exact ab_ne c_2
    · exact ab_ne c_3
    · exact ab_ne c_4
    · exact ab_ne c_5
    · exact ab_ne c_6
  · skip
    refine ab_iconst C (v := (2 : Int32)) dX2_needs_105 (by decide) ?_
    exact ab_iret C dX2_needs_106 ⟨hw, _, rfl, f⟩
/-! X2_ofKnack -/
def rm_X2_ofKnack : Room := { frames := 5, cells := 0, slots := 0, locals := 173 }
def wp_X2_ofKnack (a0 : Nat) (a1 : Nat) (x2 : Int32) (x3 : Int32) (h : hp_T) (Q : Int32 → hp_T → Prop) : Prop :=
  ((x2 = (1 : Int32) → (vp_in x3 6) ∧ (Q (hp_i h (a1 + 1) x3.toNatClampNeg) h)) ∧ (¬ (x2 = (1 : Int32)) → ((x2 = (2 : Int32) → (vp_in x3 6) ∧ (Q (hp_i h (a1 + 2) x3.toNatClampNeg) h)) ∧ (¬ (x2 = (2 : Int32)) → wp_X2_needs a0 a1 x3 h (fun v_5 h_6 => (Q v_5 h_6))))))
set_option maxRecDepth 100000 in
set_option maxHeartbeats 4000000 in
theorem mt_X2_ofKnack {l : Launch} {G : ab_G} {a0 : Nat} {a1 : Nat} {x2 : Int32} {x3 : Int32} {h : hp_T} {Q : Int32 → hp_T → Prop} (hk0 : ab_k a0 = 2) (hk1 : ab_k a1 = 0) (hw : wf h) (f : wp_X2_ofKnack a0 a1 x2 x3 h Q) : ab_M l G yX2_ofKnack cX2_ofKnack 4 (some .int) rm_X2_ofKnack 0 0 [.ref (G.1 + a0), .ref (G.1 + a1), .int x2, .int x3] h (po_h Q) := by
  refine ab_intro (own := RX2) (nm := "ofKnack") rfl rfl rfl (Nat.le_of_ble_eq_true rfl) (fun F C => ?_)
  show ab_W l G F 4 (ab_MQ G F (po_h Q) 0 0) 0 0 h [(0, .ref (G.1 + a0)), (1, .ref (G.1 + a1)), (2, .int x2), (3, .int x3)] [] 0
  unfold wp_X2_ofKnack at f
  refine ab_iload_n C 2 dX2_ofKnack_0 rfl rfl ?_
  by_cases c_1 : x2 = (1 : Int32)
  · have f := f.1 c_1
    refine ab_lookC C (off := 27) (tgt := 28) dX2_ofKnack_1 c_1 (by decide) (by decide) (by decide) ?_
    refine ab_aload_n C 1 dX2_ofKnack_28 rfl rfl ?_
    refine ab_getR C (q := (a1 + 1)) fl_X2_193 rfl hk1 (wf_lt hw hk1 rfl) (wr_0_5 hw hk1) dX2_ofKnack_29 ?_
    refine ab_iload_n C 3 dX2_ofKnack_32 rfl rfl ?_
    obtain ⟨c_2, f⟩ := f
    refine ab_iald C (by rw [(kn_0_5 hk1)]; decide) (wf_lt hw (kn_0_5 hk1) rfl) (wf_len hw (kn_0_5 hk1) rfl rfl (by decide)) c_2 (j := x3.toNatClampNeg) rfl dX2_ofKnack_33 ?_
    exact ab_iret C dX2_ofKnack_34 ⟨hw, _, rfl, f⟩
  have f := f.2 c_1
  by_cases c_3 : x2 = (2 : Int32)
  · have f := f.1 c_3
    refine ab_lookC C (off := 34) (tgt := 35) dX2_ofKnack_1 c_3 (by decide) (by decide) (by decide) ?_
    refine ab_aload_n C 1 dX2_ofKnack_35 rfl rfl ?_
    refine ab_getR C (q := (a1 + 2)) fl_X2_121 rfl hk1 (wf_lt hw hk1 rfl) (wr_0_6 hw hk1) dX2_ofKnack_36 ?_
    refine ab_iload_n C 3 dX2_ofKnack_39 rfl rfl ?_
    obtain ⟨c_4, f⟩ := f
    refine ab_iald C (by rw [(kn_0_6 hk1)]; decide) (wf_lt hw (kn_0_6 hk1) rfl) (wf_len hw (kn_0_6 hk1) rfl rfl (by decide)) c_4 (j := x3.toNatClampNeg) rfl dX2_ofKnack_40 ?_
    exact ab_iret C dX2_ofKnack_41 ⟨hw, _, rfl, f⟩
  have f := f.2 c_3
  refine ab_lookup C (off := 41) (tgt := 42) dX2_ofKnack_1 (by decide) ?_ (by decide) ?_
  · exact ab_lout [(1, 27), (2, 34)] (List.forall_mem_cons.mpr ⟨ab_ne c_1, (List.forall_mem_cons.mpr ⟨ab_ne c_3, (fun _ h => absurd h List.not_mem_nil)⟩)⟩)
  · skip
    refine ab_aload_n C 0 dX2_ofKnack_42 rfl rfl ?_
    refine ab_aload_n C 1 dX2_ofKnack_43 rfl rfl ?_
    refine ab_iload_n C 3 dX2_ofKnack_44 rfl rfl ?_
    refine ab_callV C (k := 0) (n := 0) (rest := []) [.ref (G.1 + a1), .int x3] cl_X2_130 (mt_X2_needs hk0 hk1 hw f) rfl (by decide) hk0 (wf_lt hw hk0 rfl) ⟨rfl, rfl, Nat.le_of_ble_eq_true rfl, Nat.le_of_ble_eq_true rfl, Nat.zero_le _, Nat.zero_le _⟩ rfl rfl (Nat.le_of_ble_eq_true rfl) dX2_ofKnack_45 (ab_kh (k := 0) (n := 0) (fun v_5 h_6 hw_7 f => ?_))
    exact ab_iret C dX2_ofKnack_48 ⟨hw_7, _, rfl, f⟩
/-! X2_pay -/
def rm_X2_pay : Room := { frames := 4, cells := 0, slots := 0, locals := 148 }
def wp_X2_pay (a0 : Nat) (a1 : Nat) (h : hp_T) (Q : Int32 → hp_T → Prop) : Prop :=
  wp_J6_bitCount_0f7a4 (hp_i h a1 3) h (fun v_1 => ((hp_r h (a0 + 6) 1 = none → (Q ((1 : Int32) + v_1) h)) ∧ (∀ q_2, hp_r h (a0 + 6) 1 = some q_2 → ((0 ≤ (hp_i h a1 2) → (ab_k q_2 = 4) ∧ (q_2 < hp_n h) ∧ wp_X4_value q_2 (hp_i h a1 0) v_1 ((hp_i h a0 8) - (hp_i h a1 2)) h (fun v_7 h_8 => (Q (if (0 : Int32) < (if v_7 < (999 : Int32) then v_7 else (999 : Int32)) then (if v_7 < (999 : Int32) then v_7 else (999 : Int32)) else (0 : Int32)) h_8))) ∧ (¬ (0 ≤ (hp_i h a1 2)) → (ab_k q_2 = 4) ∧ (q_2 < hp_n h) ∧ wp_X4_value q_2 (hp_i h a1 0) v_1 (0 : Int32) h (fun v_12 h_13 => (Q (if (0 : Int32) < (if v_12 < (999 : Int32) then v_12 else (999 : Int32)) then (if v_12 < (999 : Int32) then v_12 else (999 : Int32)) else (0 : Int32)) h_13)))))))
set_option maxRecDepth 100000 in
set_option maxHeartbeats 4000000 in
theorem mt_X2_pay {l : Launch} {G : ab_G} {a0 : Nat} {a1 : Nat} {h : hp_T} {Q : Int32 → hp_T → Prop} (hk0 : ab_k a0 = 2) (hk1 : ab_k a1 = 0) (hw : wf h) (f : wp_X2_pay a0 a1 h Q) : ab_M l G yX2_pay cX2_pay 5 (some .int) rm_X2_pay 0 0 [.ref (G.1 + a0), .ref (G.1 + a1)] h (po_h Q) := by
  refine ab_intro (own := RX2) (nm := "pay") rfl rfl rfl (Nat.le_of_ble_eq_true rfl) (fun F C => ?_)
  show ab_W l G F 5 (ab_MQ G F (po_h Q) 0 0) 0 0 h [(0, .ref (G.1 + a0)), (1, .ref (G.1 + a1))] [] 0
  unfold wp_X2_pay at f
  refine ab_aload_n C 1 dX2_pay_0 rfl rfl ?_
  refine ab_getI C fl_X2_161 rfl hk1 (wf_lt hw hk1 rfl) dX2_pay_1 ?_
  refine ab_callS C (k := 0) (n := 0) (rest := []) [.int (hp_i h a1 3)] cl_X2_164 (mt_J6_bitCount_0f7a4  hw f) ⟨rfl, rfl, Nat.le_of_ble_eq_true rfl, Nat.le_of_ble_eq_true rfl, Nat.zero_le _, Nat.zero_le _⟩ rfl rfl (Nat.le_of_ble_eq_true rfl) dX2_pay_4 (ab_kp (k := 0) (n := 0) (fun v_1 f => ?_))
  refine ab_istore_n C (lv' := [(2, .int v_1), (0, .ref (G.1 + a0)), (1, .ref (G.1 + a1))]) dX2_pay_7 rfl (by decide) rfl ?_
  refine ab_aload_n C 1 dX2_pay_8 rfl rfl ?_
  refine ab_getR C (q := (a0 + 6)) fl_X2_43 rfl hk0 (wf_lt hw hk0 rfl) (wr_2_13 hw hk0) dX2_pay_9 ?_
  refine ab_iconst C (v := (1 : Int32)) dX2_pay_12 (by decide) ?_
  refine ab_aaldQ C (kn_2_13 hk0) (Or.inr (Or.inr (Or.inl rfl))) (wf_lt hw (kn_2_13 hk0) rfl) (wf_len hw (kn_2_13 hk0) rfl rfl (by decide)) (vp_lit (by decide)) (j := 1) (by decide) dX2_pay_13 (fun c_3 => ?_) (fun q_2 c_3 => ?_)
  · have f := f.1 c_3
    refine ab_astore_nN C (lv' := [(3, .null), (2, .int v_1), (0, .ref (G.1 + a0)), (1, .ref (G.1 + a1))]) dX2_pay_14 rfl (by decide) rfl ?_
    refine ab_aload_nN C 0 dX2_pay_15 rfl rfl ?_
    refine ab_ifnonnullN C dX2_pay_16 ?_
    refine ab_iconst C (v := (1 : Int32)) dX2_pay_19 (by decide) ?_
    refine ab_iload_n C 1 dX2_pay_20 rfl rfl ?_
    refine ab_iadd C dX2_pay_21 ?_
    exact ab_iret C dX2_pay_22 ⟨hw, _, rfl, f⟩
  · have f := f.2 q_2 c_3
    refine ab_astore_n C (lv' := [(3, .ref (G.1 + q_2)), (2, .int v_1), (0, .ref (G.1 + a0)), (1, .ref (G.1 + a1))]) dX2_pay_14 rfl (by decide) rfl ?_
    refine ab_aload_n C 0 dX2_pay_15 rfl rfl ?_
    refine ab_ifnonnullR C (tgt := 23) dX2_pay_16 (by decide) ?_
    refine ab_aload_n C 3 dX2_pay_23 rfl rfl ?_
    refine ab_getI C fl_X2_176 rfl hk1 (wf_lt hw hk1 rfl) dX2_pay_24 ?_
    refine ab_if_ge C (tgt := 34) dX2_pay_27 (by decide) (fun c_4 => ?_) (fun c_4 => ?_)
    · have f := f.1 c_4
      refine ab_aload_n C 2 dX2_pay_34 rfl rfl ?_
      refine ab_getI C fl_X2_64 rfl hk0 (wf_lt hw hk0 rfl) dX2_pay_35 ?_
      refine ab_aload_n C 3 dX2_pay_38 rfl rfl ?_
      refine ab_getI C fl_X2_176 rfl hk1 (wf_lt hw hk1 rfl) dX2_pay_39 ?_
      refine ab_isub C dX2_pay_42 ?_
      refine ab_istore C (lv' := [(4, .int ((hp_i h a0 8) - (hp_i h a1 2))), (3, .ref (G.1 + q_2)), (2, .int v_1), (0, .ref (G.1 + a0)), (1, .ref (G.1 + a1))]) dX2_pay_43 (by decide) rfl ?_
      refine ab_iconst C (v := (0 : Int32)) dX2_pay_45 (by decide) ?_
      refine ab_sipush C (v := (999 : Int32)) dX2_pay_46 (by decide) ?_
      refine ab_aload_n C 1 dX2_pay_49 rfl rfl ?_
      refine ab_aload_n C 4 dX2_pay_50 rfl rfl ?_
      refine ab_getI C fl_X2_155 rfl hk1 (wf_lt hw hk1 rfl) dX2_pay_51 ?_
      refine ab_iload_n C 2 dX2_pay_54 rfl rfl ?_
      refine ab_iload C 0 dX2_pay_55 rfl ?_
      obtain ⟨c_5, c_6, f⟩ := f
      refine ab_callV C (k := 0) (n := 0) (rest := [.int (999 : Int32), .int (0 : Int32)]) [.int (hp_i h a1 0), .int v_1, .int ((hp_i h a0 8) - (hp_i h a1 2))] cl_X2_169 (mt_X4_value c_5 hw f) rfl (by decide) c_5 c_6 ⟨rfl, rfl, Nat.le_of_ble_eq_true rfl, Nat.le_of_ble_eq_true rfl, Nat.zero_le _, Nat.zero_le _⟩ rfl rfl (Nat.le_of_ble_eq_true rfl) dX2_pay_57 (ab_kh (k := 0) (n := 0) (fun v_7 h_8 hw_9 f => ?_))
      refine ab_mmin C cm_X2_124 (by decide) (by decide) (by decide) (by decide) (Nat.le_of_ble_eq_true rfl) dX2_pay_60 ?_
      refine ab_mmax C cm_X2_173 (by decide) (by decide) (by decide) (by decide) (Nat.le_of_ble_eq_true rfl) dX2_pay_63 ?_
      exact ab_iret C dX2_pay_66 ⟨hw_9, _, rfl, f⟩
    · have f := f.2 c_4
      refine ab_iconst C (v := (0 : Int32)) dX2_pay_30 (by decide) ?_
      refine ab_goto C (tgt := 43) dX2_pay_31 (by decide) ?_
      refine ab_istore C (lv' := [(4, .int (0 : Int32)), (3, .ref (G.1 + q_2)), (2, .int v_1), (0, .ref (G.1 + a0)), (1, .ref (G.1 + a1))]) dX2_pay_43 (by decide) rfl ?_
      refine ab_iconst C (v := (0 : Int32)) dX2_pay_45 (by decide) ?_
      refine ab_sipush C (v := (999 : Int32)) dX2_pay_46 (by decide) ?_
      refine ab_aload_n C 1 dX2_pay_49 rfl rfl ?_
      refine ab_aload_n C 4 dX2_pay_50 rfl rfl ?_
      refine ab_getI C fl_X2_155 rfl hk1 (wf_lt hw hk1 rfl) dX2_pay_51 ?_
      refine ab_iload_n C 2 dX2_pay_54 rfl rfl ?_
      refine ab_iload C 0 dX2_pay_55 rfl ?_
      obtain ⟨c_10, c_11, f⟩ := f
      refine ab_callV C (k := 0) (n := 0) (rest := [.int (999 : Int32), .int (0 : Int32)]) [.int (hp_i h a1 0), .int v_1, .int (0 : Int32)] cl_X2_169 (mt_X4_value c_10 hw f) rfl (by decide) c_10 c_11 ⟨rfl, rfl, Nat.le_of_ble_eq_true rfl, Nat.le_of_ble_eq_true rfl, Nat.zero_le _, Nat.zero_le _⟩ rfl rfl (Nat.le_of_ble_eq_true rfl) dX2_pay_57 (ab_kh (k := 0) (n := 0) (fun v_12 h_13 hw_14 f => ?_))
      refine ab_mmin C cm_X2_124 (by decide) (by decide) (by decide) (by decide) (Nat.le_of_ble_eq_true rfl) dX2_pay_60 ?_
      refine ab_mmax C cm_X2_173 (by decide) (by decide) (by decide) (by decide) (Nat.le_of_ble_eq_true rfl) dX2_pay_63 ?_
      exact ab_iret C dX2_pay_66 ⟨hw_14, _, rfl, f⟩
/-! X2_ofMan -/
def rm_X2_ofMan : Room := { frames := 6, cells := 0, slots := 0, locals := 196 }
def wp_X2_ofMan (a0 : Nat) (x1 : Int32) (x2 : Int32) (h : hp_T) (Q : Int32 → hp_T → Prop) : Prop :=
  (vp_in x1 6) ∧ ((x2 = (0 : Int32) → (Q (hp_i h (a0 + 8 + 3 * x1.toNatClampNeg) 0) h)) ∧ (¬ (x2 = (0 : Int32)) → ((x2 = (1 : Int32) → (Q (hp_i h (a0 + 8 + 3 * x1.toNatClampNeg) 1) h)) ∧ (¬ (x2 = (1 : Int32)) → ((x2 = (2 : Int32) → (Q (hp_i h (a0 + 8 + 3 * x1.toNatClampNeg) 2) h)) ∧ (¬ (x2 = (2 : Int32)) → ((x2 = (3 : Int32) → (Q (hp_i h (a0 + 8 + 3 * x1.toNatClampNeg) 3) h)) ∧ (¬ (x2 = (3 : Int32)) → ((x2 = (4 : Int32) → (Q (hp_i h (a0 + 8 + 3 * x1.toNatClampNeg) 4) h)) ∧ (¬ (x2 = (4 : Int32)) → ((x2 = (5 : Int32) → wp_X2_pay a0 (a0 + 8 + 3 * x1.toNatClampNeg) h (fun v_8 h_9 => (Q v_8 h_9))) ∧ (¬ (x2 = (5 : Int32)) → wp_X2_ofKnack a0 (a0 + 8 + 3 * x1.toNatClampNeg) (x2 / (6 : Int32)) (x2 - x2 / (6 : Int32) * (6 : Int32)) h (fun v_11 h_12 => (Q v_11 h_12))))))))))))))
set_option maxRecDepth 100000 in
set_option maxHeartbeats 4000000 in
theorem mt_X2_ofMan {l : Launch} {G : ab_G} {a0 : Nat} {x1 : Int32} {x2 : Int32} {h : hp_T} {Q : Int32 → hp_T → Prop} (hk0 : ab_k a0 = 2) (hw : wf h) (f : wp_X2_ofMan a0 x1 x2 h Q) : ab_M l G yX2_ofMan cX2_ofMan 4 (some .int) rm_X2_ofMan 0 0 [.ref (G.1 + a0), .int x1, .int x2] h (po_h Q) := by
  refine ab_intro (own := RX2) (nm := "ofMan") rfl rfl rfl (Nat.le_of_ble_eq_true rfl) (fun F C => ?_)
  show ab_W l G F 4 (ab_MQ G F (po_h Q) 0 0) 0 0 h [(0, .ref (G.1 + a0)), (1, .int x1), (2, .int x2)] [] 0
  unfold wp_X2_ofMan at f
  refine ab_aload_n C 0 dX2_ofMan_0 rfl rfl ?_
  refine ab_getR C (q := (a0 + 1)) fl_X2_11 rfl hk0 (wf_lt hw hk0 rfl) (wr_2_0 hw hk0) dX2_ofMan_1 ?_
  refine ab_iload_n C 1 dX2_ofMan_4 rfl rfl ?_
  obtain ⟨c_1, f⟩ := f
  refine ab_aaldR C (q := (a0 + 8 + 3 * x1.toNatClampNeg)) (kn_2_0 hk0) (Or.inl rfl) (wf_lt hw (kn_2_0 hk0) rfl) (wf_len hw (kn_2_0 hk0) rfl rfl (by decide)) c_1 (j := x1.toNatClampNeg) rfl (wx_bunk hw hk0 (vp_in_lt c_1)) dX2_ofMan_5 ?_
  refine ab_astore_n C (lv' := [(3, .ref (G.1 + (a0 + 8 + 3 * x1.toNatClampNeg))), (0, .ref (G.1 + a0)), (1, .int x1), (2, .int x2)]) dX2_ofMan_6 rfl (by decide) rfl ?_
  refine ab_iload_n C 3 dX2_ofMan_7 rfl rfl ?_
  by_cases c_2 : x2 = (0 : Int32)
  · have f := f.1 c_2
    refine ab_tabC C (off := 40) (tgt := 48) dX2_ofMan_8 c_2 (by decide) (by decide) (by decide) (by decide) ?_
    refine ab_aload_n C 0 dX2_ofMan_48 rfl rfl ?_
    refine ab_getI C fl_X2_155 rfl (kx_bunk hk0 (vp_in_lt c_1)) (wf_lt hw (kx_bunk hk0 (vp_in_lt c_1)) rfl) dX2_ofMan_49 ?_
    exact ab_iret C dX2_ofMan_52 ⟨hw, _, rfl, f⟩
  have f := f.2 c_2
  by_cases c_3 : x2 = (1 : Int32)
  · have f := f.1 c_3
    refine ab_tabC C (off := 45) (tgt := 53) dX2_ofMan_8 c_3 (by decide) (by decide) (by decide) (by decide) ?_
    refine ab_aload_n C 0 dX2_ofMan_53 rfl rfl ?_
    refine ab_getI C fl_X2_158 rfl (kx_bunk hk0 (vp_in_lt c_1)) (wf_lt hw (kx_bunk hk0 (vp_in_lt c_1)) rfl) dX2_ofMan_54 ?_
    exact ab_iret C dX2_ofMan_57 ⟨hw, _, rfl, f⟩
  have f := f.2 c_3
  by_cases c_4 : x2 = (2 : Int32)
  · have f := f.1 c_4
    refine ab_tabC C (off := 50) (tgt := 58) dX2_ofMan_8 c_4 (by decide) (by decide) (by decide) (by decide) ?_
    refine ab_aload_n C 0 dX2_ofMan_58 rfl rfl ?_
    refine ab_getI C fl_X2_176 rfl (kx_bunk hk0 (vp_in_lt c_1)) (wf_lt hw (kx_bunk hk0 (vp_in_lt c_1)) rfl) dX2_ofMan_59 ?_
    exact ab_iret C dX2_ofMan_62 ⟨hw, _, rfl, f⟩
  have f := f.2 c_4
  by_cases c_5 : x2 = (3 : Int32)
  · have f := f.1 c_5
    refine ab_tabC C (off := 55) (tgt := 63) dX2_ofMan_8 c_5 (by decide) (by decide) (by decide) (by decide) ?_
    refine ab_aload_n C 0 dX2_ofMan_63 rfl rfl ?_
    refine ab_getI C fl_X2_161 rfl (kx_bunk hk0 (vp_in_lt c_1)) (wf_lt hw (kx_bunk hk0 (vp_in_lt c_1)) rfl) dX2_ofMan_64 ?_
    exact ab_iret C dX2_ofMan_67 ⟨hw, _, rfl, f⟩
  have f := f.2 c_5
  by_cases c_6 : x2 = (4 : Int32)
  · have f := f.1 c_6
    refine ab_tabC C (off := 60) (tgt := 68) dX2_ofMan_8 c_6 (by decide) (by decide) (by decide) (by decide) ?_
    refine ab_aload_n C 0 dX2_ofMan_68 rfl rfl ?_
    refine ab_getI C fl_X2_90 rfl (kx_bunk hk0 (vp_in_lt c_1)) (wf_lt hw (kx_bunk hk0 (vp_in_lt c_1)) rfl) dX2_ofMan_69 ?_
    exact ab_iret C dX2_ofMan_72 ⟨hw, _, rfl, f⟩
  have f := f.2 c_6
  by_cases c_7 : x2 = (5 : Int32)
  · have f := f.1 c_7
    refine ab_tabC C (off := 65) (tgt := 73) dX2_ofMan_8 c_7 (by decide) (by decide) (by decide) (by decide) ?_
    refine ab_aload_n C 1 dX2_ofMan_73 rfl rfl ?_
    refine ab_aload_n C 0 dX2_ofMan_74 rfl rfl ?_
    refine ab_callV C (k := 0) (n := 0) (rest := []) [.ref (G.1 + (a0 + 8 + 3 * x1.toNatClampNeg))] cl_X2_179 (mt_X2_pay hk0 (kx_bunk hk0 (vp_in_lt c_1)) hw f) rfl (by decide) hk0 (wf_lt hw hk0 rfl) ⟨rfl, rfl, Nat.le_of_ble_eq_true rfl, Nat.le_of_ble_eq_true rfl, Nat.zero_le _, Nat.zero_le _⟩ rfl rfl (Nat.le_of_ble_eq_true rfl) dX2_ofMan_75 (ab_kh (k := 0) (n := 0) (fun v_8 h_9 hw_10 f => ?_))
    exact ab_iret C dX2_ofMan_78 ⟨hw_10, _, rfl, f⟩
  have f := f.2 c_7
  refine ab_tabOut C (tgt := 79) dX2_ofMan_8 (ab_tout (fun j j1 j2 => ?_)) (by decide) ?_
  · have hh : j = 0 ∨ j = 1 ∨ j = 2 ∨ j = 3 ∨ j = 4 ∨ j = 5 := by omega
    rcases hh with rfl | rfl | rfl | rfl | rfl | rfl
    · exact ab_ne c_2
    · exact ab_ne c_3
    · exact ab_ne c_4
    · exact ab_ne c_5
    · exact ab_ne c_6
    · exact ab_ne c_7
  · skip
    refine ab_aload_n C 1 dX2_ofMan_79 rfl rfl ?_
    refine ab_aload_n C 0 dX2_ofMan_80 rfl rfl ?_
    refine ab_iload_n C 3 dX2_ofMan_81 rfl rfl ?_
    refine ab_bipush C (v := (6 : Int32)) dX2_ofMan_82 (by decide) ?_
    refine ab_idiv C dX2_ofMan_84 (by decide) ?_
    refine ab_iload_n C 3 dX2_ofMan_85 rfl rfl ?_
    refine ab_bipush C (v := (6 : Int32)) dX2_ofMan_86 (by decide) ?_
    refine ab_irem C dX2_ofMan_88 (by decide) ?_
    refine ab_callV C (k := 0) (n := 0) (rest := []) [.ref (G.1 + (a0 + 8 + 3 * x1.toNatClampNeg)), .int (x2 / (6 : Int32)), .int (x2 - x2 / (6 : Int32) * (6 : Int32))] cl_X2_189 (mt_X2_ofKnack hk0 (kx_bunk hk0 (vp_in_lt c_1)) hw f) rfl (by decide) hk0 (wf_lt hw hk0 rfl) ⟨rfl, rfl, Nat.le_of_ble_eq_true rfl, Nat.le_of_ble_eq_true rfl, Nat.zero_le _, Nat.zero_le _⟩ rfl rfl (Nat.le_of_ble_eq_true rfl) dX2_ofMan_89 (ab_kh (k := 0) (n := 0) (fun v_11 h_12 hw_13 f => ?_))
    exact ab_iret C dX2_ofMan_92 ⟨hw_13, _, rfl, f⟩
/-! X2_ofTask -/
def rm_X2_ofTask : Room := { frames := 6, cells := 0, slots := 0, locals := 186 }
def wp_X2_ofTask (a0 : Nat) (x1 : Int32) (x2 : Int32) (h : hp_T) (Q : Int32 → Prop) : Prop :=
  (vp_in x1 4) ∧ ((x2 = (0 : Int32) → (Q (hp_i h (a0 + 26 + x1.toNatClampNeg) 0))) ∧ (¬ (x2 = (0 : Int32)) → ((x2 = (1 : Int32) → (Q (hp_i h (a0 + 26 + x1.toNatClampNeg) 1))) ∧ (¬ (x2 = (1 : Int32)) → ((x2 = (2 : Int32) → wp_X2_knowers a0 (hp_i h (a0 + 26 + x1.toNatClampNeg) 0) h (fun v_5 => (Q v_5))) ∧ (¬ (x2 = (2 : Int32)) → ((x2 = (3 : Int32) → (Q (hp_i h (a0 + 26 + x1.toNatClampNeg) 2))) ∧ (¬ (x2 = (3 : Int32)) → (Q (hp_i h (a0 + 26 + x1.toNatClampNeg) 3))))))))))
set_option maxRecDepth 100000 in
set_option maxHeartbeats 4000000 in
theorem mt_X2_ofTask {l : Launch} {G : ab_G} {a0 : Nat} {x1 : Int32} {x2 : Int32} {h : hp_T} {Q : Int32 → Prop} (hk0 : ab_k a0 = 2) (hw : wf h) (f : wp_X2_ofTask a0 x1 x2 h Q) : ab_M l G yX2_ofTask cX2_ofTask 4 (some .int) rm_X2_ofTask 0 0 [.ref (G.1 + a0), .int x1, .int x2] h (po_p h Q) := by
  refine ab_intro (own := RX2) (nm := "ofTask") rfl rfl rfl (Nat.le_of_ble_eq_true rfl) (fun F C => ?_)
  show ab_W l G F 4 (ab_MQ G F (po_p h Q) 0 0) 0 0 h [(0, .ref (G.1 + a0)), (1, .int x1), (2, .int x2)] [] 0
  unfold wp_X2_ofTask at f
  refine ab_aload_n C 0 dX2_ofTask_0 rfl rfl ?_
  refine ab_getR C (q := (a0 + 4)) fl_X2_26 rfl hk0 (wf_lt hw hk0 rfl) (wr_2_7 hw hk0) dX2_ofTask_1 ?_
  refine ab_iload_n C 1 dX2_ofTask_4 rfl rfl ?_
  obtain ⟨c_1, f⟩ := f
  refine ab_aaldR C (q := (a0 + 26 + x1.toNatClampNeg)) (kn_2_7 hk0) (Or.inr (Or.inl rfl)) (wf_lt hw (kn_2_7 hk0) rfl) (wf_len hw (kn_2_7 hk0) rfl rfl (by decide)) c_1 (j := x1.toNatClampNeg) rfl (wx_task hw hk0 (vp_in_lt c_1)) dX2_ofTask_5 ?_
  refine ab_astore_n C (lv' := [(3, .ref (G.1 + (a0 + 26 + x1.toNatClampNeg))), (0, .ref (G.1 + a0)), (1, .int x1), (2, .int x2)]) dX2_ofTask_6 rfl (by decide) rfl ?_
  refine ab_iload_n C 3 dX2_ofTask_7 rfl rfl ?_
  by_cases c_2 : x2 = (0 : Int32)
  · have f := f.1 c_2
    refine ab_tabC C (off := 32) (tgt := 40) dX2_ofTask_8 c_2 (by decide) (by decide) (by decide) (by decide) ?_
    refine ab_aload_n C 0 dX2_ofTask_40 rfl rfl ?_
    refine ab_getI C fl_X2_145 rfl (kx_task hk0 (vp_in_lt c_1)) (wf_lt hw (kx_task hk0 (vp_in_lt c_1)) rfl) dX2_ofTask_41 ?_
    exact ab_iret C dX2_ofTask_44 ⟨rfl, _, rfl, f⟩
  have f := f.2 c_2
  by_cases c_3 : x2 = (1 : Int32)
  · have f := f.1 c_3
    refine ab_tabC C (off := 37) (tgt := 45) dX2_ofTask_8 c_3 (by decide) (by decide) (by decide) (by decide) ?_
    refine ab_aload_n C 0 dX2_ofTask_45 rfl rfl ?_
    refine ab_getI C fl_X2_186 rfl (kx_task hk0 (vp_in_lt c_1)) (wf_lt hw (kx_task hk0 (vp_in_lt c_1)) rfl) dX2_ofTask_46 ?_
    exact ab_iret C dX2_ofTask_49 ⟨rfl, _, rfl, f⟩
  have f := f.2 c_3
  by_cases c_4 : x2 = (2 : Int32)
  · have f := f.1 c_4
    refine ab_tabC C (off := 42) (tgt := 50) dX2_ofTask_8 c_4 (by decide) (by decide) (by decide) (by decide) ?_
    refine ab_aload_n C 1 dX2_ofTask_50 rfl rfl ?_
    refine ab_aload_n C 0 dX2_ofTask_51 rfl rfl ?_
    refine ab_getI C fl_X2_145 rfl (kx_task hk0 (vp_in_lt c_1)) (wf_lt hw (kx_task hk0 (vp_in_lt c_1)) rfl) dX2_ofTask_52 ?_
    refine ab_callV C (k := 0) (n := 0) (rest := []) [.int (hp_i h (a0 + 26 + x1.toNatClampNeg) 0)] cl_X2_148 (mt_X2_knowers hk0 hw f) rfl (by decide) hk0 (wf_lt hw hk0 rfl) ⟨rfl, rfl, Nat.le_of_ble_eq_true rfl, Nat.le_of_ble_eq_true rfl, Nat.zero_le _, Nat.zero_le _⟩ rfl rfl (Nat.le_of_ble_eq_true rfl) dX2_ofTask_55 (ab_kp (k := 0) (n := 0) (fun v_5 f => ?_))
    exact ab_iret C dX2_ofTask_58 ⟨rfl, _, rfl, f⟩
  have f := f.2 c_4
  by_cases c_6 : x2 = (3 : Int32)
  · have f := f.1 c_6
    refine ab_tabC C (off := 51) (tgt := 59) dX2_ofTask_8 c_6 (by decide) (by decide) (by decide) (by decide) ?_
    refine ab_aload_n C 0 dX2_ofTask_59 rfl rfl ?_
    refine ab_getI C fl_X2_183 rfl (kx_task hk0 (vp_in_lt c_1)) (wf_lt hw (kx_task hk0 (vp_in_lt c_1)) rfl) dX2_ofTask_60 ?_
    exact ab_iret C dX2_ofTask_63 ⟨rfl, _, rfl, f⟩
  have f := f.2 c_6
  refine ab_tabOut C (tgt := 64) dX2_ofTask_8 (ab_tout (fun j j1 j2 => ?_)) (by decide) ?_
  · have hh : j = 0 ∨ j = 1 ∨ j = 2 ∨ j = 3 := by omega
    rcases hh with rfl | rfl | rfl | rfl
    · exact ab_ne c_2
    · exact ab_ne c_3
    · exact ab_ne c_4
    · exact ab_ne c_6
  · skip
    refine ab_aload_n C 0 dX2_ofTask_64 rfl rfl ?_
    refine ab_getI C fl_X2_196 rfl (kx_task hk0 (vp_in_lt c_1)) (wf_lt hw (kx_task hk0 (vp_in_lt c_1)) rfl) dX2_ofTask_65 ?_
    exact ab_iret C dX2_ofTask_68 ⟨rfl, _, rfl, f⟩
/-! X2_relieve -/
def rm_X2_relieve : Room := { frames := 4, cells := 0, slots := 0, locals := 145 }
def wp_X2_relieve (a0 : Nat) (h : hp_T) (Q : Int32 → hp_T → Prop) : Prop :=
  (((hp_i h a0 1) = 0 → (Q (0 : Int32) h)) ∧ (¬ ((hp_i h a0 1) = 0) → (((hp_i h a0 4) = 0 → (Q (0 : Int32) h)) ∧ (¬ ((hp_i h a0 4) = 0) → (¬ (hp_i h a0 1) = 0) ∧ (vp_in ((hp_i h a0 8) - (hp_i h a0 8) / (hp_i h a0 1) * (hp_i h a0 1)) 6) ∧ wp_X0_stays (a0 + 8 + 3 * ((hp_i h a0 8) - (hp_i h a0 8) / (hp_i h a0 1) * (hp_i h a0 1)).toNatClampNeg) (hp_i h a0 8) h (fun v_5 => ((v_5 = 0 → (vp_in (hp_i h a0 5) 12) ∧ wp_X0_settle (a0 + 8 + 3 * ((hp_i h a0 8) - (hp_i h a0 8) / (hp_i h a0 1) * (hp_i h a0 1)).toNatClampNeg) (hp_i h (a0 + 2) ((hp_i h a0 5).toNatClampNeg)) (hp_i h a0 8) h (fun h_8 => wp_X0_learnAll (a0 + 8 + 3 * ((hp_i h a0 8) - (hp_i h a0 8) / (hp_i h a0 1) * (hp_i h a0 1)).toNatClampNeg) (hp_i h_8 a0 6) (0 : Int32) h_8 (fun h_10 => (vp_in (hp_i h_10 a0 5) 12) ∧ wp_X0_learnAll (a0 + 8 + 3 * ((hp_i h a0 8) - (hp_i h a0 8) / (hp_i h a0 1) * (hp_i h a0 1)).toNatClampNeg) (hp_i h_10 (a0 + 3) ((hp_i h_10 a0 5).toNatClampNeg)) (1 : Int32) h_10 (fun h_13 => (¬ (hp_i h_13 a0 4) = 0) ∧ (∀ h_16, h_16 = hp_si h_13 a0 5 (((hp_i h_13 a0 5) + (1 : Int32)) - ((hp_i h_13 a0 5) + (1 : Int32)) / (hp_i h_13 a0 4) * (hp_i h_13 a0 4)) → (Q (1 : Int32) h_16)))))) ∧ (¬ (v_5 = 0) → (Q (0 : Int32) h))))))))
set_option maxRecDepth 100000 in
set_option maxHeartbeats 4000000 in
theorem mt_X2_relieve {l : Launch} {G : ab_G} {a0 : Nat} {h : hp_T} {Q : Int32 → hp_T → Prop} (hk0 : ab_k a0 = 2) (hw : wf h) (f : wp_X2_relieve a0 h Q) : ab_M l G yX2_relieve cX2_relieve 2 (some .int) rm_X2_relieve 0 0 [.ref (G.1 + a0)] h (po_h Q) := by
  refine ab_intro (own := RX2) (nm := "relieve") rfl rfl rfl (Nat.le_of_ble_eq_true rfl) (fun F C => ?_)
  show ab_W l G F 2 (ab_MQ G F (po_h Q) 0 0) 0 0 h [(0, .ref (G.1 + a0))] [] 0
  unfold wp_X2_relieve at f
  refine ab_aload_n C 0 dX2_relieve_0 rfl rfl ?_
  refine ab_getI C fl_X2_52 rfl hk0 (wf_lt hw hk0 rfl) dX2_relieve_1 ?_
  refine ab_if_eq C (tgt := 14) dX2_relieve_4 (by decide) (fun c_1 => ?_) (fun c_1 => ?_)
  · have f := f.1 c_1
    refine ab_iconst C (v := (0 : Int32)) dX2_relieve_14 (by decide) ?_
    exact ab_iret C dX2_relieve_15 ⟨hw, _, rfl, f⟩
  · have f := f.2 c_1
    refine ab_aload_n C 0 dX2_relieve_7 rfl rfl ?_
    refine ab_getI C fl_X2_55 rfl hk0 (wf_lt hw hk0 rfl) dX2_relieve_8 ?_
    refine ab_if_ne C (tgt := 16) dX2_relieve_11 (by decide) (fun c_2 => ?_) (fun c_2 => ?_)
    · have f := f.2 c_2
      refine ab_aload_n C 0 dX2_relieve_16 rfl rfl ?_
      refine ab_getR C (q := (a0 + 1)) fl_X2_11 rfl hk0 (wf_lt hw hk0 rfl) (wr_2_0 hw hk0) dX2_relieve_17 ?_
      refine ab_aload_n C 0 dX2_relieve_20 rfl rfl ?_
      refine ab_getI C fl_X2_64 rfl hk0 (wf_lt hw hk0 rfl) dX2_relieve_21 ?_
      refine ab_aload_n C 0 dX2_relieve_24 rfl rfl ?_
      refine ab_getI C fl_X2_52 rfl hk0 (wf_lt hw hk0 rfl) dX2_relieve_25 ?_
      obtain ⟨c_3, f⟩ := f
      refine ab_irem C dX2_relieve_28 c_3 ?_
      obtain ⟨c_4, f⟩ := f
      refine ab_aaldR C (q := (a0 + 8 + 3 * ((hp_i h a0 8) - (hp_i h a0 8) / (hp_i h a0 1) * (hp_i h a0 1)).toNatClampNeg)) (kn_2_0 hk0) (Or.inl rfl) (wf_lt hw (kn_2_0 hk0) rfl) (wf_len hw (kn_2_0 hk0) rfl rfl (by decide)) c_4 (j := ((hp_i h a0 8) - (hp_i h a0 8) / (hp_i h a0 1) * (hp_i h a0 1)).toNatClampNeg) rfl (wx_bunk hw hk0 (vp_in_lt c_4)) dX2_relieve_29 ?_
      refine ab_astore_n C (lv' := [(1, .ref (G.1 + (a0 + 8 + 3 * ((hp_i h a0 8) - (hp_i h a0 8) / (hp_i h a0 1) * (hp_i h a0 1)).toNatClampNeg))), (0, .ref (G.1 + a0))]) dX2_relieve_30 rfl (by decide) rfl ?_
      refine ab_aload_n C 0 dX2_relieve_31 rfl rfl ?_
      refine ab_aload_n C 1 dX2_relieve_32 rfl rfl ?_
      refine ab_getI C fl_X2_64 rfl hk0 (wf_lt hw hk0 rfl) dX2_relieve_33 ?_
      refine ab_callV C (k := 0) (n := 0) (rest := []) [.int (hp_i h a0 8)] cl_X2_104 (mt_X0_stays (kx_bunk hk0 (vp_in_lt c_4)) hw f) rfl (by decide) (kx_bunk hk0 (vp_in_lt c_4)) (wf_lt hw (kx_bunk hk0 (vp_in_lt c_4)) rfl) ⟨rfl, rfl, Nat.le_of_ble_eq_true rfl, Nat.le_of_ble_eq_true rfl, Nat.zero_le _, Nat.zero_le _⟩ rfl rfl (Nat.le_of_ble_eq_true rfl) dX2_relieve_36 (ab_kp (k := 0) (n := 0) (fun v_5 f => ?_))
      refine ab_if_eq C (tgt := 44) dX2_relieve_39 (by decide) (fun c_6 => ?_) (fun c_6 => ?_)
      · have f := f.1 c_6
        refine ab_aload_n C 0 dX2_relieve_44 rfl rfl ?_
        refine ab_aload_n C 1 dX2_relieve_45 rfl rfl ?_
        refine ab_getR C (q := (a0 + 2)) fl_X2_17 rfl hk0 (wf_lt hw hk0 rfl) (wr_2_2 hw hk0) dX2_relieve_46 ?_
        refine ab_aload_n C 1 dX2_relieve_49 rfl rfl ?_
        refine ab_getI C fl_X2_58 rfl hk0 (wf_lt hw hk0 rfl) dX2_relieve_50 ?_
        obtain ⟨c_7, f⟩ := f
        refine ab_iald C (by rw [(kn_2_2 hk0)]; decide) (wf_lt hw (kn_2_2 hk0) rfl) (wf_len hw (kn_2_2 hk0) rfl rfl (by decide)) c_7 (j := (hp_i h a0 5).toNatClampNeg) rfl dX2_relieve_53 ?_
        refine ab_aload_n C 1 dX2_relieve_54 rfl rfl ?_
        refine ab_getI C fl_X2_64 rfl hk0 (wf_lt hw hk0 rfl) dX2_relieve_55 ?_
        refine ab_callV C (k := 0) (n := 0) (rest := []) [.int (hp_i h (a0 + 2) ((hp_i h a0 5).toNatClampNeg)), .int (hp_i h a0 8)] cl_X2_86 (mt_X0_settle (kx_bunk hk0 (vp_in_lt c_4)) hw f) rfl (by decide) (kx_bunk hk0 (vp_in_lt c_4)) (wf_lt hw (kx_bunk hk0 (vp_in_lt c_4)) rfl) ⟨rfl, rfl, Nat.le_of_ble_eq_true rfl, Nat.le_of_ble_eq_true rfl, Nat.zero_le _, Nat.zero_le _⟩ rfl rfl (Nat.le_of_ble_eq_true rfl) dX2_relieve_58 (ab_kv (k := 0) (n := 0) (fun h_8 hw_9 f => ?_))
        refine ab_aload_n C 0 dX2_relieve_61 rfl rfl ?_
        refine ab_aload_n C 1 dX2_relieve_62 rfl rfl ?_
        refine ab_getI C fl_X2_61 rfl hk0 (wf_lt hw_9 hk0 rfl) dX2_relieve_63 ?_
        refine ab_iconst C (v := (0 : Int32)) dX2_relieve_66 (by decide) ?_
        refine ab_callV C (k := 0) (n := 0) (rest := []) [.int (hp_i h_8 a0 6), .int (0 : Int32)] cl_X2_108 (mt_X0_learnAll (kx_bunk hk0 (vp_in_lt c_4)) hw_9 f) rfl (by decide) (kx_bunk hk0 (vp_in_lt c_4)) (wf_lt hw_9 (kx_bunk hk0 (vp_in_lt c_4)) rfl) ⟨rfl, rfl, Nat.le_of_ble_eq_true rfl, Nat.le_of_ble_eq_true rfl, Nat.zero_le _, Nat.zero_le _⟩ rfl rfl (Nat.le_of_ble_eq_true rfl) dX2_relieve_67 (ab_kv (k := 0) (n := 0) (fun h_10 hw_11 f => ?_))
        refine ab_aload_n C 0 dX2_relieve_70 rfl rfl ?_
        refine ab_aload_n C 1 dX2_relieve_71 rfl rfl ?_
        refine ab_getR C (q := (a0 + 3)) fl_X2_21 rfl hk0 (wf_lt hw_11 hk0 rfl) (wr_2_3 hw_11 hk0) dX2_relieve_72 ?_
        refine ab_aload_n C 1 dX2_relieve_75 rfl rfl ?_
        refine ab_getI C fl_X2_58 rfl hk0 (wf_lt hw_11 hk0 rfl) dX2_relieve_76 ?_
        obtain ⟨c_12, f⟩ := f
        refine ab_iald C (by rw [(kn_2_3 hk0)]; decide) (wf_lt hw_11 (kn_2_3 hk0) rfl) (wf_len hw_11 (kn_2_3 hk0) rfl rfl (by decide)) c_12 (j := (hp_i h_10 a0 5).toNatClampNeg) rfl dX2_relieve_79 ?_
        refine ab_iconst C (v := (1 : Int32)) dX2_relieve_80 (by decide) ?_
        refine ab_callV C (k := 0) (n := 0) (rest := []) [.int (hp_i h_10 (a0 + 3) ((hp_i h_10 a0 5).toNatClampNeg)), .int (1 : Int32)] cl_X2_108 (mt_X0_learnAll (kx_bunk hk0 (vp_in_lt c_4)) hw_11 f) rfl (by decide) (kx_bunk hk0 (vp_in_lt c_4)) (wf_lt hw_11 (kx_bunk hk0 (vp_in_lt c_4)) rfl) ⟨rfl, rfl, Nat.le_of_ble_eq_true rfl, Nat.le_of_ble_eq_true rfl, Nat.zero_le _, Nat.zero_le _⟩ rfl rfl (Nat.le_of_ble_eq_true rfl) dX2_relieve_81 (ab_kv (k := 0) (n := 0) (fun h_13 hw_14 f => ?_))
        refine ab_aload_n C 1 dX2_relieve_84 rfl rfl ?_
        refine ab_aload_n C 1 dX2_relieve_85 rfl rfl ?_
        refine ab_getI C fl_X2_58 rfl hk0 (wf_lt hw_14 hk0 rfl) dX2_relieve_86 ?_
        refine ab_iconst C (v := (1 : Int32)) dX2_relieve_89 (by decide) ?_
        refine ab_iadd C dX2_relieve_90 ?_
        refine ab_aload_n C 1 dX2_relieve_91 rfl rfl ?_
        refine ab_getI C fl_X2_55 rfl hk0 (wf_lt hw_14 hk0 rfl) dX2_relieve_92 ?_
        obtain ⟨c_15, f⟩ := f
        refine ab_irem C dX2_relieve_95 c_15 ?_
        refine ab_putI C fl_X2_58 rfl hk0 (wf_lt hw_14 hk0 rfl) rfl rfl dX2_relieve_96 (fun h_16 e_17 => ?_)
        have f := f h_16 e_17
        have hw_18 := wf_si e_17 hw_14
        refine ab_iconst C (v := (1 : Int32)) dX2_relieve_99 (by decide) ?_
        exact ab_iret C dX2_relieve_100 ⟨hw_18, _, rfl, f⟩
      · have f := f.2 c_6
        refine ab_iconst C (v := (0 : Int32)) dX2_relieve_42 (by decide) ?_
        exact ab_iret C dX2_relieve_43 ⟨hw, _, rfl, f⟩
    · have f := f.1 c_2
      refine ab_iconst C (v := (0 : Int32)) dX2_relieve_14 (by decide) ?_
      exact ab_iret C dX2_relieve_15 ⟨hw, _, rfl, f⟩
/-! X2_teach -/
def rm_X2_teach : Room := { frames := 5, cells := 0, slots := 0, locals := 173 }
def wp_X2_teach (a0 : Nat) (a1 : Nat) (a2 : Nat) (x3 : Int32) (h : hp_T) (Q : Int32 → hp_T → Prop) : Prop :=
  wp_X0_knows a1 (hp_i h a1 4) h (fun v_1 => ((v_1 = 0 → (Q (0 : Int32) h)) ∧ (¬ (v_1 = 0) → wp_X0_isOf a1 (2 : Int32) h (fun v_3 => ((v_3 = 0 → wp_X0_knows a2 (hp_i h a1 4) h (fun v_5 => ((v_5 = 0 → (vp_in (hp_i h a1 4) 6) ∧ (vp_in (hp_i h a1 4) 6) ∧ (∀ h_9, h_9 = hp_si h (a2 + 2) ((hp_i h a1 4).toNatClampNeg) (if ((hp_i h (a2 + 2) ((hp_i h a1 4).toNatClampNeg)) + (1 : Int32)) < (99 : Int32) then ((hp_i h (a2 + 2) ((hp_i h a1 4).toNatClampNeg)) + (1 : Int32)) else (99 : Int32)) → (vp_in (hp_i h a1 4) 6) ∧ wp_X2_needs a0 a2 (hp_i h a1 4) h_9 (fun v_13 h_14 => ((v_13 ≤ (hp_i h_9 (a2 + 2) ((hp_i h a1 4).toNatClampNeg)) → ((x3 = 0 → wp_X0_tellsOf a1 (hp_i h a1 4) h_14 (fun v_18 => wp_X0_learn a2 (hp_i h a1 4) (if (v_18 + (0 : Int32)) < (999 : Int32) then (v_18 + (0 : Int32)) else (999 : Int32)) h_14 (fun h_19 => (Q (0 : Int32) h_19)))) ∧ (¬ (x3 = 0) → wp_X2_draw a0 h_14 (fun v_21 h_22 => (((hp_i h_22 a0 9) ≤ (v_21 - v_21 / (16 : Int32) * (16 : Int32)) → wp_X0_tellsOf a1 (hp_i h a1 4) h_22 (fun v_25 => wp_X0_learn a2 (hp_i h a1 4) (if (v_25 + (0 : Int32)) < (999 : Int32) then (v_25 + (0 : Int32)) else (999 : Int32)) h_22 (fun h_26 => (Q (0 : Int32) h_26)))) ∧ (¬ ((hp_i h_22 a0 9) ≤ (v_21 - v_21 / (16 : Int32) * (16 : Int32))) → wp_X0_tellsOf a1 (hp_i h a1 4) h_22 (fun v_28 => wp_X0_learn a2 (hp_i h a1 4) (if (v_28 + (1 : Int32)) < (999 : Int32) then (v_28 + (1 : Int32)) else (999 : Int32)) h_22 (fun h_29 => (Q (1 : Int32) h_29))))))))) ∧ (¬ (v_13 ≤ (hp_i h_9 (a2 + 2) ((hp_i h a1 4).toNatClampNeg))) → (Q (0 : Int32) h_14)))))) ∧ (¬ (v_5 = 0) → (Q (0 : Int32) h))))) ∧ (¬ (v_3 = 0) → (Q (0 : Int32) h)))))))
set_option maxRecDepth 100000 in
set_option maxHeartbeats 4000000 in
theorem mt_X2_teach {l : Launch} {G : ab_G} {a0 : Nat} {a1 : Nat} {a2 : Nat} {x3 : Int32} {h : hp_T} {Q : Int32 → hp_T → Prop} (hk0 : ab_k a0 = 2) (hk1 : ab_k a1 = 0) (hk2 : ab_k a2 = 0) (hw : wf h) (f : wp_X2_teach a0 a1 a2 x3 h Q) : ab_M l G yX2_teach cX2_teach 6 (some .int) rm_X2_teach 0 0 [.ref (G.1 + a0), .ref (G.1 + a1), .ref (G.1 + a2), .int x3] h (po_h Q) := by
  refine ab_intro (own := RX2) (nm := "teach") rfl rfl rfl (Nat.le_of_ble_eq_true rfl) (fun F C => ?_)
  show ab_W l G F 6 (ab_MQ G F (po_h Q) 0 0) 0 0 h [(0, .ref (G.1 + a0)), (1, .ref (G.1 + a1)), (2, .ref (G.1 + a2)), (3, .int x3)] [] 0
  unfold wp_X2_teach at f
  refine ab_aload_n C 1 dX2_teach_0 rfl rfl ?_
  refine ab_getI C fl_X2_90 rfl hk1 (wf_lt hw hk1 rfl) dX2_teach_1 ?_
  refine ab_istore C (lv' := [(4, .int (hp_i h a1 4)), (0, .ref (G.1 + a0)), (1, .ref (G.1 + a1)), (2, .ref (G.1 + a2)), (3, .int x3)]) dX2_teach_4 (by decide) rfl ?_
  refine ab_aload_n C 2 dX2_teach_6 rfl rfl ?_
  refine ab_iload C 0 dX2_teach_7 rfl ?_
  refine ab_callV C (k := 0) (n := 0) (rest := []) [.int (hp_i h a1 4)] cl_X2_115 (mt_X0_knows hk1 hw f) rfl (by decide) hk1 (wf_lt hw hk1 rfl) ⟨rfl, rfl, Nat.le_of_ble_eq_true rfl, Nat.le_of_ble_eq_true rfl, Nat.zero_le _, Nat.zero_le _⟩ rfl rfl (Nat.le_of_ble_eq_true rfl) dX2_teach_9 (ab_kp (k := 0) (n := 0) (fun v_1 f => ?_))
  refine ab_if_eq C (tgt := 32) dX2_teach_12 (by decide) (fun c_2 => ?_) (fun c_2 => ?_)
  · have f := f.1 c_2
    refine ab_iconst C (v := (0 : Int32)) dX2_teach_32 (by decide) ?_
    exact ab_iret C dX2_teach_33 ⟨hw, _, rfl, f⟩
  · have f := f.2 c_2
    refine ab_aload_n C 2 dX2_teach_15 rfl rfl ?_
    refine ab_iconst C (v := (2 : Int32)) dX2_teach_16 (by decide) ?_
    refine ab_callV C (k := 0) (n := 0) (rest := []) [.int (2 : Int32)] cl_X2_118 (mt_X0_isOf hk1 hw f) rfl (by decide) hk1 (wf_lt hw hk1 rfl) ⟨rfl, rfl, Nat.le_of_ble_eq_true rfl, Nat.le_of_ble_eq_true rfl, Nat.zero_le _, Nat.zero_le _⟩ rfl rfl (Nat.le_of_ble_eq_true rfl) dX2_teach_17 (ab_kp (k := 0) (n := 0) (fun v_3 f => ?_))
    refine ab_if_ne C (tgt := 32) dX2_teach_20 (by decide) (fun c_4 => ?_) (fun c_4 => ?_)
    · have f := f.2 c_4
      refine ab_iconst C (v := (0 : Int32)) dX2_teach_32 (by decide) ?_
      exact ab_iret C dX2_teach_33 ⟨hw, _, rfl, f⟩
    · have f := f.1 c_4
      refine ab_aload_n C 3 dX2_teach_23 rfl rfl ?_
      refine ab_iload C 0 dX2_teach_24 rfl ?_
      refine ab_callV C (k := 0) (n := 0) (rest := []) [.int (hp_i h a1 4)] cl_X2_115 (mt_X0_knows hk2 hw f) rfl (by decide) hk2 (wf_lt hw hk2 rfl) ⟨rfl, rfl, Nat.le_of_ble_eq_true rfl, Nat.le_of_ble_eq_true rfl, Nat.zero_le _, Nat.zero_le _⟩ rfl rfl (Nat.le_of_ble_eq_true rfl) dX2_teach_26 (ab_kp (k := 0) (n := 0) (fun v_5 f => ?_))
      refine ab_if_eq C (tgt := 34) dX2_teach_29 (by decide) (fun c_6 => ?_) (fun c_6 => ?_)
      · have f := f.1 c_6
        refine ab_aload_n C 3 dX2_teach_34 rfl rfl ?_
        refine ab_getR C (q := (a2 + 2)) fl_X2_121 rfl hk2 (wf_lt hw hk2 rfl) (wr_0_6 hw hk2) dX2_teach_35 ?_
        refine ab_iload C 0 dX2_teach_38 rfl ?_
        refine ab_bipush C (v := (99 : Int32)) dX2_teach_40 (by decide) ?_
        refine ab_aload_n C 3 dX2_teach_42 rfl rfl ?_
        refine ab_getR C (q := (a2 + 2)) fl_X2_121 rfl hk2 (wf_lt hw hk2 rfl) (wr_0_6 hw hk2) dX2_teach_43 ?_
        refine ab_iload C 0 dX2_teach_46 rfl ?_
        obtain ⟨c_7, f⟩ := f
        refine ab_iald C (by rw [(kn_0_6 hk2)]; decide) (wf_lt hw (kn_0_6 hk2) rfl) (wf_len hw (kn_0_6 hk2) rfl rfl (by decide)) c_7 (j := (hp_i h a1 4).toNatClampNeg) rfl dX2_teach_48 ?_
        refine ab_iconst C (v := (1 : Int32)) dX2_teach_49 (by decide) ?_
        refine ab_iadd C dX2_teach_50 ?_
        refine ab_mmin C cm_X2_124 (by decide) (by decide) (by decide) (by decide) (Nat.le_of_ble_eq_true rfl) dX2_teach_51 ?_
        obtain ⟨c_8, f⟩ := f
        refine ab_iast C (by rw [(kn_0_6 hk2)]; decide) (wf_lt hw (kn_0_6 hk2) rfl) (wf_len hw (kn_0_6 hk2) rfl rfl (by decide)) c_8 (j := (hp_i h a1 4).toNatClampNeg) rfl dX2_teach_54 (fun h_9 e_10 => ?_)
        have f := f h_9 e_10
        have hw_11 := wf_si e_10 hw
        refine ab_aload_n C 3 dX2_teach_55 rfl rfl ?_
        refine ab_getR C (q := (a2 + 2)) fl_X2_121 rfl hk2 (wf_lt hw_11 hk2 rfl) (wr_0_6 hw_11 hk2) dX2_teach_56 ?_
        refine ab_iload C 0 dX2_teach_59 rfl ?_
        obtain ⟨c_12, f⟩ := f
        refine ab_iald C (by rw [(kn_0_6 hk2)]; decide) (wf_lt hw_11 (kn_0_6 hk2) rfl) (wf_len hw_11 (kn_0_6 hk2) rfl rfl (by decide)) c_12 (j := (hp_i h a1 4).toNatClampNeg) rfl dX2_teach_61 ?_
        refine ab_aload_n C 1 dX2_teach_62 rfl rfl ?_
        refine ab_aload_n C 3 dX2_teach_63 rfl rfl ?_
        refine ab_iload C 0 dX2_teach_64 rfl ?_
        refine ab_callV C (k := 0) (n := 0) (rest := [.int (hp_i h_9 (a2 + 2) ((hp_i h a1 4).toNatClampNeg))]) [.ref (G.1 + a2), .int (hp_i h a1 4)] cl_X2_130 (mt_X2_needs hk0 hk2 hw_11 f) rfl (by decide) hk0 (wf_lt hw_11 hk0 rfl) ⟨rfl, rfl, Nat.le_of_ble_eq_true rfl, Nat.le_of_ble_eq_true rfl, Nat.zero_le _, Nat.zero_le _⟩ rfl rfl (Nat.le_of_ble_eq_true rfl) dX2_teach_66 (ab_kh (k := 0) (n := 0) (fun v_13 h_14 hw_15 f => ?_))
        refine ab_icmp_ge C (tgt := 74) dX2_teach_69 (by decide) (fun c_16 => ?_) (fun c_16 => ?_)
        · have f := f.1 c_16
          refine ab_iload_n C 4 dX2_teach_74 rfl rfl ?_
          refine ab_if_eq C (tgt := 96) dX2_teach_75 (by decide) (fun c_17 => ?_) (fun c_17 => ?_)
          · have f := f.1 c_17
            refine ab_iconst C (v := (0 : Int32)) dX2_teach_96 (by decide) ?_
            refine ab_istore C (lv' := [(5, .int (0 : Int32)), (4, .int (hp_i h a1 4)), (0, .ref (G.1 + a0)), (1, .ref (G.1 + a1)), (2, .ref (G.1 + a2)), (3, .int x3)]) dX2_teach_97 (by decide) rfl ?_
            refine ab_aload_n C 4 dX2_teach_99 rfl rfl ?_
            refine ab_iload C 1 dX2_teach_100 rfl ?_
            refine ab_sipush C (v := (999 : Int32)) dX2_teach_102 (by decide) ?_
            refine ab_aload_n C 3 dX2_teach_105 rfl rfl ?_
            refine ab_iload C 1 dX2_teach_106 rfl ?_
            refine ab_callV C (k := 0) (n := 0) (rest := [.int (999 : Int32), .int (hp_i h a1 4), .ref (G.1 + a2)]) [.int (hp_i h a1 4)] cl_X2_137 (mt_X0_tellsOf hk1 hw_15 f) rfl (by decide) hk1 (wf_lt hw_15 hk1 rfl) ⟨rfl, rfl, Nat.le_of_ble_eq_true rfl, Nat.le_of_ble_eq_true rfl, Nat.zero_le _, Nat.zero_le _⟩ rfl rfl (Nat.le_of_ble_eq_true rfl) dX2_teach_108 (ab_kp (k := 0) (n := 0) (fun v_18 f => ?_))
            refine ab_iload C 0 dX2_teach_111 rfl ?_
            refine ab_iadd C dX2_teach_113 ?_
            refine ab_mmin C cm_X2_124 (by decide) (by decide) (by decide) (by decide) (Nat.le_of_ble_eq_true rfl) dX2_teach_114 ?_
            refine ab_callV C (k := 0) (n := 0) (rest := []) [.int (hp_i h a1 4), .int (if (v_18 + (0 : Int32)) < (999 : Int32) then (v_18 + (0 : Int32)) else (999 : Int32))] cl_X2_141 (mt_X0_learn hk2 hw_15 f) rfl (by decide) hk2 (wf_lt hw_15 hk2 rfl) ⟨rfl, rfl, Nat.le_of_ble_eq_true rfl, Nat.le_of_ble_eq_true rfl, Nat.zero_le _, Nat.zero_le _⟩ rfl rfl (Nat.le_of_ble_eq_true rfl) dX2_teach_117 (ab_kv (k := 0) (n := 0) (fun h_19 hw_20 f => ?_))
            refine ab_iload C 0 dX2_teach_120 rfl ?_
            exact ab_iret C dX2_teach_122 ⟨hw_20, _, rfl, f⟩
          · have f := f.2 c_17
            refine ab_aload_n C 1 dX2_teach_78 rfl rfl ?_
            refine ab_callV C (k := 0) (n := 0) (rest := []) [] cl_X2_134 (mt_X2_draw hk0 hw_15 f) rfl (by decide) hk0 (wf_lt hw_15 hk0 rfl) ⟨rfl, rfl, Nat.le_of_ble_eq_true rfl, Nat.le_of_ble_eq_true rfl, Nat.zero_le _, Nat.zero_le _⟩ rfl rfl (Nat.le_of_ble_eq_true rfl) dX2_teach_79 (ab_kh (k := 0) (n := 0) (fun v_21 h_22 hw_23 f => ?_))
            refine ab_bipush C (v := (16 : Int32)) dX2_teach_82 (by decide) ?_
            refine ab_irem C dX2_teach_84 (by decide) ?_
            refine ab_aload_n C 1 dX2_teach_85 rfl rfl ?_
            refine ab_getI C fl_X2_30 rfl hk0 (wf_lt hw_23 hk0 rfl) dX2_teach_86 ?_
            refine ab_icmp_ge C (tgt := 96) dX2_teach_89 (by decide) (fun c_24 => ?_) (fun c_24 => ?_)
            · have f := f.1 c_24
              refine ab_iconst C (v := (0 : Int32)) dX2_teach_96 (by decide) ?_
              refine ab_istore C (lv' := [(5, .int (0 : Int32)), (4, .int (hp_i h a1 4)), (0, .ref (G.1 + a0)), (1, .ref (G.1 + a1)), (2, .ref (G.1 + a2)), (3, .int x3)]) dX2_teach_97 (by decide) rfl ?_
              refine ab_aload_n C 4 dX2_teach_99 rfl rfl ?_
              refine ab_iload C 1 dX2_teach_100 rfl ?_
              refine ab_sipush C (v := (999 : Int32)) dX2_teach_102 (by decide) ?_
              refine ab_aload_n C 3 dX2_teach_105 rfl rfl ?_
              refine ab_iload C 1 dX2_teach_106 rfl ?_
              refine ab_callV C (k := 0) (n := 0) (rest := [.int (999 : Int32), .int (hp_i h a1 4), .ref (G.1 + a2)]) [.int (hp_i h a1 4)] cl_X2_137 (mt_X0_tellsOf hk1 hw_23 f) rfl (by decide) hk1 (wf_lt hw_23 hk1 rfl) ⟨rfl, rfl, Nat.le_of_ble_eq_true rfl, Nat.le_of_ble_eq_true rfl, Nat.zero_le _, Nat.zero_le _⟩ rfl rfl (Nat.le_of_ble_eq_true rfl) dX2_teach_108 (ab_kp (k := 0) (n := 0) (fun v_25 f => ?_))
              refine ab_iload C 0 dX2_teach_111 rfl ?_
              refine ab_iadd C dX2_teach_113 ?_
              refine ab_mmin C cm_X2_124 (by decide) (by decide) (by decide) (by decide) (Nat.le_of_ble_eq_true rfl) dX2_teach_114 ?_
              refine ab_callV C (k := 0) (n := 0) (rest := []) [.int (hp_i h a1 4), .int (if (v_25 + (0 : Int32)) < (999 : Int32) then (v_25 + (0 : Int32)) else (999 : Int32))] cl_X2_141 (mt_X0_learn hk2 hw_23 f) rfl (by decide) hk2 (wf_lt hw_23 hk2 rfl) ⟨rfl, rfl, Nat.le_of_ble_eq_true rfl, Nat.le_of_ble_eq_true rfl, Nat.zero_le _, Nat.zero_le _⟩ rfl rfl (Nat.le_of_ble_eq_true rfl) dX2_teach_117 (ab_kv (k := 0) (n := 0) (fun h_26 hw_27 f => ?_))
              refine ab_iload C 0 dX2_teach_120 rfl ?_
              exact ab_iret C dX2_teach_122 ⟨hw_27, _, rfl, f⟩
            · have f := f.2 c_24
              refine ab_iconst C (v := (1 : Int32)) dX2_teach_92 (by decide) ?_
              refine ab_goto C (tgt := 97) dX2_teach_93 (by decide) ?_
              refine ab_istore C (lv' := [(5, .int (1 : Int32)), (4, .int (hp_i h a1 4)), (0, .ref (G.1 + a0)), (1, .ref (G.1 + a1)), (2, .ref (G.1 + a2)), (3, .int x3)]) dX2_teach_97 (by decide) rfl ?_
              refine ab_aload_n C 4 dX2_teach_99 rfl rfl ?_
              refine ab_iload C 1 dX2_teach_100 rfl ?_
              refine ab_sipush C (v := (999 : Int32)) dX2_teach_102 (by decide) ?_
              refine ab_aload_n C 3 dX2_teach_105 rfl rfl ?_
              refine ab_iload C 1 dX2_teach_106 rfl ?_
              refine ab_callV C (k := 0) (n := 0) (rest := [.int (999 : Int32), .int (hp_i h a1 4), .ref (G.1 + a2)]) [.int (hp_i h a1 4)] cl_X2_137 (mt_X0_tellsOf hk1 hw_23 f) rfl (by decide) hk1 (wf_lt hw_23 hk1 rfl) ⟨rfl, rfl, Nat.le_of_ble_eq_true rfl, Nat.le_of_ble_eq_true rfl, Nat.zero_le _, Nat.zero_le _⟩ rfl rfl (Nat.le_of_ble_eq_true rfl) dX2_teach_108 (ab_kp (k := 0) (n := 0) (fun v_28 f => ?_))
              refine ab_iload C 0 dX2_teach_111 rfl ?_
              refine ab_iadd C dX2_teach_113 ?_
              refine ab_mmin C cm_X2_124 (by decide) (by decide) (by decide) (by decide) (Nat.le_of_ble_eq_true rfl) dX2_teach_114 ?_
              refine ab_callV C (k := 0) (n := 0) (rest := []) [.int (hp_i h a1 4), .int (if (v_28 + (1 : Int32)) < (999 : Int32) then (v_28 + (1 : Int32)) else (999 : Int32))] cl_X2_141 (mt_X0_learn hk2 hw_23 f) rfl (by decide) hk2 (wf_lt hw_23 hk2 rfl) ⟨rfl, rfl, Nat.le_of_ble_eq_true rfl, Nat.le_of_ble_eq_true rfl, Nat.zero_le _, Nat.zero_le _⟩ rfl rfl (Nat.le_of_ble_eq_true rfl) dX2_teach_117 (ab_kv (k := 0) (n := 0) (fun h_29 hw_30 f => ?_))
              refine ab_iload C 0 dX2_teach_120 rfl ?_
              exact ab_iret C dX2_teach_122 ⟨hw_30, _, rfl, f⟩
        · have f := f.2 c_16
          refine ab_iconst C (v := (0 : Int32)) dX2_teach_72 (by decide) ?_
          exact ab_iret C dX2_teach_73 ⟨hw_15, _, rfl, f⟩
      · have f := f.2 c_6
        refine ab_iconst C (v := (0 : Int32)) dX2_teach_32 (by decide) ?_
        exact ab_iret C dX2_teach_33 ⟨hw, _, rfl, f⟩
/-! X2_teachAll -/
def rm_X2_teachAll : Room := { frames := 6, cells := 0, slots := 0, locals := 198 }
def wp_X2_teachAll_L4 (a0 : Nat) (x1 : Int32) (Q : Int32 → hp_T → Prop) : Nat → Int32 → Int32 → hp_T → Prop
  | 0 => fun _ _ _ => False
  | nn + 1 => fun y2 y3 h => (((hp_i h a0 1) ≤ y3 → (Q y2 h)) ∧ (¬ ((hp_i h a0 1) ≤ y3) → (((hp_i h a0 1) ≤ (1 : Int32) → (Q y2 h)) ∧ (¬ ((hp_i h a0 1) ≤ (1 : Int32)) → (vp_in y3 6) ∧ (¬ (hp_i h a0 1) = 0) ∧ (vp_in ((y3 + (1 : Int32)) - (y3 + (1 : Int32)) / (hp_i h a0 1) * (hp_i h a0 1)) 6) ∧ wp_X2_teach a0 (a0 + 8 + 3 * y3.toNatClampNeg) (a0 + 8 + 3 * ((y3 + (1 : Int32)) - (y3 + (1 : Int32)) / (hp_i h a0 1) * (hp_i h a0 1)).toNatClampNeg) x1 h (fun v_6 h_7 => (wp_X2_teachAll_L4 a0 x1 Q nn) (y2 + v_6) (y3 + (1 : Int32)) h_7)))))
set_option maxRecDepth 100000 in
set_option maxHeartbeats 4000000 in
theorem bt_X2_teachAll_L4 {l : Launch} {G : ab_G} {F : ab_F} {a0 : Nat} {x1 : Int32} {Q : Int32 → hp_T → Prop}  (C : ab_C G F rm_X2_teachAll cX2_teachAll 4 RX2 (some .int) "teachAll") (hk0 : ab_k a0 = 2)  : ∀ (nn : Nat) (y2 : Int32) (y3 : Int32) (h : hp_T), wf h → wp_X2_teachAll_L4 a0 x1 Q nn y2 y3 h → ab_W l G F 4 (ab_MQ G F (po_h Q) 0 0) 0 0 h [(0, .ref (G.1 + a0)), (1, .int x1), (2, .int y2), (3, .int y3)] [] 4 := by
  intro nn
  induction nn with
  | zero =>
    intro y2 y3 h hw f
    exact absurd f id
  | succ nn ih =>
    intro y2 y3 h hw f
    unfold wp_X2_teachAll_L4 at f
    refine ab_iload_n C 3 dX2_teachAll_4 rfl rfl ?_
    refine ab_aload_n C 0 dX2_teachAll_5 rfl rfl ?_
    refine ab_getI C fl_X2_52 rfl hk0 (wf_lt hw hk0 rfl) dX2_teachAll_6 ?_
    refine ab_icmp_ge C (tgt := 53) dX2_teachAll_9 (by decide) (fun c_1 => ?_) (fun c_1 => ?_)
    · have f := f.1 c_1
      refine ab_iload_n C 2 dX2_teachAll_53 rfl rfl ?_
      exact ab_iret C dX2_teachAll_54 ⟨hw, _, rfl, f⟩
    · have f := f.2 c_1
      refine ab_aload_n C 0 dX2_teachAll_12 rfl rfl ?_
      refine ab_getI C fl_X2_52 rfl hk0 (wf_lt hw hk0 rfl) dX2_teachAll_13 ?_
      refine ab_iconst C (v := (1 : Int32)) dX2_teachAll_16 (by decide) ?_
      refine ab_icmp_le C (tgt := 53) dX2_teachAll_17 (by decide) (fun c_2 => ?_) (fun c_2 => ?_)
      · have f := f.1 c_2
        refine ab_iload_n C 2 dX2_teachAll_53 rfl rfl ?_
        exact ab_iret C dX2_teachAll_54 ⟨hw, _, rfl, f⟩
      · have f := f.2 c_2
        refine ab_iload_n C 2 dX2_teachAll_20 rfl rfl ?_
        refine ab_aload_n C 0 dX2_teachAll_21 rfl rfl ?_
        refine ab_aload_n C 0 dX2_teachAll_22 rfl rfl ?_
        refine ab_getR C (q := (a0 + 1)) fl_X2_11 rfl hk0 (wf_lt hw hk0 rfl) (wr_2_0 hw hk0) dX2_teachAll_23 ?_
        refine ab_iload_n C 3 dX2_teachAll_26 rfl rfl ?_
        obtain ⟨c_3, f⟩ := f
        refine ab_aaldR C (q := (a0 + 8 + 3 * y3.toNatClampNeg)) (kn_2_0 hk0) (Or.inl rfl) (wf_lt hw (kn_2_0 hk0) rfl) (wf_len hw (kn_2_0 hk0) rfl rfl (by decide)) c_3 (j := y3.toNatClampNeg) rfl (wx_bunk hw hk0 (vp_in_lt c_3)) dX2_teachAll_27 ?_
        refine ab_aload_n C 0 dX2_teachAll_28 rfl rfl ?_
        refine ab_getR C (q := (a0 + 1)) fl_X2_11 rfl hk0 (wf_lt hw hk0 rfl) (wr_2_0 hw hk0) dX2_teachAll_29 ?_
        refine ab_iload_n C 3 dX2_teachAll_32 rfl rfl ?_
        refine ab_iconst C (v := (1 : Int32)) dX2_teachAll_33 (by decide) ?_
        refine ab_iadd C dX2_teachAll_34 ?_
        refine ab_aload_n C 0 dX2_teachAll_35 rfl rfl ?_
        refine ab_getI C fl_X2_52 rfl hk0 (wf_lt hw hk0 rfl) dX2_teachAll_36 ?_
        obtain ⟨c_4, f⟩ := f
        refine ab_irem C dX2_teachAll_39 c_4 ?_
        obtain ⟨c_5, f⟩ := f
        refine ab_aaldR C (q := (a0 + 8 + 3 * ((y3 + (1 : Int32)) - (y3 + (1 : Int32)) / (hp_i h a0 1) * (hp_i h a0 1)).toNatClampNeg)) (kn_2_0 hk0) (Or.inl rfl) (wf_lt hw (kn_2_0 hk0) rfl) (wf_len hw (kn_2_0 hk0) rfl rfl (by decide)) c_5 (j := ((y3 + (1 : Int32)) - (y3 + (1 : Int32)) / (hp_i h a0 1) * (hp_i h a0 1)).toNatClampNeg) rfl (wx_bunk hw hk0 (vp_in_lt c_5)) dX2_teachAll_40 ?_
        refine ab_iload_n C 1 dX2_teachAll_41 rfl rfl ?_
        refine ab_callV C (k := 0) (n := 0) (rest := [.int y2]) [.ref (G.1 + (a0 + 8 + 3 * y3.toNatClampNeg)), .ref (G.1 + (a0 + 8 + 3 * ((y3 + (1 : Int32)) - (y3 + (1 : Int32)) / (hp_i h a0 1) * (hp_i h a0 1)).toNatClampNeg)), .int x1] cl_X2_111 (mt_X2_teach hk0 (kx_bunk hk0 (vp_in_lt c_3)) (kx_bunk hk0 (vp_in_lt c_5)) hw f) rfl (by decide) hk0 (wf_lt hw hk0 rfl) ⟨rfl, rfl, Nat.le_of_ble_eq_true rfl, Nat.le_of_ble_eq_true rfl, Nat.zero_le _, Nat.zero_le _⟩ rfl rfl (Nat.le_of_ble_eq_true rfl) dX2_teachAll_42 (ab_kh (k := 0) (n := 0) (fun v_6 h_7 hw_8 f => ?_))
        refine ab_iadd C dX2_teachAll_45 ?_
        refine ab_istore_n C (lv' := [(2, .int (y2 + v_6)), (0, .ref (G.1 + a0)), (1, .int x1), (3, .int y3)]) dX2_teachAll_46 rfl (by decide) rfl ?_
        refine ab_iinc C (lv' := [(3, .int (y3 + (1 : Int32))), (2, .int (y2 + v_6)), (0, .ref (G.1 + a0)), (1, .int x1)]) 3 (v := (y3 + (1 : Int32))) dX2_teachAll_47 rfl rfl (by decide) rfl ?_
        refine ab_goto C (tgt := 4) dX2_teachAll_50 (by decide) ?_
        refine ab_sub (lv' := [(0, .ref (G.1 + a0)), (1, .int x1), (2, .int (y2 + v_6)), (3, .int (y3 + (1 : Int32)))]) [2, 3, 1, 0] rfl ?_
        exact ih (y2 + v_6) (y3 + (1 : Int32)) h_7  hw_8 f
def wp_X2_teachAll (a0 : Nat) (x1 : Int32) (h : hp_T) (Q : Int32 → hp_T → Prop) : Prop :=
  (∃ n0, wp_X2_teachAll_L4 a0 x1 Q  n0 (0 : Int32) (0 : Int32) h)
set_option maxRecDepth 100000 in
set_option maxHeartbeats 4000000 in
theorem mt_X2_teachAll {l : Launch} {G : ab_G} {a0 : Nat} {x1 : Int32} {h : hp_T} {Q : Int32 → hp_T → Prop} (hk0 : ab_k a0 = 2) (hw : wf h) (f : wp_X2_teachAll a0 x1 h Q) : ab_M l G yX2_teachAll cX2_teachAll 4 (some .int) rm_X2_teachAll 0 0 [.ref (G.1 + a0), .int x1] h (po_h Q) := by
  refine ab_intro (own := RX2) (nm := "teachAll") rfl rfl rfl (Nat.le_of_ble_eq_true rfl) (fun F C => ?_)
  show ab_W l G F 4 (ab_MQ G F (po_h Q) 0 0) 0 0 h [(0, .ref (G.1 + a0)), (1, .int x1)] [] 0
  unfold wp_X2_teachAll at f
  refine ab_iconst C (v := (0 : Int32)) dX2_teachAll_0 (by decide) ?_
  refine ab_istore_n C (lv' := [(2, .int (0 : Int32)), (0, .ref (G.1 + a0)), (1, .int x1)]) dX2_teachAll_1 rfl (by decide) rfl ?_
  refine ab_iconst C (v := (0 : Int32)) dX2_teachAll_2 (by decide) ?_
  refine ab_istore_n C (lv' := [(3, .int (0 : Int32)), (2, .int (0 : Int32)), (0, .ref (G.1 + a0)), (1, .int x1)]) dX2_teachAll_3 rfl (by decide) rfl ?_
  obtain ⟨n0, f⟩ := f
  refine ab_sub (lv' := [(0, .ref (G.1 + a0)), (1, .int x1), (2, .int (0 : Int32)), (3, .int (0 : Int32))]) [2, 3, 1, 0] rfl ?_
  exact bt_X2_teachAll_L4 C hk0   n0 (0 : Int32) (0 : Int32) h  hw f
/-! X2_passDay -/
def rm_X2_passDay : Room := { frames := 7, cells := 0, slots := 0, locals := 221 }
def wp_X2_passDay (a0 : Nat) (h : hp_T) (Q : Int32 → hp_T → Prop) : Prop :=
  wp_X2_relieve a0 h (fun v_1 h_2 => wp_X2_teachAll a0 (0 : Int32) h_2 (fun v_4 h_5 => wp_X2_endDay a0 h_5 (fun h_7 => (Q v_1 h_7))))
set_option maxRecDepth 100000 in
set_option maxHeartbeats 4000000 in
theorem mt_X2_passDay {l : Launch} {G : ab_G} {a0 : Nat} {h : hp_T} {Q : Int32 → hp_T → Prop} (hk0 : ab_k a0 = 2) (hw : wf h) (f : wp_X2_passDay a0 h Q) : ab_M l G yX2_passDay cX2_passDay 2 (some .int) rm_X2_passDay 0 0 [.ref (G.1 + a0)] h (po_h Q) := by
  refine ab_intro (own := RX2) (nm := "passDay") rfl rfl rfl (Nat.le_of_ble_eq_true rfl) (fun F C => ?_)
  show ab_W l G F 2 (ab_MQ G F (po_h Q) 0 0) 0 0 h [(0, .ref (G.1 + a0))] [] 0
  unfold wp_X2_passDay at f
  refine ab_aload_n C 0 dX2_passDay_0 rfl rfl ?_
  refine ab_callV C (k := 0) (n := 0) (rest := []) [] cl_X2_93 (mt_X2_relieve hk0 hw f) rfl (by decide) hk0 (wf_lt hw hk0 rfl) ⟨rfl, rfl, Nat.le_of_ble_eq_true rfl, Nat.le_of_ble_eq_true rfl, Nat.zero_le _, Nat.zero_le _⟩ rfl rfl (Nat.le_of_ble_eq_true rfl) dX2_passDay_1 (ab_kh (k := 0) (n := 0) (fun v_1 h_2 hw_3 f => ?_))
  refine ab_istore_n C (lv' := [(1, .int v_1), (0, .ref (G.1 + a0))]) dX2_passDay_4 rfl (by decide) rfl ?_
  refine ab_aload_n C 1 dX2_passDay_5 rfl rfl ?_
  refine ab_iconst C (v := (0 : Int32)) dX2_passDay_6 (by decide) ?_
  refine ab_callV C (k := 0) (n := 0) (rest := []) [.int (0 : Int32)] cl_X2_97 (mt_X2_teachAll hk0 hw_3 f) rfl (by decide) hk0 (wf_lt hw_3 hk0 rfl) ⟨rfl, rfl, Nat.le_of_ble_eq_true rfl, Nat.le_of_ble_eq_true rfl, Nat.zero_le _, Nat.zero_le _⟩ rfl rfl (Nat.le_of_ble_eq_true rfl) dX2_passDay_7 (ab_kh (k := 0) (n := 0) (fun v_4 h_5 hw_6 f => ?_))
  refine ab_pop C dX2_passDay_10 rfl ?_
  refine ab_aload_n C 1 dX2_passDay_11 rfl rfl ?_
  refine ab_callV C (k := 0) (n := 0) (rest := []) [] cl_X2_101 (mt_X2_endDay hk0 hw_6 f) rfl (by decide) hk0 (wf_lt hw_6 hk0 rfl) ⟨rfl, rfl, Nat.le_of_ble_eq_true rfl, Nat.le_of_ble_eq_true rfl, Nat.zero_le _, Nat.zero_le _⟩ rfl rfl (Nat.le_of_ble_eq_true rfl) dX2_passDay_12 (ab_kv (k := 0) (n := 0) (fun h_7 hw_8 f => ?_))
  refine ab_iload_n C 0 dX2_passDay_15 rfl rfl ?_
  exact ab_iret C dX2_passDay_16 ⟨hw_8, _, rfl, f⟩
/-! X2_passDayByDraws -/
def rm_X2_passDayByDraws : Room := { frames := 7, cells := 0, slots := 0, locals := 221 }
def wp_X2_passDayByDraws (a0 : Nat) (h : hp_T) (Q : Int32 → hp_T → Prop) : Prop :=
  wp_X2_relieve a0 h (fun v_1 h_2 => wp_X2_teachAll a0 (1 : Int32) h_2 (fun v_4 h_5 => wp_X2_endDay a0 h_5 (fun h_7 => (Q v_4 h_7))))
set_option maxRecDepth 100000 in
set_option maxHeartbeats 4000000 in
theorem mt_X2_passDayByDraws {l : Launch} {G : ab_G} {a0 : Nat} {h : hp_T} {Q : Int32 → hp_T → Prop} (hk0 : ab_k a0 = 2) (hw : wf h) (f : wp_X2_passDayByDraws a0 h Q) : ab_M l G yX2_passDayByDraws cX2_passDayByDraws 2 (some .int) rm_X2_passDayByDraws 0 0 [.ref (G.1 + a0)] h (po_h Q) := by
  refine ab_intro (own := RX2) (nm := "passDayByDraws") rfl rfl rfl (Nat.le_of_ble_eq_true rfl) (fun F C => ?_)
  show ab_W l G F 2 (ab_MQ G F (po_h Q) 0 0) 0 0 h [(0, .ref (G.1 + a0))] [] 0
  unfold wp_X2_passDayByDraws at f
  refine ab_aload_n C 0 dX2_passDayByDraws_0 rfl rfl ?_
  refine ab_callV C (k := 0) (n := 0) (rest := []) [] cl_X2_93 (mt_X2_relieve hk0 hw f) rfl (by decide) hk0 (wf_lt hw hk0 rfl) ⟨rfl, rfl, Nat.le_of_ble_eq_true rfl, Nat.le_of_ble_eq_true rfl, Nat.zero_le _, Nat.zero_le _⟩ rfl rfl (Nat.le_of_ble_eq_true rfl) dX2_passDayByDraws_1 (ab_kh (k := 0) (n := 0) (fun v_1 h_2 hw_3 f => ?_))
  refine ab_pop C dX2_passDayByDraws_4 rfl ?_
  refine ab_aload_n C 0 dX2_passDayByDraws_5 rfl rfl ?_
  refine ab_iconst C (v := (1 : Int32)) dX2_passDayByDraws_6 (by decide) ?_
  refine ab_callV C (k := 0) (n := 0) (rest := []) [.int (1 : Int32)] cl_X2_97 (mt_X2_teachAll hk0 hw_3 f) rfl (by decide) hk0 (wf_lt hw_3 hk0 rfl) ⟨rfl, rfl, Nat.le_of_ble_eq_true rfl, Nat.le_of_ble_eq_true rfl, Nat.zero_le _, Nat.zero_le _⟩ rfl rfl (Nat.le_of_ble_eq_true rfl) dX2_passDayByDraws_7 (ab_kh (k := 0) (n := 0) (fun v_4 h_5 hw_6 f => ?_))
  refine ab_istore_n C (lv' := [(1, .int v_4), (0, .ref (G.1 + a0))]) dX2_passDayByDraws_10 rfl (by decide) rfl ?_
  refine ab_aload_n C 1 dX2_passDayByDraws_11 rfl rfl ?_
  refine ab_callV C (k := 0) (n := 0) (rest := []) [] cl_X2_101 (mt_X2_endDay hk0 hw_6 f) rfl (by decide) hk0 (wf_lt hw_6 hk0 rfl) ⟨rfl, rfl, Nat.le_of_ble_eq_true rfl, Nat.le_of_ble_eq_true rfl, Nat.zero_le _, Nat.zero_le _⟩ rfl rfl (Nat.le_of_ble_eq_true rfl) dX2_passDayByDraws_12 (ab_kv (k := 0) (n := 0) (fun h_7 hw_8 f => ?_))
  refine ab_iload_n C 0 dX2_passDayByDraws_15 rfl rfl ?_
  exact ab_iret C dX2_passDayByDraws_16 ⟨hw_8, _, rfl, f⟩
/-! X2_payOfAll -/
def rm_X2_payOfAll : Room := { frames := 5, cells := 0, slots := 0, locals := 172 }
def wp_X2_payOfAll_L4 (a0 : Nat) (Q : Int32 → hp_T → Prop) : Nat → Int32 → Int32 → hp_T → Prop
  | 0 => fun _ _ _ => False
  | nn + 1 => fun y1 y2 h => (((hp_i h a0 1) ≤ y2 → (Q y1 h)) ∧ (¬ ((hp_i h a0 1) ≤ y2) → (vp_in y2 6) ∧ wp_X2_pay a0 (a0 + 8 + 3 * y2.toNatClampNeg) h (fun v_3 h_4 => (wp_X2_payOfAll_L4 a0 Q nn) (y1 + v_3) (y2 + (1 : Int32)) h_4)))
set_option maxRecDepth 100000 in
set_option maxHeartbeats 4000000 in
theorem bt_X2_payOfAll_L4 {l : Launch} {G : ab_G} {F : ab_F} {a0 : Nat} {Q : Int32 → hp_T → Prop}  (C : ab_C G F rm_X2_payOfAll cX2_payOfAll 3 RX2 (some .int) "payOfAll") (hk0 : ab_k a0 = 2)  : ∀ (nn : Nat) (y1 : Int32) (y2 : Int32) (h : hp_T), wf h → wp_X2_payOfAll_L4 a0 Q nn y1 y2 h → ab_W l G F 3 (ab_MQ G F (po_h Q) 0 0) 0 0 h [(0, .ref (G.1 + a0)), (1, .int y1), (2, .int y2)] [] 4 := by
  intro nn
  induction nn with
  | zero =>
    intro y1 y2 h hw f
    exact absurd f id
  | succ nn ih =>
    intro y1 y2 h hw f
    unfold wp_X2_payOfAll_L4 at f
    refine ab_iload_n C 2 dX2_payOfAll_4 rfl rfl ?_
    refine ab_aload_n C 0 dX2_payOfAll_5 rfl rfl ?_
    refine ab_getI C fl_X2_52 rfl hk0 (wf_lt hw hk0 rfl) dX2_payOfAll_6 ?_
    refine ab_icmp_ge C (tgt := 31) dX2_payOfAll_9 (by decide) (fun c_1 => ?_) (fun c_1 => ?_)
    · have f := f.1 c_1
      refine ab_iload_n C 1 dX2_payOfAll_31 rfl rfl ?_
      exact ab_iret C dX2_payOfAll_32 ⟨hw, _, rfl, f⟩
    · have f := f.2 c_1
      refine ab_iload_n C 1 dX2_payOfAll_12 rfl rfl ?_
      refine ab_aload_n C 0 dX2_payOfAll_13 rfl rfl ?_
      refine ab_aload_n C 0 dX2_payOfAll_14 rfl rfl ?_
      refine ab_getR C (q := (a0 + 1)) fl_X2_11 rfl hk0 (wf_lt hw hk0 rfl) (wr_2_0 hw hk0) dX2_payOfAll_15 ?_
      refine ab_iload_n C 2 dX2_payOfAll_18 rfl rfl ?_
      obtain ⟨c_2, f⟩ := f
      refine ab_aaldR C (q := (a0 + 8 + 3 * y2.toNatClampNeg)) (kn_2_0 hk0) (Or.inl rfl) (wf_lt hw (kn_2_0 hk0) rfl) (wf_len hw (kn_2_0 hk0) rfl rfl (by decide)) c_2 (j := y2.toNatClampNeg) rfl (wx_bunk hw hk0 (vp_in_lt c_2)) dX2_payOfAll_19 ?_
      refine ab_callV C (k := 0) (n := 0) (rest := [.int y1]) [.ref (G.1 + (a0 + 8 + 3 * y2.toNatClampNeg))] cl_X2_179 (mt_X2_pay hk0 (kx_bunk hk0 (vp_in_lt c_2)) hw f) rfl (by decide) hk0 (wf_lt hw hk0 rfl) ⟨rfl, rfl, Nat.le_of_ble_eq_true rfl, Nat.le_of_ble_eq_true rfl, Nat.zero_le _, Nat.zero_le _⟩ rfl rfl (Nat.le_of_ble_eq_true rfl) dX2_payOfAll_20 (ab_kh (k := 0) (n := 0) (fun v_3 h_4 hw_5 f => ?_))
      refine ab_iadd C dX2_payOfAll_23 ?_
      refine ab_istore_n C (lv' := [(1, .int (y1 + v_3)), (0, .ref (G.1 + a0)), (2, .int y2)]) dX2_payOfAll_24 rfl (by decide) rfl ?_
      refine ab_iinc C (lv' := [(2, .int (y2 + (1 : Int32))), (1, .int (y1 + v_3)), (0, .ref (G.1 + a0))]) 2 (v := (y2 + (1 : Int32))) dX2_payOfAll_25 rfl rfl (by decide) rfl ?_
      refine ab_goto C (tgt := 4) dX2_payOfAll_28 (by decide) ?_
      refine ab_sub (lv' := [(0, .ref (G.1 + a0)), (1, .int (y1 + v_3)), (2, .int (y2 + (1 : Int32)))]) [2, 1, 0] rfl ?_
      exact ih (y1 + v_3) (y2 + (1 : Int32)) h_4  hw_5 f
def wp_X2_payOfAll (a0 : Nat) (h : hp_T) (Q : Int32 → hp_T → Prop) : Prop :=
  (∃ n0, wp_X2_payOfAll_L4 a0 Q  n0 (0 : Int32) (0 : Int32) h)
set_option maxRecDepth 100000 in
set_option maxHeartbeats 4000000 in
theorem mt_X2_payOfAll {l : Launch} {G : ab_G} {a0 : Nat} {h : hp_T} {Q : Int32 → hp_T → Prop} (hk0 : ab_k a0 = 2) (hw : wf h) (f : wp_X2_payOfAll a0 h Q) : ab_M l G yX2_payOfAll cX2_payOfAll 3 (some .int) rm_X2_payOfAll 0 0 [.ref (G.1 + a0)] h (po_h Q) := by
  refine ab_intro (own := RX2) (nm := "payOfAll") rfl rfl rfl (Nat.le_of_ble_eq_true rfl) (fun F C => ?_)
  show ab_W l G F 3 (ab_MQ G F (po_h Q) 0 0) 0 0 h [(0, .ref (G.1 + a0))] [] 0
  unfold wp_X2_payOfAll at f
  refine ab_iconst C (v := (0 : Int32)) dX2_payOfAll_0 (by decide) ?_
  refine ab_istore_n C (lv' := [(1, .int (0 : Int32)), (0, .ref (G.1 + a0))]) dX2_payOfAll_1 rfl (by decide) rfl ?_
  refine ab_iconst C (v := (0 : Int32)) dX2_payOfAll_2 (by decide) ?_
  refine ab_istore_n C (lv' := [(2, .int (0 : Int32)), (1, .int (0 : Int32)), (0, .ref (G.1 + a0))]) dX2_payOfAll_3 rfl (by decide) rfl ?_
  obtain ⟨n0, f⟩ := f
  refine ab_sub (lv' := [(0, .ref (G.1 + a0)), (1, .int (0 : Int32)), (2, .int (0 : Int32))]) [2, 1, 0] rfl ?_
  exact bt_X2_payOfAll_L4 C hk0   n0 (0 : Int32) (0 : Int32) h  hw f
/-! X2_teachOnly -/
def rm_X2_teachOnly : Room := { frames := 2, cells := 0, slots := 0, locals := 100 }
def wp_X2_teachOnly_L2 (a0 : Nat) (x1 : Int32) (x2 : Int32) (Q : hp_T → Prop) : Nat → Int32 → hp_T → Prop
  | 0 => fun _ _ => False
  | nn + 1 => fun y3 h => (((hp_i h a0 1) ≤ y3 → (Q h)) ∧ (¬ ((hp_i h a0 1) ≤ y3) → (vp_in y3 6) ∧ ((((x2 >>> (y3 &&& 31)) &&& (1 : Int32)) = 0 → (∀ h_4, h_4 = hp_si h (a0 + 8 + 3 * y3.toNatClampNeg) 4 (-1 : Int32) → (wp_X2_teachOnly_L2 a0 x1 x2 Q nn) (y3 + (1 : Int32)) h_4)) ∧ (¬ (((x2 >>> (y3 &&& 31)) &&& (1 : Int32)) = 0) → (∀ h_7, h_7 = hp_si h (a0 + 8 + 3 * y3.toNatClampNeg) 4 x1 → (wp_X2_teachOnly_L2 a0 x1 x2 Q nn) (y3 + (1 : Int32)) h_7)))))
set_option maxRecDepth 100000 in
set_option maxHeartbeats 4000000 in
theorem bt_X2_teachOnly_L2 {l : Launch} {G : ab_G} {F : ab_F} {a0 : Nat} {x1 : Int32} {x2 : Int32} {Q : hp_T → Prop}  (C : ab_C G F rm_X2_teachOnly cX2_teachOnly 4 RX2 none "teachOnly") (hk0 : ab_k a0 = 2)  : ∀ (nn : Nat) (y3 : Int32) (h : hp_T), wf h → wp_X2_teachOnly_L2 a0 x1 x2 Q nn y3 h → ab_W l G F 4 (ab_MQ G F (po_v Q) 0 0) 0 0 h [(0, .ref (G.1 + a0)), (1, .int x1), (2, .int x2), (3, .int y3)] [] 2 := by
  intro nn
  induction nn with
  | zero =>
    intro y3 h hw f
    exact absurd f id
  | succ nn ih =>
    intro y3 h hw f
    unfold wp_X2_teachOnly_L2 at f
    refine ab_iload_n C 3 dX2_teachOnly_2 rfl rfl ?_
    refine ab_aload_n C 0 dX2_teachOnly_3 rfl rfl ?_
    refine ab_getI C fl_X2_52 rfl hk0 (wf_lt hw hk0 rfl) dX2_teachOnly_4 ?_
    refine ab_icmp_ge C (tgt := 38) dX2_teachOnly_7 (by decide) (fun c_1 => ?_) (fun c_1 => ?_)
    · have f := f.1 c_1
      exact ab_vret C dX2_teachOnly_38 ⟨hw, rfl, f⟩
    · have f := f.2 c_1
      refine ab_aload_n C 0 dX2_teachOnly_10 rfl rfl ?_
      refine ab_getR C (q := (a0 + 1)) fl_X2_11 rfl hk0 (wf_lt hw hk0 rfl) (wr_2_0 hw hk0) dX2_teachOnly_11 ?_
      refine ab_iload_n C 3 dX2_teachOnly_14 rfl rfl ?_
      obtain ⟨c_2, f⟩ := f
      refine ab_aaldR C (q := (a0 + 8 + 3 * y3.toNatClampNeg)) (kn_2_0 hk0) (Or.inl rfl) (wf_lt hw (kn_2_0 hk0) rfl) (wf_len hw (kn_2_0 hk0) rfl rfl (by decide)) c_2 (j := y3.toNatClampNeg) rfl (wx_bunk hw hk0 (vp_in_lt c_2)) dX2_teachOnly_15 ?_
      refine ab_iload_n C 2 dX2_teachOnly_16 rfl rfl ?_
      refine ab_iload_n C 3 dX2_teachOnly_17 rfl rfl ?_
      refine ab_ishr C dX2_teachOnly_18 ?_
      refine ab_iconst C (v := (1 : Int32)) dX2_teachOnly_19 (by decide) ?_
      refine ab_iand C dX2_teachOnly_20 ?_
      refine ab_if_eq C (tgt := 28) dX2_teachOnly_21 (by decide) (fun c_3 => ?_) (fun c_3 => ?_)
      · have f := f.1 c_3
        refine ab_iconst C (v := (-1 : Int32)) dX2_teachOnly_28 (by decide) ?_
        refine ab_putI C fl_X2_90 rfl (kx_bunk hk0 (vp_in_lt c_2)) (wf_lt hw (kx_bunk hk0 (vp_in_lt c_2)) rfl) rfl rfl dX2_teachOnly_29 (fun h_4 e_5 => ?_)
        have f := f h_4 e_5
        have hw_6 := wf_si e_5 hw
        refine ab_iinc C (lv' := [(3, .int (y3 + (1 : Int32))), (0, .ref (G.1 + a0)), (1, .int x1), (2, .int x2)]) 3 (v := (y3 + (1 : Int32))) dX2_teachOnly_32 rfl rfl (by decide) rfl ?_
        refine ab_goto C (tgt := 2) dX2_teachOnly_35 (by decide) ?_
        refine ab_sub (lv' := [(0, .ref (G.1 + a0)), (1, .int x1), (2, .int x2), (3, .int (y3 + (1 : Int32)))]) [1, 2, 3, 0] rfl ?_
        exact ih (y3 + (1 : Int32)) h_4  hw_6 f
      · have f := f.2 c_3
        refine ab_iload_n C 1 dX2_teachOnly_24 rfl rfl ?_
        refine ab_goto C (tgt := 29) dX2_teachOnly_25 (by decide) ?_
        refine ab_putI C fl_X2_90 rfl (kx_bunk hk0 (vp_in_lt c_2)) (wf_lt hw (kx_bunk hk0 (vp_in_lt c_2)) rfl) rfl rfl dX2_teachOnly_29 (fun h_7 e_8 => ?_)
        have f := f h_7 e_8
        have hw_9 := wf_si e_8 hw
        refine ab_iinc C (lv' := [(3, .int (y3 + (1 : Int32))), (0, .ref (G.1 + a0)), (1, .int x1), (2, .int x2)]) 3 (v := (y3 + (1 : Int32))) dX2_teachOnly_32 rfl rfl (by decide) rfl ?_
        refine ab_goto C (tgt := 2) dX2_teachOnly_35 (by decide) ?_
        refine ab_sub (lv' := [(0, .ref (G.1 + a0)), (1, .int x1), (2, .int x2), (3, .int (y3 + (1 : Int32)))]) [1, 2, 3, 0] rfl ?_
        exact ih (y3 + (1 : Int32)) h_7  hw_9 f
def wp_X2_teachOnly (a0 : Nat) (x1 : Int32) (x2 : Int32) (h : hp_T) (Q : hp_T → Prop) : Prop :=
  (∃ n0, wp_X2_teachOnly_L2 a0 x1 x2 Q  n0 (0 : Int32) h)
set_option maxRecDepth 100000 in
set_option maxHeartbeats 4000000 in
theorem mt_X2_teachOnly {l : Launch} {G : ab_G} {a0 : Nat} {x1 : Int32} {x2 : Int32} {h : hp_T} {Q : hp_T → Prop} (hk0 : ab_k a0 = 2) (hw : wf h) (f : wp_X2_teachOnly a0 x1 x2 h Q) : ab_M l G yX2_teachOnly cX2_teachOnly 4 none rm_X2_teachOnly 0 0 [.ref (G.1 + a0), .int x1, .int x2] h (po_v Q) := by
  refine ab_intro (own := RX2) (nm := "teachOnly") rfl rfl rfl (Nat.le_of_ble_eq_true rfl) (fun F C => ?_)
  show ab_W l G F 4 (ab_MQ G F (po_v Q) 0 0) 0 0 h [(0, .ref (G.1 + a0)), (1, .int x1), (2, .int x2)] [] 0
  unfold wp_X2_teachOnly at f
  refine ab_iconst C (v := (0 : Int32)) dX2_teachOnly_0 (by decide) ?_
  refine ab_istore_n C (lv' := [(3, .int (0 : Int32)), (0, .ref (G.1 + a0)), (1, .int x1), (2, .int x2)]) dX2_teachOnly_1 rfl (by decide) rfl ?_
  obtain ⟨n0, f⟩ := f
  refine ab_sub (lv' := [(0, .ref (G.1 + a0)), (1, .int x1), (2, .int x2), (3, .int (0 : Int32))]) [1, 2, 3, 0] rfl ?_
  exact bt_X2_teachOnly_L2 C hk0   n0 (0 : Int32) h  hw f
/-! X4_init -/
def rm_X4_init : Room := { frames := 2, cells := 2, slots := 120, locals := 100 }
def wp_X4_init (a0 : Nat) (x2 : Int32) (h : hp_T) (Q : hp_T → Prop) : Prop :=
  (16 ≤ ab_k (hp_n h)) ∧ (¬ x2 < 0) ∧ (x2.toNatClampNeg ≤ 60) ∧ (∀ h_1, h_1 = hp_na h x2.toNatClampNeg → (a0 < hp_n h_1) ∧ (∀ h_7, h_7 = hp_sr h_1 a0 0 (some (hp_n h)) → (16 ≤ ab_k (hp_n h_7)) ∧ (¬ x2 < 0) ∧ (x2.toNatClampNeg ≤ 60) ∧ (∀ h_9, h_9 = hp_na h_7 x2.toNatClampNeg → (a0 < hp_n h_9) ∧ (∀ h_15, h_15 = hp_sr h_9 a0 1 (some (hp_n h_7)) → (a0 < hp_n h_15) ∧ (∃ q_18, (hp_r h_15 a0 0 = some q_18) ∧ (92 < hp_n h_15) ∧ (ab_k q_18 = 16) ∧ (q_18 < hp_n h_15) ∧ (cp_ok (0 : Int32) (0 : Int32) x2 (hp_l h_15 92) (hp_l h_15 q_18)) ∧ (∀ h_24, h_24 = hp_cp h_15 92 0 q_18 0 x2.toNatClampNeg → (Q h_24)))))))
set_option maxRecDepth 100000 in
set_option maxHeartbeats 4000000 in
theorem mt_X4_init {l : Launch} {G : ab_G} {a0 : Nat} {x2 : Int32} {h : hp_T} {Q : hp_T → Prop} (hk0 : ab_k a0 = 4) (f : wp_X4_init a0 x2 h Q) : ab_M l G yX4_init cX4_init 3 none rm_X4_init 2 120 [.ref (G.1 + a0), .ref (G.1 + 92), .int x2] h (po_r Q) := by
  refine ab_intro (own := RX4) (nm := "<init>") rfl rfl rfl (Nat.le_of_ble_eq_true rfl) (fun F C => ?_)
  show ab_W l G F 3 (ab_MQ G F (po_r Q) 2 120) 0 0 h [(0, .ref (G.1 + a0)), (1, .ref (G.1 + 92)), (2, .int x2)] [] 0
  unfold wp_X4_init at f
  refine ab_aload_n C 0 dX4_init_0 rfl rfl ?_
  refine ab_oinit C (b := a0) co_X4 (by decide) (by decide) (Nat.le_of_ble_eq_true rfl) dX4_init_1 ?_
  refine ab_aload_n C 0 dX4_init_4 rfl rfl ?_
  refine ab_iload_n C 2 dX4_init_5 rfl rfl ?_
  obtain ⟨c_3, f⟩ := f
  obtain ⟨c_4, c_5, f⟩ := f
  refine ab_newI C (k := 0) (n := 0) (N := x2.toNatClampNeg) kw_t73 c_3 c_4 rfl (Nat.le_trans c_5 (by decide)) (Nat.le_of_ble_eq_true rfl) (Nat.le_trans (Nat.add_le_add_left c_5 _) (Nat.le_of_ble_eq_true rfl)) dX4_init_6 (fun h_1 e_2 => ?_)
  refine ab_widen (k' := 1) (n' := 60) (Nat.le_refl _) (Nat.add_le_add_left c_5 _) ?_
  have f := f h_1 e_2
  obtain ⟨c_6, f⟩ := f
  refine ab_putR C (q := (hp_n h)) fl_X4_7 rfl (fun _ => rfl) hk0 c_6 (fun _ => rfl) (fun _ => rfl) dX4_init_8 (fun h_7 e_8 => ?_)
  have f := f h_7 e_8
  refine ab_aload_n C 0 dX4_init_11 rfl rfl ?_
  refine ab_iload_n C 2 dX4_init_12 rfl rfl ?_
  obtain ⟨c_11, f⟩ := f
  obtain ⟨c_12, c_13, f⟩ := f
  refine ab_newI C (k := 1) (n := 60) (N := x2.toNatClampNeg) kw_t73 c_11 c_12 rfl (Nat.le_trans c_13 (by decide)) (Nat.le_of_ble_eq_true rfl) (Nat.le_trans (Nat.add_le_add_left c_13 _) (Nat.le_of_ble_eq_true rfl)) dX4_init_13 (fun h_9 e_10 => ?_)
  refine ab_widen (k' := 2) (n' := 120) (Nat.le_refl _) (Nat.add_le_add_left c_13 _) ?_
  have f := f h_9 e_10
  obtain ⟨c_14, f⟩ := f
  refine ab_putR C (q := (hp_n h_7)) fl_X4_13 rfl (fun _ => rfl) hk0 c_14 (fun _ => rfl) (fun _ => rfl) dX4_init_15 (fun h_15 e_16 => ?_)
  have f := f h_15 e_16
  refine ab_aload_n C 1 dX4_init_18 rfl rfl ?_
  refine ab_iconst C (v := (0 : Int32)) dX4_init_19 (by decide) ?_
  refine ab_aload_n C 0 dX4_init_20 rfl rfl ?_
  obtain ⟨c_17, f⟩ := f
  obtain ⟨q_18, c_19, f⟩ := f
  refine ab_getR C (q := q_18) fl_X4_7 rfl hk0 c_17 c_19 dX4_init_21 ?_
  refine ab_iconst C (v := (0 : Int32)) dX4_init_24 (by decide) ?_
  refine ab_iload_n C 2 dX4_init_25 rfl rfl ?_
  obtain ⟨c_20, f⟩ := f
  obtain ⟨c_21, c_22, f⟩ := f
  obtain ⟨c_23, f⟩ := f
  refine ab_copy C (t0 := 0) (ty := .int) (s0 := 0) (d0 := 0) (z0 := x2.toNatClampNeg) cs_X4_16 (Or.inl ⟨by rw [kd_92]; decide, by rw [c_21]; decide, rfl, rfl⟩) c_20 c_22 rfl rfl c_23.1 c_23.2.1 c_23.2.2.1 (by decide) (by decide) rfl c_23.2.2.2.1 c_23.2.2.2.2 (fun _ _ => rfl) (by decide) (by decide) (Nat.le_of_ble_eq_true rfl) dX4_init_26 (fun h_24 e_25 => ?_)
  have f := f h_24 e_25
  exact ab_vret C dX4_init_29 ⟨rfl, f⟩
/-! X5_ahead -/
def rm_X5_ahead : Room := { frames := 2, cells := 0, slots := 0, locals := 100 }
def wp_X5_ahead (h : hp_T) (Q : Int32 → Prop) : Prop :=
  ((0 ≤ (hp_i h 91 6) → (Q (-1 : Int32))) ∧ (¬ (0 ≤ (hp_i h 91 6)) → (((hp_i h 91 1) ≤ (hp_i h 91 3) → (Q (-1 : Int32))) ∧ (¬ ((hp_i h 91 1) ≤ (hp_i h 91 3)) → (∃ q_3, (hp_r h 91 0 = some q_3) ∧ (ab_k q_3 = 11) ∧ (vp_in (hp_i h 91 3) 60) ∧ (Q ((hp_i h q_3 ((hp_i h 91 3).toNatClampNeg)) &&& (255 : Int32))))))))
set_option maxRecDepth 100000 in
set_option maxHeartbeats 4000000 in
theorem mt_X5_ahead {l : Launch} {G : ab_G}  {h : hp_T} {Q : Int32 → Prop} (hw : wf h) (f : wp_X5_ahead h Q) : ab_M l G yX5_ahead cX5_ahead 1 (some .int) rm_X5_ahead 0 0 [.ref (G.1 + 91)] h (po_p h Q) := by
  refine ab_intro (own := RX5) (nm := "ahead") rfl rfl rfl (Nat.le_of_ble_eq_true rfl) (fun F C => ?_)
  show ab_W l G F 1 (ab_MQ G F (po_p h Q) 0 0) 0 0 h [(0, .ref (G.1 + 91))] [] 0
  unfold wp_X5_ahead at f
  refine ab_aload_n C 0 dX5_ahead_0 rfl rfl ?_
  refine ab_getI C fl_X5_38 rfl kd_91 (wf_lt hw kd_91 rfl) dX5_ahead_1 ?_
  refine ab_if_ge C (tgt := 34) dX5_ahead_4 (by decide) (fun c_1 => ?_) (fun c_1 => ?_)
  · have f := f.1 c_1
    refine ab_iconst C (v := (-1 : Int32)) dX5_ahead_34 (by decide) ?_
    exact ab_iret C dX5_ahead_35 ⟨rfl, _, rfl, f⟩
  · have f := f.2 c_1
    refine ab_aload_n C 0 dX5_ahead_7 rfl rfl ?_
    refine ab_getI C fl_X5_32 rfl kd_91 (wf_lt hw kd_91 rfl) dX5_ahead_8 ?_
    refine ab_aload_n C 0 dX5_ahead_11 rfl rfl ?_
    refine ab_getI C fl_X5_25 rfl kd_91 (wf_lt hw kd_91 rfl) dX5_ahead_12 ?_
    refine ab_icmp_ge C (tgt := 34) dX5_ahead_15 (by decide) (fun c_2 => ?_) (fun c_2 => ?_)
    · have f := f.1 c_2
      refine ab_iconst C (v := (-1 : Int32)) dX5_ahead_34 (by decide) ?_
      exact ab_iret C dX5_ahead_35 ⟨rfl, _, rfl, f⟩
    · have f := f.2 c_2
      refine ab_aload_n C 0 dX5_ahead_18 rfl rfl ?_
      obtain ⟨q_3, c_4, f⟩ := f
      refine ab_getR C (q := q_3) fl_X5_15 rfl kd_91 (wf_lt hw kd_91 rfl) c_4 dX5_ahead_19 ?_
      refine ab_aload_n C 0 dX5_ahead_22 rfl rfl ?_
      refine ab_getI C fl_X5_32 rfl kd_91 (wf_lt hw kd_91 rfl) dX5_ahead_23 ?_
      obtain ⟨c_5, f⟩ := f
      obtain ⟨c_6, f⟩ := f
      refine ab_bald C c_5 (wf_lt hw c_5 rfl) (wf_len hw c_5 rfl rfl (by decide)) c_6 (j := (hp_i h 91 3).toNatClampNeg) rfl dX5_ahead_26 ?_
      refine ab_sipush C (v := (255 : Int32)) dX5_ahead_27 (by decide) ?_
      refine ab_iand C dX5_ahead_30 ?_
      refine ab_goto C (tgt := 35) dX5_ahead_31 (by decide) ?_
      exact ab_iret C dX5_ahead_35 ⟨rfl, _, rfl, f⟩
/-! X5_fail -/
def rm_X5_fail : Room := { frames := 2, cells := 0, slots := 0, locals := 100 }
def wp_X5_fail (h : hp_T) (Q : hp_T → Prop) : Prop :=
  ((0 ≤ (hp_i h 91 6) → (Q h)) ∧ (¬ (0 ≤ (hp_i h 91 6)) → (∀ h_2, h_2 = hp_si h 91 6 (hp_i h 91 3) → (Q h_2))))
set_option maxRecDepth 100000 in
set_option maxHeartbeats 4000000 in
theorem mt_X5_fail {l : Launch} {G : ab_G}  {h : hp_T} {Q : hp_T → Prop} (hw : wf h) (f : wp_X5_fail h Q) : ab_M l G yX5_fail cX5_fail 1 none rm_X5_fail 0 0 [.ref (G.1 + 91)] h (po_v Q) := by
  refine ab_intro (own := RX5) (nm := "fail") rfl rfl rfl (Nat.le_of_ble_eq_true rfl) (fun F C => ?_)
  show ab_W l G F 1 (ab_MQ G F (po_v Q) 0 0) 0 0 h [(0, .ref (G.1 + 91))] [] 0
  unfold wp_X5_fail at f
  refine ab_aload_n C 0 dX5_fail_0 rfl rfl ?_
  refine ab_getI C fl_X5_38 rfl kd_91 (wf_lt hw kd_91 rfl) dX5_fail_1 ?_
  refine ab_if_ge C (tgt := 15) dX5_fail_4 (by decide) (fun c_1 => ?_) (fun c_1 => ?_)
  · have f := f.1 c_1
    exact ab_vret C dX5_fail_15 ⟨hw, rfl, f⟩
  · have f := f.2 c_1
    refine ab_aload_n C 0 dX5_fail_7 rfl rfl ?_
    refine ab_aload_n C 0 dX5_fail_8 rfl rfl ?_
    refine ab_getI C fl_X5_32 rfl kd_91 (wf_lt hw kd_91 rfl) dX5_fail_9 ?_
    refine ab_putI C fl_X5_38 rfl kd_91 (wf_lt hw kd_91 rfl) rfl rfl dX5_fail_12 (fun h_2 e_3 => ?_)
    have f := f h_2 e_3
    have hw_4 := wf_si e_3 hw
    exact ab_vret C dX5_fail_15 ⟨hw_4, rfl, f⟩
/-! X5_init -/
def rm_X5_init : Room := { frames := 2, cells := 1, slots := 60, locals := 100 }
def wp_X5_init (h : hp_T) (Q : hp_T → Prop) : Prop :=
  (16 ≤ ab_k (hp_n h)) ∧ (∀ h_1, h_1 = hp_na h 60 → (91 < hp_n h_1) ∧ (∀ h_5, h_5 = hp_sr h_1 91 4 (some (hp_n h)) → (Q h_5)))
set_option maxRecDepth 100000 in
set_option maxHeartbeats 4000000 in
theorem mt_X5_init {l : Launch} {G : ab_G}  {h : hp_T} {Q : hp_T → Prop} (f : wp_X5_init h Q) : ab_M l G yX5_init cX5_init 1 none rm_X5_init 1 60 [.ref (G.1 + 91)] h (po_r Q) := by
  refine ab_intro (own := RX5) (nm := "<init>") rfl rfl rfl (Nat.le_of_ble_eq_true rfl) (fun F C => ?_)
  show ab_W l G F 1 (ab_MQ G F (po_r Q) 1 60) 0 0 h [(0, .ref (G.1 + 91))] [] 0
  unfold wp_X5_init at f
  refine ab_aload_n C 0 dX5_init_0 rfl rfl ?_
  refine ab_oinit C (b := 91) co_X5 (by decide) (by decide) (Nat.le_of_ble_eq_true rfl) dX5_init_1 ?_
  refine ab_aload_n C 0 dX5_init_4 rfl rfl ?_
  refine ab_bipush C (v := (60 : Int32)) dX5_init_5 (by decide) ?_
  obtain ⟨c_3, f⟩ := f
  refine ab_newI C (k := 0) (n := 0) (N := 60) kw_t73 c_3 (by decide) (by decide) (by decide) (Nat.le_of_ble_eq_true rfl) (Nat.le_of_ble_eq_true rfl) dX5_init_7 (fun h_1 e_2 => ?_)
  have f := f h_1 e_2
  obtain ⟨c_4, f⟩ := f
  refine ab_putR C (q := (hp_n h)) fl_X5_9 rfl (fun _ => rfl) kd_91 c_4 (fun _ => rfl) (fun _ => rfl) dX5_init_9 (fun h_5 e_6 => ?_)
  have f := f h_5 e_6
  exact ab_vret C dX5_init_12 ⟨rfl, f⟩
/-! X5_isDigit -/
def rm_X5_isDigit : Room := { frames := 2, cells := 0, slots := 0, locals := 100 }
def wp_X5_isDigit (x0 : Int32) (h : hp_T) (Q : Int32 → Prop) : Prop :=
  ((x0 < (48 : Int32) → (Q (0 : Int32))) ∧ (¬ (x0 < (48 : Int32)) → (((57 : Int32) < x0 → (Q (0 : Int32))) ∧ (¬ ((57 : Int32) < x0) → (Q (1 : Int32))))))
set_option maxRecDepth 100000 in
set_option maxHeartbeats 4000000 in
theorem mt_X5_isDigit {l : Launch} {G : ab_G} {x0 : Int32} {h : hp_T} {Q : Int32 → Prop} (hw : wf h) (f : wp_X5_isDigit x0 h Q) : ab_M l G yX5_isDigit cX5_isDigit 1 (some .boolean) rm_X5_isDigit 0 0 [.int x0] h (po_p h Q) := by
  refine ab_intro (own := RX5) (nm := "isDigit") rfl rfl rfl (Nat.le_of_ble_eq_true rfl) (fun F C => ?_)
  show ab_W l G F 1 (ab_MQ G F (po_p h Q) 0 0) 0 0 h [(0, .int x0)] [] 0
  unfold wp_X5_isDigit at f
  refine ab_iload_n C 0 dX5_isDigit_0 rfl rfl ?_
  refine ab_bipush C (v := (48 : Int32)) dX5_isDigit_1 (by decide) ?_
  refine ab_icmp_lt C (tgt := 16) dX5_isDigit_3 (by decide) (fun c_1 => ?_) (fun c_1 => ?_)
  · have f := f.1 c_1
    refine ab_iconst C (v := (0 : Int32)) dX5_isDigit_16 (by decide) ?_
    exact ab_zret C dX5_isDigit_17 rfl ⟨rfl, _, rfl, f⟩
  · have f := f.2 c_1
    refine ab_iload_n C 0 dX5_isDigit_6 rfl rfl ?_
    refine ab_bipush C (v := (57 : Int32)) dX5_isDigit_7 (by decide) ?_
    refine ab_icmp_gt C (tgt := 16) dX5_isDigit_9 (by decide) (fun c_2 => ?_) (fun c_2 => ?_)
    · have f := f.1 c_2
      refine ab_iconst C (v := (0 : Int32)) dX5_isDigit_16 (by decide) ?_
      exact ab_zret C dX5_isDigit_17 rfl ⟨rfl, _, rfl, f⟩
    · have f := f.2 c_2
      refine ab_iconst C (v := (1 : Int32)) dX5_isDigit_12 (by decide) ?_
      refine ab_goto C (tgt := 17) dX5_isDigit_13 (by decide) ?_
      exact ab_zret C dX5_isDigit_17 rfl ⟨rfl, _, rfl, f⟩
/-! X5_step -/
def rm_X5_step : Room := { frames := 2, cells := 0, slots := 0, locals := 100 }
def wp_X5_step (x1 : Int32) (h : hp_T) (Q : hp_T → Prop) : Prop :=
  ((0 ≤ (hp_i h 91 6) → (Q h)) ∧ (¬ (0 ≤ (hp_i h 91 6)) → (((nI 60) ≤ (hp_i h 91 5) → (Q h)) ∧ (¬ ((nI 60) ≤ (hp_i h 91 5)) → (vp_in (hp_i h 91 5) 60) ∧ (∀ h_4, h_4 = hp_si h 92 ((hp_i h 91 5).toNatClampNeg) x1 → (∀ h_7, h_7 = hp_si h_4 91 5 ((hp_i h_4 91 5) + (1 : Int32)) → (Q h_7)))))))
set_option maxRecDepth 100000 in
set_option maxHeartbeats 4000000 in
theorem mt_X5_step {l : Launch} {G : ab_G} {x1 : Int32} {h : hp_T} {Q : hp_T → Prop} (hw : wf h) (f : wp_X5_step x1 h Q) : ab_M l G yX5_step cX5_step 2 none rm_X5_step 0 0 [.ref (G.1 + 91), .int x1] h (po_v Q) := by
  refine ab_intro (own := RX5) (nm := "step") rfl rfl rfl (Nat.le_of_ble_eq_true rfl) (fun F C => ?_)
  show ab_W l G F 2 (ab_MQ G F (po_v Q) 0 0) 0 0 h [(0, .ref (G.1 + 91)), (1, .int x1)] [] 0
  unfold wp_X5_step at f
  refine ab_aload_n C 0 dX5_step_0 rfl rfl ?_
  refine ab_getI C fl_X5_38 rfl kd_91 (wf_lt hw kd_91 rfl) dX5_step_1 ?_
  refine ab_if_ge C (tgt := 39) dX5_step_4 (by decide) (fun c_1 => ?_) (fun c_1 => ?_)
  · have f := f.1 c_1
    exact ab_vret C dX5_step_39 ⟨hw, rfl, f⟩
  · have f := f.2 c_1
    refine ab_aload_n C 0 dX5_step_7 rfl rfl ?_
    refine ab_getI C fl_X5_35 rfl kd_91 (wf_lt hw kd_91 rfl) dX5_step_8 ?_
    refine ab_aload_n C 0 dX5_step_11 rfl rfl ?_
    refine ab_getR C (q := 92) fl_X5_9 rfl kd_91 (wf_lt hw kd_91 rfl) (wr_5_4 hw) dX5_step_12 ?_
    refine ab_alen C (N := 60) (Or.inl (by rw [kd_92]; decide)) (wf_lt hw kd_92 rfl) (wf_len hw kd_92 rfl rfl (by decide)) dX5_step_15 ?_
    refine ab_icmp_ge C (tgt := 39) dX5_step_16 (by decide) (fun c_2 => ?_) (fun c_2 => ?_)
    · have f := f.1 c_2
      exact ab_vret C dX5_step_39 ⟨hw, rfl, f⟩
    · have f := f.2 c_2
      refine ab_aload_n C 0 dX5_step_19 rfl rfl ?_
      refine ab_getR C (q := 92) fl_X5_9 rfl kd_91 (wf_lt hw kd_91 rfl) (wr_5_4 hw) dX5_step_20 ?_
      refine ab_aload_n C 0 dX5_step_23 rfl rfl ?_
      refine ab_getI C fl_X5_35 rfl kd_91 (wf_lt hw kd_91 rfl) dX5_step_24 ?_
      refine ab_iload_n C 1 dX5_step_27 rfl rfl ?_
      obtain ⟨c_3, f⟩ := f
      refine ab_iast C (by rw [kd_92]; decide) (wf_lt hw kd_92 rfl) (wf_len hw kd_92 rfl rfl (by decide)) c_3 (j := (hp_i h 91 5).toNatClampNeg) rfl dX5_step_28 (fun h_4 e_5 => ?_)
      have f := f h_4 e_5
      have hw_6 := wf_si e_5 hw
      refine ab_aload_n C 0 dX5_step_29 rfl rfl ?_
      refine ab_dup C dX5_step_30 rfl ?_
      refine ab_getI C fl_X5_35 rfl kd_91 (wf_lt hw_6 kd_91 rfl) dX5_step_31 ?_
      refine ab_iconst C (v := (1 : Int32)) dX5_step_34 (by decide) ?_
      refine ab_iadd C dX5_step_35 ?_
      refine ab_putI C fl_X5_35 rfl kd_91 (wf_lt hw_6 kd_91 rfl) rfl rfl dX5_step_36 (fun h_7 e_8 => ?_)
      have f := f h_7 e_8
      have hw_9 := wf_si e_8 hw_6
      exact ab_vret C dX5_step_39 ⟨hw_9, rfl, f⟩
/-! X5_takes -/
def rm_X5_takes : Room := { frames := 3, cells := 0, slots := 0, locals := 120 }
def wp_X5_takes (x1 : Int32) (h : hp_T) (Q : Int32 → hp_T → Prop) : Prop :=
  wp_X5_ahead h (fun v_1 => ((v_1 = x1 → (∀ h_3, h_3 = hp_si h 91 3 ((hp_i h 91 3) + (1 : Int32)) → (Q (1 : Int32) h_3))) ∧ (¬ (v_1 = x1) → (Q (0 : Int32) h))))
set_option maxRecDepth 100000 in
set_option maxHeartbeats 4000000 in
theorem mt_X5_takes {l : Launch} {G : ab_G} {x1 : Int32} {h : hp_T} {Q : Int32 → hp_T → Prop} (hw : wf h) (f : wp_X5_takes x1 h Q) : ab_M l G yX5_takes cX5_takes 2 (some .boolean) rm_X5_takes 0 0 [.ref (G.1 + 91), .int x1] h (po_h Q) := by
  refine ab_intro (own := RX5) (nm := "takes") rfl rfl rfl (Nat.le_of_ble_eq_true rfl) (fun F C => ?_)
  show ab_W l G F 2 (ab_MQ G F (po_h Q) 0 0) 0 0 h [(0, .ref (G.1 + 91)), (1, .int x1)] [] 0
  unfold wp_X5_takes at f
  refine ab_aload_n C 0 dX5_takes_0 rfl rfl ?_
  refine ab_callV C (k := 0) (n := 0) (rest := []) [] cl_X5_69 (mt_X5_ahead  hw f) rfl (by decide) kd_91 (wf_lt hw kd_91 rfl) ⟨rfl, rfl, Nat.le_of_ble_eq_true rfl, Nat.le_of_ble_eq_true rfl, Nat.zero_le _, Nat.zero_le _⟩ rfl rfl (Nat.le_of_ble_eq_true rfl) dX5_takes_1 (ab_kp (k := 0) (n := 0) (fun v_1 f => ?_))
  refine ab_iload_n C 1 dX5_takes_4 rfl rfl ?_
  refine ab_icmp_eq C (tgt := 10) dX5_takes_5 (by decide) (fun c_2 => ?_) (fun c_2 => ?_)
  · have f := f.1 c_2
    refine ab_aload_n C 0 dX5_takes_10 rfl rfl ?_
    refine ab_dup C dX5_takes_11 rfl ?_
    refine ab_getI C fl_X5_32 rfl kd_91 (wf_lt hw kd_91 rfl) dX5_takes_12 ?_
    refine ab_iconst C (v := (1 : Int32)) dX5_takes_15 (by decide) ?_
    refine ab_iadd C dX5_takes_16 ?_
    refine ab_putI C fl_X5_32 rfl kd_91 (wf_lt hw kd_91 rfl) rfl rfl dX5_takes_17 (fun h_3 e_4 => ?_)
    have f := f h_3 e_4
    have hw_5 := wf_si e_4 hw
    refine ab_iconst C (v := (1 : Int32)) dX5_takes_20 (by decide) ?_
    exact ab_zret C dX5_takes_21 rfl ⟨hw_5, _, rfl, f⟩
  · have f := f.2 c_2
    refine ab_iconst C (v := (0 : Int32)) dX5_takes_8 (by decide) ?_
    exact ab_zret C dX5_takes_9 rfl ⟨hw, _, rfl, f⟩
/-! X5_readNumber -/
def rm_X5_readNumber : Room := { frames := 3, cells := 0, slots := 0, locals := 121 }
def wp_X5_readNumber_L4 (Q : hp_T → Prop) : Nat → Int32 → Int32 → hp_T → Prop
  | 0 => fun _ _ _ => False
  | nn + 1 => fun y1 y2 h => (((4 : Int32) ≤ y2 → wp_X5_step y1 h (fun h_2 => (Q h_2))) ∧ (¬ ((4 : Int32) ≤ y2) → wp_X5_ahead h (fun v_4 => wp_X5_isDigit v_4 h (fun v_5 => ((v_5 = 0 → wp_X5_step y1 h (fun h_7 => (Q h_7))) ∧ (¬ (v_5 = 0) → wp_X5_ahead h (fun v_9 => (∀ h_10, h_10 = hp_si h 91 3 ((hp_i h 91 3) + (1 : Int32)) → (wp_X5_readNumber_L4 Q nn) ((((10 : Int32) * y1) + v_9) - (48 : Int32)) (y2 + (1 : Int32)) h_10))))))))
set_option maxRecDepth 100000 in
set_option maxHeartbeats 4000000 in
theorem bt_X5_readNumber_L4 {l : Launch} {G : ab_G} {F : ab_F}  {Q : hp_T → Prop}  (C : ab_C G F rm_X5_readNumber cX5_readNumber 3 RX5 none "readNumber")   : ∀ (nn : Nat) (y1 : Int32) (y2 : Int32) (h : hp_T), wf h → wp_X5_readNumber_L4 Q nn y1 y2 h → ab_W l G F 3 (ab_MQ G F (po_v Q) 0 0) 0 0 h [(0, .ref (G.1 + 91)), (1, .int y1), (2, .int y2)] [] 4 := by
  intro nn
  induction nn with
  | zero =>
    intro y1 y2 h hw f
    exact absurd f id
  | succ nn ih =>
    intro y1 y2 h hw f
    unfold wp_X5_readNumber_L4 at f
    refine ab_iload_n C 2 dX5_readNumber_4 rfl rfl ?_
    refine ab_iconst C (v := (4 : Int32)) dX5_readNumber_5 (by decide) ?_
    refine ab_icmp_ge C (tgt := 48) dX5_readNumber_6 (by decide) (fun c_1 => ?_) (fun c_1 => ?_)
    · have f := f.1 c_1
      refine ab_aload_n C 0 dX5_readNumber_48 rfl rfl ?_
      refine ab_iload_n C 1 dX5_readNumber_49 rfl rfl ?_
      refine ab_callV C (k := 0) (n := 0) (rest := []) [.int y1] cl_X5_60 (mt_X5_step  hw f) rfl (by decide) kd_91 (wf_lt hw kd_91 rfl) ⟨rfl, rfl, Nat.le_of_ble_eq_true rfl, Nat.le_of_ble_eq_true rfl, Nat.zero_le _, Nat.zero_le _⟩ rfl rfl (Nat.le_of_ble_eq_true rfl) dX5_readNumber_50 (ab_kv (k := 0) (n := 0) (fun h_2 hw_3 f => ?_))
      exact ab_vret C dX5_readNumber_53 ⟨hw_3, rfl, f⟩
    · have f := f.2 c_1
      refine ab_aload_n C 0 dX5_readNumber_9 rfl rfl ?_
      refine ab_callV C (k := 0) (n := 0) (rest := []) [] cl_X5_69 (mt_X5_ahead  hw f) rfl (by decide) kd_91 (wf_lt hw kd_91 rfl) ⟨rfl, rfl, Nat.le_of_ble_eq_true rfl, Nat.le_of_ble_eq_true rfl, Nat.zero_le _, Nat.zero_le _⟩ rfl rfl (Nat.le_of_ble_eq_true rfl) dX5_readNumber_10 (ab_kp (k := 0) (n := 0) (fun v_4 f => ?_))
      refine ab_callS C (k := 0) (n := 0) (rest := []) [.int v_4] cl_X5_79 (mt_X5_isDigit  hw f) ⟨rfl, rfl, Nat.le_of_ble_eq_true rfl, Nat.le_of_ble_eq_true rfl, Nat.zero_le _, Nat.zero_le _⟩ rfl rfl (Nat.le_of_ble_eq_true rfl) dX5_readNumber_13 (ab_kp (k := 0) (n := 0) (fun v_5 f => ?_))
      refine ab_if_eq C (tgt := 48) dX5_readNumber_16 (by decide) (fun c_6 => ?_) (fun c_6 => ?_)
      · have f := f.1 c_6
        refine ab_aload_n C 0 dX5_readNumber_48 rfl rfl ?_
        refine ab_iload_n C 1 dX5_readNumber_49 rfl rfl ?_
        refine ab_callV C (k := 0) (n := 0) (rest := []) [.int y1] cl_X5_60 (mt_X5_step  hw f) rfl (by decide) kd_91 (wf_lt hw kd_91 rfl) ⟨rfl, rfl, Nat.le_of_ble_eq_true rfl, Nat.le_of_ble_eq_true rfl, Nat.zero_le _, Nat.zero_le _⟩ rfl rfl (Nat.le_of_ble_eq_true rfl) dX5_readNumber_50 (ab_kv (k := 0) (n := 0) (fun h_7 hw_8 f => ?_))
        exact ab_vret C dX5_readNumber_53 ⟨hw_8, rfl, f⟩
      · have f := f.2 c_6
        refine ab_bipush C (v := (10 : Int32)) dX5_readNumber_19 (by decide) ?_
        refine ab_iload_n C 1 dX5_readNumber_21 rfl rfl ?_
        refine ab_imul C dX5_readNumber_22 ?_
        refine ab_aload_n C 0 dX5_readNumber_23 rfl rfl ?_
        refine ab_callV C (k := 0) (n := 0) (rest := [.int ((10 : Int32) * y1)]) [] cl_X5_69 (mt_X5_ahead  hw f) rfl (by decide) kd_91 (wf_lt hw kd_91 rfl) ⟨rfl, rfl, Nat.le_of_ble_eq_true rfl, Nat.le_of_ble_eq_true rfl, Nat.zero_le _, Nat.zero_le _⟩ rfl rfl (Nat.le_of_ble_eq_true rfl) dX5_readNumber_24 (ab_kp (k := 0) (n := 0) (fun v_9 f => ?_))
        refine ab_iadd C dX5_readNumber_27 ?_
        refine ab_bipush C (v := (48 : Int32)) dX5_readNumber_28 (by decide) ?_
        refine ab_isub C dX5_readNumber_30 ?_
        refine ab_istore_n C (lv' := [(1, .int ((((10 : Int32) * y1) + v_9) - (48 : Int32))), (0, .ref (G.1 + 91)), (2, .int y2)]) dX5_readNumber_31 rfl (by decide) rfl ?_
        refine ab_aload_n C 1 dX5_readNumber_32 rfl rfl ?_
        refine ab_dup C dX5_readNumber_33 rfl ?_
        refine ab_getI C fl_X5_32 rfl kd_91 (wf_lt hw kd_91 rfl) dX5_readNumber_34 ?_
        refine ab_iconst C (v := (1 : Int32)) dX5_readNumber_37 (by decide) ?_
        refine ab_iadd C dX5_readNumber_38 ?_
        refine ab_putI C fl_X5_32 rfl kd_91 (wf_lt hw kd_91 rfl) rfl rfl dX5_readNumber_39 (fun h_10 e_11 => ?_)
        have f := f h_10 e_11
        have hw_12 := wf_si e_11 hw
        refine ab_iinc C (lv' := [(2, .int (y2 + (1 : Int32))), (1, .int ((((10 : Int32) * y1) + v_9) - (48 : Int32))), (0, .ref (G.1 + 91))]) 2 (v := (y2 + (1 : Int32))) dX5_readNumber_42 rfl rfl (by decide) rfl ?_
        refine ab_goto C (tgt := 4) dX5_readNumber_45 (by decide) ?_
        refine ab_sub (lv' := [(0, .ref (G.1 + 91)), (1, .int ((((10 : Int32) * y1) + v_9) - (48 : Int32))), (2, .int (y2 + (1 : Int32)))]) [2, 1, 0] rfl ?_
        exact ih ((((10 : Int32) * y1) + v_9) - (48 : Int32)) (y2 + (1 : Int32)) h_10  hw_12 f
def wp_X5_readNumber (h : hp_T) (Q : hp_T → Prop) : Prop :=
  (∃ n0, wp_X5_readNumber_L4 Q  n0 (0 : Int32) (0 : Int32) h)
set_option maxRecDepth 100000 in
set_option maxHeartbeats 4000000 in
theorem mt_X5_readNumber {l : Launch} {G : ab_G}  {h : hp_T} {Q : hp_T → Prop} (hw : wf h) (f : wp_X5_readNumber h Q) : ab_M l G yX5_readNumber cX5_readNumber 3 none rm_X5_readNumber 0 0 [.ref (G.1 + 91)] h (po_v Q) := by
  refine ab_intro (own := RX5) (nm := "readNumber") rfl rfl rfl (Nat.le_of_ble_eq_true rfl) (fun F C => ?_)
  show ab_W l G F 3 (ab_MQ G F (po_v Q) 0 0) 0 0 h [(0, .ref (G.1 + 91))] [] 0
  unfold wp_X5_readNumber at f
  refine ab_iconst C (v := (0 : Int32)) dX5_readNumber_0 (by decide) ?_
  refine ab_istore_n C (lv' := [(1, .int (0 : Int32)), (0, .ref (G.1 + 91))]) dX5_readNumber_1 rfl (by decide) rfl ?_
  refine ab_iconst C (v := (0 : Int32)) dX5_readNumber_2 (by decide) ?_
  refine ab_istore_n C (lv' := [(2, .int (0 : Int32)), (1, .int (0 : Int32)), (0, .ref (G.1 + 91))]) dX5_readNumber_3 rfl (by decide) rfl ?_
  obtain ⟨n0, f⟩ := f
  refine ab_sub (lv' := [(0, .ref (G.1 + 91)), (1, .int (0 : Int32)), (2, .int (0 : Int32))]) [2, 1, 0] rfl ?_
  exact bt_X5_readNumber_L4 C    n0 (0 : Int32) (0 : Int32) h  hw f
abbrev rt_X5 : Type := (Int32 → hp_T → (hp_T → Prop) → Prop) × (Int32 → hp_T → (hp_T → Prop) → Prop) × (Int32 → hp_T → (hp_T → Prop) → Prop) × (Int32 → hp_T → (hp_T → Prop) → Prop) × (Int32 → hp_T → (hp_T → Prop) → Prop) × (Int32 → hp_T → (hp_T → Prop) → Prop)
def rr_X5 (d : Nat) : Room := { frames := d + 7, cells := 0, slots := 0, locals := 64 * d + 400 }
def ih_X5 (l : Launch) (G : ab_G) (rc : rt_X5) (d : Nat) : Prop := (∀ (x0 : Int32) (h : hp_T) (Q : hp_T → Prop), wf h → rc.1 x0 h Q → ab_M l G yX5_readT cX5_readT 3 none (rr_X5 d) 0 0 [.ref (G.1 + 91), .int x0] h (po_v Q)) ∧ (∀ (x0 : Int32) (h : hp_T) (Q : hp_T → Prop), wf h → rc.2.1 x0 h Q → ab_M l G yX5_readA cX5_readA 3 none (rr_X5 d) 0 0 [.ref (G.1 + 91), .int x0] h (po_v Q)) ∧ (∀ (x0 : Int32) (h : hp_T) (Q : hp_T → Prop), wf h → rc.2.2.1 x0 h Q → ab_M l G yX5_readB cX5_readB 3 none (rr_X5 d) 0 0 [.ref (G.1 + 91), .int x0] h (po_v Q)) ∧ (∀ (x0 : Int32) (h : hp_T) (Q : hp_T → Prop), wf h → rc.2.2.2.1 x0 h Q → ab_M l G yX5_readS cX5_readS 4 none (rr_X5 d) 0 0 [.ref (G.1 + 91), .int x0] h (po_v Q)) ∧ (∀ (x0 : Int32) (h : hp_T) (Q : hp_T → Prop), wf h → rc.2.2.2.2.1 x0 h Q → ab_M l G yX5_readP cX5_readP 4 none (rr_X5 d) 0 0 [.ref (G.1 + 91), .int x0] h (po_v Q)) ∧ (∀ (x0 : Int32) (h : hp_T) (Q : hp_T → Prop), wf h → rc.2.2.2.2.2 x0 h Q → ab_M l G yX5_readQ cX5_readQ 3 none (rr_X5 d) 0 0 [.ref (G.1 + 91), .int x0] h (po_v Q))
/-! X5_readT -/
def wp_X5_readT_L7 (rc : rt_X5) (x1 : Int32) (Q : hp_T → Prop) : Nat → Int32 → hp_T → Prop
  | 0 => fun _ _ => False
  | nn + 1 => fun y2 h => (((hp_i h 91 1) ≤ y2 → (Q h)) ∧ (¬ ((hp_i h 91 1) ≤ y2) → wp_X5_takes (124 : Int32) h (fun v_4 h_5 => ((v_4 = 0 → (Q h_5)) ∧ (¬ (v_4 = 0) → rc.2.1 x1 h_5 (fun h_8 => wp_X5_step (-124 : Int32) h_8 (fun h_10 => (wp_X5_readT_L7 rc x1 Q nn) (y2 + (1 : Int32)) h_10)))))))
set_option maxRecDepth 100000 in
set_option maxHeartbeats 4000000 in
theorem bt_X5_readT_L7 {l : Launch} {G : ab_G} {rc : rt_X5} {d : Nat} {F : ab_F} {x1 : Int32} {Q : hp_T → Prop}  (C : ab_C G F (rr_X5 (d + 1)) cX5_readT 3 RX5 none "readT") (ih0 : ih_X5 l G rc d)   : ∀ (nn : Nat) (y2 : Int32) (h : hp_T), wf h → wp_X5_readT_L7 rc x1 Q nn y2 h → ab_W l G F 3 (ab_MQ G F (po_v Q) 0 0) 0 0 h [(0, .ref (G.1 + 91)), (1, .int x1), (2, .int y2)] [] 7 := by
  intro nn
  induction nn with
  | zero =>
    intro y2 h hw f
    exact absurd f id
  | succ nn ih =>
    intro y2 h hw f
    unfold wp_X5_readT_L7 at f
    refine ab_iload_n C 2 dX5_readT_7 rfl rfl ?_
    refine ab_aload_n C 0 dX5_readT_8 rfl rfl ?_
    refine ab_getI C fl_X5_25 rfl kd_91 (wf_lt hw kd_91 rfl) dX5_readT_9 ?_
    refine ab_icmp_ge C (tgt := 41) dX5_readT_12 (by decide) (fun c_3 => ?_) (fun c_3 => ?_)
    · have f := f.1 c_3
      exact ab_vret C dX5_readT_41 ⟨hw, rfl, f⟩
    · have f := f.2 c_3
      refine ab_aload_n C 0 dX5_readT_15 rfl rfl ?_
      refine ab_bipush C (v := (124 : Int32)) dX5_readT_16 (by decide) ?_
      refine ab_callV C (k := 0) (n := 0) (rest := []) [.int (124 : Int32)] cl_X5_56 (mt_X5_takes  hw f) rfl (by decide) kd_91 (wf_lt hw kd_91 rfl) ⟨rfl, rfl, Nat.le_trans (Nat.le_of_ble_eq_true rfl) (Nat.le_add_left 7 (d + 1)), Nat.le_trans (Nat.le_of_ble_eq_true rfl) (Nat.le_add_left 400 (64 * (d + 1))), Nat.zero_le _, Nat.zero_le _⟩ rfl rfl (Nat.le_of_ble_eq_true rfl) dX5_readT_18 (ab_kh (k := 0) (n := 0) (fun v_4 h_5 hw_6 f => ?_))
      refine ab_if_eq C (tgt := 41) dX5_readT_21 (by decide) (fun c_7 => ?_) (fun c_7 => ?_)
      · have f := f.1 c_7
        exact ab_vret C dX5_readT_41 ⟨hw_6, rfl, f⟩
      · have f := f.2 c_7
        refine ab_aload_n C 0 dX5_readT_24 rfl rfl ?_
        refine ab_iload_n C 1 dX5_readT_25 rfl rfl ?_
        refine ab_callV C (k := 0) (n := 0) (rest := []) [.int x1] cl_X5_53 (ih0.2.1 x1 h_5 _ hw_6 f) rfl (by decide) kd_91 (wf_lt hw_6 kd_91 rfl) ⟨rfl, rfl, Nat.le_of_eq (Nat.add_right_comm d 7 1), (by show 8 + (3 + 11) + (64 * d + 400) ≤ 64 * (d + 1) + 400; omega), Nat.zero_le _, Nat.zero_le _⟩ rfl rfl (Nat.le_of_ble_eq_true rfl) dX5_readT_26 (ab_kv (k := 0) (n := 0) (fun h_8 hw_9 f => ?_))
        refine ab_aload_n C 0 dX5_readT_29 rfl rfl ?_
        refine ab_bipush C (v := (-124 : Int32)) dX5_readT_30 (by decide) ?_
        refine ab_callV C (k := 0) (n := 0) (rest := []) [.int (-124 : Int32)] cl_X5_60 (mt_X5_step  hw_9 f) rfl (by decide) kd_91 (wf_lt hw_9 kd_91 rfl) ⟨rfl, rfl, Nat.le_trans (Nat.le_of_ble_eq_true rfl) (Nat.le_add_left 7 (d + 1)), Nat.le_trans (Nat.le_of_ble_eq_true rfl) (Nat.le_add_left 400 (64 * (d + 1))), Nat.zero_le _, Nat.zero_le _⟩ rfl rfl (Nat.le_of_ble_eq_true rfl) dX5_readT_32 (ab_kv (k := 0) (n := 0) (fun h_10 hw_11 f => ?_))
        refine ab_iinc C (lv' := [(2, .int (y2 + (1 : Int32))), (0, .ref (G.1 + 91)), (1, .int x1)]) 2 (v := (y2 + (1 : Int32))) dX5_readT_35 rfl rfl (by decide) rfl ?_
        refine ab_goto C (tgt := 7) dX5_readT_38 (by decide) ?_
        refine ab_sub (lv' := [(0, .ref (G.1 + 91)), (1, .int x1), (2, .int (y2 + (1 : Int32)))]) [1, 2, 0] rfl ?_
        exact ih (y2 + (1 : Int32)) h_10  hw_11 f
def wp_X5_readT (rc : rt_X5) (x1 : Int32) (h : hp_T) (Q : hp_T → Prop) : Prop :=
  rc.2.1 x1 h (fun h_1 => (∃ n0, wp_X5_readT_L7 rc x1 Q  n0 (0 : Int32) h_1))
set_option maxRecDepth 100000 in
set_option maxHeartbeats 4000000 in
theorem mt_X5_readT {l : Launch} {G : ab_G} {rc : rt_X5} {d : Nat} {x1 : Int32} {h : hp_T} {Q : hp_T → Prop} (ih0 : ih_X5 l G rc d) (hw : wf h) (f : wp_X5_readT rc x1 h Q) : ab_M l G yX5_readT cX5_readT 3 none (rr_X5 (d + 1)) 0 0 [.ref (G.1 + 91), .int x1] h (po_v Q) := by
  refine ab_intro (own := RX5) (nm := "readT") rfl rfl rfl (Nat.le_of_ble_eq_true rfl) (fun F C => ?_)
  show ab_W l G F 3 (ab_MQ G F (po_v Q) 0 0) 0 0 h [(0, .ref (G.1 + 91)), (1, .int x1)] [] 0
  unfold wp_X5_readT at f
  refine ab_aload_n C 0 dX5_readT_0 rfl rfl ?_
  refine ab_iload_n C 1 dX5_readT_1 rfl rfl ?_
  refine ab_callV C (k := 0) (n := 0) (rest := []) [.int x1] cl_X5_53 (ih0.2.1 x1 h _ hw f) rfl (by decide) kd_91 (wf_lt hw kd_91 rfl) ⟨rfl, rfl, Nat.le_of_eq (Nat.add_right_comm d 7 1), (by show 8 + (3 + 11) + (64 * d + 400) ≤ 64 * (d + 1) + 400; omega), Nat.zero_le _, Nat.zero_le _⟩ rfl rfl (Nat.le_of_ble_eq_true rfl) dX5_readT_2 (ab_kv (k := 0) (n := 0) (fun h_1 hw_2 f => ?_))
  refine ab_iconst C (v := (0 : Int32)) dX5_readT_5 (by decide) ?_
  refine ab_istore_n C (lv' := [(2, .int (0 : Int32)), (0, .ref (G.1 + 91)), (1, .int x1)]) dX5_readT_6 rfl (by decide) rfl ?_
  obtain ⟨n0, f⟩ := f
  refine ab_sub (lv' := [(0, .ref (G.1 + 91)), (1, .int x1), (2, .int (0 : Int32))]) [1, 2, 0] rfl ?_
  exact bt_X5_readT_L7 C ih0    n0 (0 : Int32) h_1  hw_2 f
/-! X5_readA -/
def wp_X5_readA_L7 (rc : rt_X5) (x1 : Int32) (Q : hp_T → Prop) : Nat → Int32 → hp_T → Prop
  | 0 => fun _ _ => False
  | nn + 1 => fun y2 h => (((hp_i h 91 1) ≤ y2 → (Q h)) ∧ (¬ ((hp_i h 91 1) ≤ y2) → wp_X5_takes (38 : Int32) h (fun v_4 h_5 => ((v_4 = 0 → (Q h_5)) ∧ (¬ (v_4 = 0) → rc.2.2.1 x1 h_5 (fun h_8 => wp_X5_step (-38 : Int32) h_8 (fun h_10 => (wp_X5_readA_L7 rc x1 Q nn) (y2 + (1 : Int32)) h_10)))))))
set_option maxRecDepth 100000 in
set_option maxHeartbeats 4000000 in
theorem bt_X5_readA_L7 {l : Launch} {G : ab_G} {rc : rt_X5} {d : Nat} {F : ab_F} {x1 : Int32} {Q : hp_T → Prop}  (C : ab_C G F (rr_X5 (d + 1)) cX5_readA 3 RX5 none "readA") (ih0 : ih_X5 l G rc d)   : ∀ (nn : Nat) (y2 : Int32) (h : hp_T), wf h → wp_X5_readA_L7 rc x1 Q nn y2 h → ab_W l G F 3 (ab_MQ G F (po_v Q) 0 0) 0 0 h [(0, .ref (G.1 + 91)), (1, .int x1), (2, .int y2)] [] 7 := by
  intro nn
  induction nn with
  | zero =>
    intro y2 h hw f
    exact absurd f id
  | succ nn ih =>
    intro y2 h hw f
    unfold wp_X5_readA_L7 at f
    refine ab_iload_n C 2 dX5_readA_7 rfl rfl ?_
    refine ab_aload_n C 0 dX5_readA_8 rfl rfl ?_
    refine ab_getI C fl_X5_25 rfl kd_91 (wf_lt hw kd_91 rfl) dX5_readA_9 ?_
    refine ab_icmp_ge C (tgt := 41) dX5_readA_12 (by decide) (fun c_3 => ?_) (fun c_3 => ?_)
    · have f := f.1 c_3
      exact ab_vret C dX5_readA_41 ⟨hw, rfl, f⟩
    · have f := f.2 c_3
      refine ab_aload_n C 0 dX5_readA_15 rfl rfl ?_
      refine ab_bipush C (v := (38 : Int32)) dX5_readA_16 (by decide) ?_
      refine ab_callV C (k := 0) (n := 0) (rest := []) [.int (38 : Int32)] cl_X5_56 (mt_X5_takes  hw f) rfl (by decide) kd_91 (wf_lt hw kd_91 rfl) ⟨rfl, rfl, Nat.le_trans (Nat.le_of_ble_eq_true rfl) (Nat.le_add_left 7 (d + 1)), Nat.le_trans (Nat.le_of_ble_eq_true rfl) (Nat.le_add_left 400 (64 * (d + 1))), Nat.zero_le _, Nat.zero_le _⟩ rfl rfl (Nat.le_of_ble_eq_true rfl) dX5_readA_18 (ab_kh (k := 0) (n := 0) (fun v_4 h_5 hw_6 f => ?_))
      refine ab_if_eq C (tgt := 41) dX5_readA_21 (by decide) (fun c_7 => ?_) (fun c_7 => ?_)
      · have f := f.1 c_7
        exact ab_vret C dX5_readA_41 ⟨hw_6, rfl, f⟩
      · have f := f.2 c_7
        refine ab_aload_n C 0 dX5_readA_24 rfl rfl ?_
        refine ab_iload_n C 1 dX5_readA_25 rfl rfl ?_
        refine ab_callV C (k := 0) (n := 0) (rest := []) [.int x1] cl_X5_63 (ih0.2.2.1 x1 h_5 _ hw_6 f) rfl (by decide) kd_91 (wf_lt hw_6 kd_91 rfl) ⟨rfl, rfl, Nat.le_of_eq (Nat.add_right_comm d 7 1), (by show 8 + (3 + 11) + (64 * d + 400) ≤ 64 * (d + 1) + 400; omega), Nat.zero_le _, Nat.zero_le _⟩ rfl rfl (Nat.le_of_ble_eq_true rfl) dX5_readA_26 (ab_kv (k := 0) (n := 0) (fun h_8 hw_9 f => ?_))
        refine ab_aload_n C 0 dX5_readA_29 rfl rfl ?_
        refine ab_bipush C (v := (-38 : Int32)) dX5_readA_30 (by decide) ?_
        refine ab_callV C (k := 0) (n := 0) (rest := []) [.int (-38 : Int32)] cl_X5_60 (mt_X5_step  hw_9 f) rfl (by decide) kd_91 (wf_lt hw_9 kd_91 rfl) ⟨rfl, rfl, Nat.le_trans (Nat.le_of_ble_eq_true rfl) (Nat.le_add_left 7 (d + 1)), Nat.le_trans (Nat.le_of_ble_eq_true rfl) (Nat.le_add_left 400 (64 * (d + 1))), Nat.zero_le _, Nat.zero_le _⟩ rfl rfl (Nat.le_of_ble_eq_true rfl) dX5_readA_32 (ab_kv (k := 0) (n := 0) (fun h_10 hw_11 f => ?_))
        refine ab_iinc C (lv' := [(2, .int (y2 + (1 : Int32))), (0, .ref (G.1 + 91)), (1, .int x1)]) 2 (v := (y2 + (1 : Int32))) dX5_readA_35 rfl rfl (by decide) rfl ?_
        refine ab_goto C (tgt := 7) dX5_readA_38 (by decide) ?_
        refine ab_sub (lv' := [(0, .ref (G.1 + 91)), (1, .int x1), (2, .int (y2 + (1 : Int32)))]) [1, 2, 0] rfl ?_
        exact ih (y2 + (1 : Int32)) h_10  hw_11 f
def wp_X5_readA (rc : rt_X5) (x1 : Int32) (h : hp_T) (Q : hp_T → Prop) : Prop :=
  rc.2.2.1 x1 h (fun h_1 => (∃ n0, wp_X5_readA_L7 rc x1 Q  n0 (0 : Int32) h_1))
set_option maxRecDepth 100000 in
set_option maxHeartbeats 4000000 in
theorem mt_X5_readA {l : Launch} {G : ab_G} {rc : rt_X5} {d : Nat} {x1 : Int32} {h : hp_T} {Q : hp_T → Prop} (ih0 : ih_X5 l G rc d) (hw : wf h) (f : wp_X5_readA rc x1 h Q) : ab_M l G yX5_readA cX5_readA 3 none (rr_X5 (d + 1)) 0 0 [.ref (G.1 + 91), .int x1] h (po_v Q) := by
  refine ab_intro (own := RX5) (nm := "readA") rfl rfl rfl (Nat.le_of_ble_eq_true rfl) (fun F C => ?_)
  show ab_W l G F 3 (ab_MQ G F (po_v Q) 0 0) 0 0 h [(0, .ref (G.1 + 91)), (1, .int x1)] [] 0
  unfold wp_X5_readA at f
  refine ab_aload_n C 0 dX5_readA_0 rfl rfl ?_
  refine ab_iload_n C 1 dX5_readA_1 rfl rfl ?_
  refine ab_callV C (k := 0) (n := 0) (rest := []) [.int x1] cl_X5_63 (ih0.2.2.1 x1 h _ hw f) rfl (by decide) kd_91 (wf_lt hw kd_91 rfl) ⟨rfl, rfl, Nat.le_of_eq (Nat.add_right_comm d 7 1), (by show 8 + (3 + 11) + (64 * d + 400) ≤ 64 * (d + 1) + 400; omega), Nat.zero_le _, Nat.zero_le _⟩ rfl rfl (Nat.le_of_ble_eq_true rfl) dX5_readA_2 (ab_kv (k := 0) (n := 0) (fun h_1 hw_2 f => ?_))
  refine ab_iconst C (v := (0 : Int32)) dX5_readA_5 (by decide) ?_
  refine ab_istore_n C (lv' := [(2, .int (0 : Int32)), (0, .ref (G.1 + 91)), (1, .int x1)]) dX5_readA_6 rfl (by decide) rfl ?_
  obtain ⟨n0, f⟩ := f
  refine ab_sub (lv' := [(0, .ref (G.1 + 91)), (1, .int x1), (2, .int (0 : Int32))]) [1, 2, 0] rfl ?_
  exact bt_X5_readA_L7 C ih0    n0 (0 : Int32) h_1  hw_2 f
/-! X5_readB -/
def wp_X5_readB (rc : rt_X5) (x1 : Int32) (h : hp_T) (Q : hp_T → Prop) : Prop :=
  rc.2.2.2.1 x1 h (fun h_1 => wp_X5_ahead h_1 (fun v_3 => ((v_3 = (60 : Int32) → (∀ h_5, h_5 = hp_si h_1 91 3 ((hp_i h_1 91 3) + (1 : Int32)) → rc.2.2.2.1 x1 h_5 (fun h_8 => wp_X5_step (-v_3) h_8 (fun h_10 => (Q h_10))))) ∧ (¬ (v_3 = (60 : Int32)) → ((v_3 = (61 : Int32) → (∀ h_13, h_13 = hp_si h_1 91 3 ((hp_i h_1 91 3) + (1 : Int32)) → rc.2.2.2.1 x1 h_13 (fun h_16 => wp_X5_step (-v_3) h_16 (fun h_18 => (Q h_18))))) ∧ (¬ (v_3 = (61 : Int32)) → ((v_3 = (62 : Int32) → (∀ h_21, h_21 = hp_si h_1 91 3 ((hp_i h_1 91 3) + (1 : Int32)) → rc.2.2.2.1 x1 h_21 (fun h_24 => wp_X5_step (-v_3) h_24 (fun h_26 => (Q h_26))))) ∧ (¬ (v_3 = (62 : Int32)) → (Q h_1)))))))))
set_option maxRecDepth 100000 in
set_option maxHeartbeats 4000000 in
theorem mt_X5_readB {l : Launch} {G : ab_G} {rc : rt_X5} {d : Nat} {x1 : Int32} {h : hp_T} {Q : hp_T → Prop} (ih0 : ih_X5 l G rc d) (hw : wf h) (f : wp_X5_readB rc x1 h Q) : ab_M l G yX5_readB cX5_readB 3 none (rr_X5 (d + 1)) 0 0 [.ref (G.1 + 91), .int x1] h (po_v Q) := by
  refine ab_intro (own := RX5) (nm := "readB") rfl rfl rfl (Nat.le_of_ble_eq_true rfl) (fun F C => ?_)
  show ab_W l G F 3 (ab_MQ G F (po_v Q) 0 0) 0 0 h [(0, .ref (G.1 + 91)), (1, .int x1)] [] 0
  unfold wp_X5_readB at f
  refine ab_aload_n C 0 dX5_readB_0 rfl rfl ?_
  refine ab_iload_n C 1 dX5_readB_1 rfl rfl ?_
  refine ab_callV C (k := 0) (n := 0) (rest := []) [.int x1] cl_X5_66 (ih0.2.2.2.1 x1 h _ hw f) rfl (by decide) kd_91 (wf_lt hw kd_91 rfl) ⟨rfl, rfl, Nat.le_of_eq (Nat.add_right_comm d 7 1), (by show 8 + (4 + 11) + (64 * d + 400) ≤ 64 * (d + 1) + 400; omega), Nat.zero_le _, Nat.zero_le _⟩ rfl rfl (Nat.le_of_ble_eq_true rfl) dX5_readB_2 (ab_kv (k := 0) (n := 0) (fun h_1 hw_2 f => ?_))
  refine ab_aload_n C 0 dX5_readB_5 rfl rfl ?_
  refine ab_callV C (k := 0) (n := 0) (rest := []) [] cl_X5_69 (mt_X5_ahead  hw_2 f) rfl (by decide) kd_91 (wf_lt hw_2 kd_91 rfl) ⟨rfl, rfl, Nat.le_trans (Nat.le_of_ble_eq_true rfl) (Nat.le_add_left 7 (d + 1)), Nat.le_trans (Nat.le_of_ble_eq_true rfl) (Nat.le_add_left 400 (64 * (d + 1))), Nat.zero_le _, Nat.zero_le _⟩ rfl rfl (Nat.le_of_ble_eq_true rfl) dX5_readB_6 (ab_kp (k := 0) (n := 0) (fun v_3 f => ?_))
  refine ab_istore_n C (lv' := [(2, .int v_3), (0, .ref (G.1 + 91)), (1, .int x1)]) dX5_readB_9 rfl (by decide) rfl ?_
  refine ab_iload_n C 0 dX5_readB_10 rfl rfl ?_
  refine ab_bipush C (v := (60 : Int32)) dX5_readB_11 (by decide) ?_
  refine ab_icmp_eq C (tgt := 28) dX5_readB_13 (by decide) (fun c_4 => ?_) (fun c_4 => ?_)
  · have f := f.1 c_4
    refine ab_aload_n C 1 dX5_readB_28 rfl rfl ?_
    refine ab_dup C dX5_readB_29 rfl ?_
    refine ab_getI C fl_X5_32 rfl kd_91 (wf_lt hw_2 kd_91 rfl) dX5_readB_30 ?_
    refine ab_iconst C (v := (1 : Int32)) dX5_readB_33 (by decide) ?_
    refine ab_iadd C dX5_readB_34 ?_
    refine ab_putI C fl_X5_32 rfl kd_91 (wf_lt hw_2 kd_91 rfl) rfl rfl dX5_readB_35 (fun h_5 e_6 => ?_)
    have f := f h_5 e_6
    have hw_7 := wf_si e_6 hw_2
    refine ab_aload_n C 1 dX5_readB_38 rfl rfl ?_
    refine ab_iload_n C 2 dX5_readB_39 rfl rfl ?_
    refine ab_callV C (k := 0) (n := 0) (rest := []) [.int x1] cl_X5_66 (ih0.2.2.2.1 x1 h_5 _ hw_7 f) rfl (by decide) kd_91 (wf_lt hw_7 kd_91 rfl) ⟨rfl, rfl, Nat.le_of_eq (Nat.add_right_comm d 7 1), (by show 8 + (4 + 11) + (64 * d + 400) ≤ 64 * (d + 1) + 400; omega), Nat.zero_le _, Nat.zero_le _⟩ rfl rfl (Nat.le_of_ble_eq_true rfl) dX5_readB_40 (ab_kv (k := 0) (n := 0) (fun h_8 hw_9 f => ?_))
    refine ab_aload_n C 1 dX5_readB_43 rfl rfl ?_
    refine ab_iload_n C 0 dX5_readB_44 rfl rfl ?_
    refine ab_ineg C dX5_readB_45 ?_
    refine ab_callV C (k := 0) (n := 0) (rest := []) [.int (-v_3)] cl_X5_60 (mt_X5_step  hw_9 f) rfl (by decide) kd_91 (wf_lt hw_9 kd_91 rfl) ⟨rfl, rfl, Nat.le_trans (Nat.le_of_ble_eq_true rfl) (Nat.le_add_left 7 (d + 1)), Nat.le_trans (Nat.le_of_ble_eq_true rfl) (Nat.le_add_left 400 (64 * (d + 1))), Nat.zero_le _, Nat.zero_le _⟩ rfl rfl (Nat.le_of_ble_eq_true rfl) dX5_readB_46 (ab_kv (k := 0) (n := 0) (fun h_10 hw_11 f => ?_))
    exact ab_vret C dX5_readB_49 ⟨hw_11, rfl, f⟩
  · have f := f.2 c_4
    refine ab_iload_n C 0 dX5_readB_16 rfl rfl ?_
    refine ab_bipush C (v := (61 : Int32)) dX5_readB_17 (by decide) ?_
    refine ab_icmp_eq C (tgt := 28) dX5_readB_19 (by decide) (fun c_12 => ?_) (fun c_12 => ?_)
    · have f := f.1 c_12
      refine ab_aload_n C 1 dX5_readB_28 rfl rfl ?_
      refine ab_dup C dX5_readB_29 rfl ?_
      refine ab_getI C fl_X5_32 rfl kd_91 (wf_lt hw_2 kd_91 rfl) dX5_readB_30 ?_
      refine ab_iconst C (v := (1 : Int32)) dX5_readB_33 (by decide) ?_
      refine ab_iadd C dX5_readB_34 ?_
      refine ab_putI C fl_X5_32 rfl kd_91 (wf_lt hw_2 kd_91 rfl) rfl rfl dX5_readB_35 (fun h_13 e_14 => ?_)
      have f := f h_13 e_14
      have hw_15 := wf_si e_14 hw_2
      refine ab_aload_n C 1 dX5_readB_38 rfl rfl ?_
      refine ab_iload_n C 2 dX5_readB_39 rfl rfl ?_
      refine ab_callV C (k := 0) (n := 0) (rest := []) [.int x1] cl_X5_66 (ih0.2.2.2.1 x1 h_13 _ hw_15 f) rfl (by decide) kd_91 (wf_lt hw_15 kd_91 rfl) ⟨rfl, rfl, Nat.le_of_eq (Nat.add_right_comm d 7 1), (by show 8 + (4 + 11) + (64 * d + 400) ≤ 64 * (d + 1) + 400; omega), Nat.zero_le _, Nat.zero_le _⟩ rfl rfl (Nat.le_of_ble_eq_true rfl) dX5_readB_40 (ab_kv (k := 0) (n := 0) (fun h_16 hw_17 f => ?_))
      refine ab_aload_n C 1 dX5_readB_43 rfl rfl ?_
      refine ab_iload_n C 0 dX5_readB_44 rfl rfl ?_
      refine ab_ineg C dX5_readB_45 ?_
      refine ab_callV C (k := 0) (n := 0) (rest := []) [.int (-v_3)] cl_X5_60 (mt_X5_step  hw_17 f) rfl (by decide) kd_91 (wf_lt hw_17 kd_91 rfl) ⟨rfl, rfl, Nat.le_trans (Nat.le_of_ble_eq_true rfl) (Nat.le_add_left 7 (d + 1)), Nat.le_trans (Nat.le_of_ble_eq_true rfl) (Nat.le_add_left 400 (64 * (d + 1))), Nat.zero_le _, Nat.zero_le _⟩ rfl rfl (Nat.le_of_ble_eq_true rfl) dX5_readB_46 (ab_kv (k := 0) (n := 0) (fun h_18 hw_19 f => ?_))
      exact ab_vret C dX5_readB_49 ⟨hw_19, rfl, f⟩
    · have f := f.2 c_12
      refine ab_iload_n C 0 dX5_readB_22 rfl rfl ?_
      refine ab_bipush C (v := (62 : Int32)) dX5_readB_23 (by decide) ?_
      refine ab_icmp_ne C (tgt := 49) dX5_readB_25 (by decide) (fun c_20 => ?_) (fun c_20 => ?_)
      · have f := f.2 c_20
        exact ab_vret C dX5_readB_49 ⟨hw_2, rfl, f⟩
      · have f := f.1 c_20
        refine ab_aload_n C 1 dX5_readB_28 rfl rfl ?_
        refine ab_dup C dX5_readB_29 rfl ?_
        refine ab_getI C fl_X5_32 rfl kd_91 (wf_lt hw_2 kd_91 rfl) dX5_readB_30 ?_
        refine ab_iconst C (v := (1 : Int32)) dX5_readB_33 (by decide) ?_
        refine ab_iadd C dX5_readB_34 ?_
        refine ab_putI C fl_X5_32 rfl kd_91 (wf_lt hw_2 kd_91 rfl) rfl rfl dX5_readB_35 (fun h_21 e_22 => ?_)
        have f := f h_21 e_22
        have hw_23 := wf_si e_22 hw_2
        refine ab_aload_n C 1 dX5_readB_38 rfl rfl ?_
        refine ab_iload_n C 2 dX5_readB_39 rfl rfl ?_
        refine ab_callV C (k := 0) (n := 0) (rest := []) [.int x1] cl_X5_66 (ih0.2.2.2.1 x1 h_21 _ hw_23 f) rfl (by decide) kd_91 (wf_lt hw_23 kd_91 rfl) ⟨rfl, rfl, Nat.le_of_eq (Nat.add_right_comm d 7 1), (by show 8 + (4 + 11) + (64 * d + 400) ≤ 64 * (d + 1) + 400; omega), Nat.zero_le _, Nat.zero_le _⟩ rfl rfl (Nat.le_of_ble_eq_true rfl) dX5_readB_40 (ab_kv (k := 0) (n := 0) (fun h_24 hw_25 f => ?_))
        refine ab_aload_n C 1 dX5_readB_43 rfl rfl ?_
        refine ab_iload_n C 0 dX5_readB_44 rfl rfl ?_
        refine ab_ineg C dX5_readB_45 ?_
        refine ab_callV C (k := 0) (n := 0) (rest := []) [.int (-v_3)] cl_X5_60 (mt_X5_step  hw_25 f) rfl (by decide) kd_91 (wf_lt hw_25 kd_91 rfl) ⟨rfl, rfl, Nat.le_trans (Nat.le_of_ble_eq_true rfl) (Nat.le_add_left 7 (d + 1)), Nat.le_trans (Nat.le_of_ble_eq_true rfl) (Nat.le_add_left 400 (64 * (d + 1))), Nat.zero_le _, Nat.zero_le _⟩ rfl rfl (Nat.le_of_ble_eq_true rfl) dX5_readB_46 (ab_kv (k := 0) (n := 0) (fun h_26 hw_27 f => ?_))
        exact ab_vret C dX5_readB_49 ⟨hw_27, rfl, f⟩
/-! X5_readS -/
def wp_X5_readS_L7 (rc : rt_X5) (x1 : Int32) (Q : hp_T → Prop) : Nat → Int32 → hp_T → Prop
  | 0 => fun _ _ => False
  | nn + 1 => fun y2 h => (((hp_i h 91 1) ≤ y2 → (Q h)) ∧ (¬ ((hp_i h 91 1) ≤ y2) → wp_X5_ahead h (fun v_4 => ((v_4 = (43 : Int32) → wp_X5_ahead h (fun v_6 => (∀ h_7, h_7 = hp_si h 91 3 ((hp_i h 91 3) + (1 : Int32)) → rc.2.2.2.2.1 x1 h_7 (fun h_10 => wp_X5_step (-v_6) h_10 (fun h_12 => (wp_X5_readS_L7 rc x1 Q nn) (y2 + (1 : Int32)) h_12))))) ∧ (¬ (v_4 = (43 : Int32)) → wp_X5_ahead h (fun v_14 => ((v_14 = (45 : Int32) → wp_X5_ahead h (fun v_16 => (∀ h_17, h_17 = hp_si h 91 3 ((hp_i h 91 3) + (1 : Int32)) → rc.2.2.2.2.1 x1 h_17 (fun h_20 => wp_X5_step (-v_16) h_20 (fun h_22 => (wp_X5_readS_L7 rc x1 Q nn) (y2 + (1 : Int32)) h_22))))) ∧ (¬ (v_14 = (45 : Int32)) → (Q h)))))))))
set_option maxRecDepth 100000 in
set_option maxHeartbeats 4000000 in
theorem bt_X5_readS_L7 {l : Launch} {G : ab_G} {rc : rt_X5} {d : Nat} {F : ab_F} {x1 : Int32} {Q : hp_T → Prop}  (C : ab_C G F (rr_X5 (d + 1)) cX5_readS 4 RX5 none "readS") (ih0 : ih_X5 l G rc d)   : ∀ (nn : Nat) (y2 : Int32) (h : hp_T), wf h → wp_X5_readS_L7 rc x1 Q nn y2 h → ab_W l G F 4 (ab_MQ G F (po_v Q) 0 0) 0 0 h [(0, .ref (G.1 + 91)), (1, .int x1), (2, .int y2)] [] 7 := by
  intro nn
  induction nn with
  | zero =>
    intro y2 h hw f
    exact absurd f id
  | succ nn ih =>
    intro y2 h hw f
    unfold wp_X5_readS_L7 at f
    refine ab_iload_n C 2 dX5_readS_7 rfl rfl ?_
    refine ab_aload_n C 0 dX5_readS_8 rfl rfl ?_
    refine ab_getI C fl_X5_25 rfl kd_91 (wf_lt hw kd_91 rfl) dX5_readS_9 ?_
    refine ab_icmp_ge C (tgt := 65) dX5_readS_12 (by decide) (fun c_3 => ?_) (fun c_3 => ?_)
    · have f := f.1 c_3
      exact ab_vret C dX5_readS_65 ⟨hw, rfl, f⟩
    · have f := f.2 c_3
      refine ab_aload_n C 0 dX5_readS_15 rfl rfl ?_
      refine ab_callV C (k := 0) (n := 0) (rest := []) [] cl_X5_69 (mt_X5_ahead  hw f) rfl (by decide) kd_91 (wf_lt hw kd_91 rfl) ⟨rfl, rfl, Nat.le_trans (Nat.le_of_ble_eq_true rfl) (Nat.le_add_left 7 (d + 1)), Nat.le_trans (Nat.le_of_ble_eq_true rfl) (Nat.le_add_left 400 (64 * (d + 1))), Nat.zero_le _, Nat.zero_le _⟩ rfl rfl (Nat.le_of_ble_eq_true rfl) dX5_readS_16 (ab_kp (k := 0) (n := 0) (fun v_4 f => ?_))
      refine ab_bipush C (v := (43 : Int32)) dX5_readS_19 (by decide) ?_
      refine ab_icmp_eq C (tgt := 33) dX5_readS_21 (by decide) (fun c_5 => ?_) (fun c_5 => ?_)
      · have f := f.1 c_5
        refine ab_aload_n C 0 dX5_readS_33 rfl rfl ?_
        refine ab_callV C (k := 0) (n := 0) (rest := []) [] cl_X5_69 (mt_X5_ahead  hw f) rfl (by decide) kd_91 (wf_lt hw kd_91 rfl) ⟨rfl, rfl, Nat.le_trans (Nat.le_of_ble_eq_true rfl) (Nat.le_add_left 7 (d + 1)), Nat.le_trans (Nat.le_of_ble_eq_true rfl) (Nat.le_add_left 400 (64 * (d + 1))), Nat.zero_le _, Nat.zero_le _⟩ rfl rfl (Nat.le_of_ble_eq_true rfl) dX5_readS_34 (ab_kp (k := 0) (n := 0) (fun v_6 f => ?_))
        refine ab_istore_n C (lv' := [(3, .int v_6), (0, .ref (G.1 + 91)), (1, .int x1), (2, .int y2)]) dX5_readS_37 rfl (by decide) rfl ?_
        refine ab_aload_n C 1 dX5_readS_38 rfl rfl ?_
        refine ab_dup C dX5_readS_39 rfl ?_
        refine ab_getI C fl_X5_32 rfl kd_91 (wf_lt hw kd_91 rfl) dX5_readS_40 ?_
        refine ab_iconst C (v := (1 : Int32)) dX5_readS_43 (by decide) ?_
        refine ab_iadd C dX5_readS_44 ?_
        refine ab_putI C fl_X5_32 rfl kd_91 (wf_lt hw kd_91 rfl) rfl rfl dX5_readS_45 (fun h_7 e_8 => ?_)
        have f := f h_7 e_8
        have hw_9 := wf_si e_8 hw
        refine ab_aload_n C 1 dX5_readS_48 rfl rfl ?_
        refine ab_iload_n C 2 dX5_readS_49 rfl rfl ?_
        refine ab_callV C (k := 0) (n := 0) (rest := []) [.int x1] cl_X5_73 (ih0.2.2.2.2.1 x1 h_7 _ hw_9 f) rfl (by decide) kd_91 (wf_lt hw_9 kd_91 rfl) ⟨rfl, rfl, Nat.le_of_eq (Nat.add_right_comm d 7 1), (by show 8 + (4 + 11) + (64 * d + 400) ≤ 64 * (d + 1) + 400; omega), Nat.zero_le _, Nat.zero_le _⟩ rfl rfl (Nat.le_of_ble_eq_true rfl) dX5_readS_50 (ab_kv (k := 0) (n := 0) (fun h_10 hw_11 f => ?_))
        refine ab_aload_n C 1 dX5_readS_53 rfl rfl ?_
        refine ab_iload_n C 0 dX5_readS_54 rfl rfl ?_
        refine ab_ineg C dX5_readS_55 ?_
        refine ab_callV C (k := 0) (n := 0) (rest := []) [.int (-v_6)] cl_X5_60 (mt_X5_step  hw_11 f) rfl (by decide) kd_91 (wf_lt hw_11 kd_91 rfl) ⟨rfl, rfl, Nat.le_trans (Nat.le_of_ble_eq_true rfl) (Nat.le_add_left 7 (d + 1)), Nat.le_trans (Nat.le_of_ble_eq_true rfl) (Nat.le_add_left 400 (64 * (d + 1))), Nat.zero_le _, Nat.zero_le _⟩ rfl rfl (Nat.le_of_ble_eq_true rfl) dX5_readS_56 (ab_kv (k := 0) (n := 0) (fun h_12 hw_13 f => ?_))
        refine ab_iinc C (lv' := [(2, .int (y2 + (1 : Int32))), (3, .int v_6), (0, .ref (G.1 + 91)), (1, .int x1)]) 3 (v := (y2 + (1 : Int32))) dX5_readS_59 rfl rfl (by decide) rfl ?_
        refine ab_goto C (tgt := 7) dX5_readS_62 (by decide) ?_
        refine ab_sub (lv' := [(0, .ref (G.1 + 91)), (1, .int x1), (2, .int (y2 + (1 : Int32)))]) [2, 3, 0] rfl ?_
        exact ih (y2 + (1 : Int32)) h_12  hw_13 f
      · have f := f.2 c_5
        refine ab_aload_n C 0 dX5_readS_24 rfl rfl ?_
        refine ab_callV C (k := 0) (n := 0) (rest := []) [] cl_X5_69 (mt_X5_ahead  hw f) rfl (by decide) kd_91 (wf_lt hw kd_91 rfl) ⟨rfl, rfl, Nat.le_trans (Nat.le_of_ble_eq_true rfl) (Nat.le_add_left 7 (d + 1)), Nat.le_trans (Nat.le_of_ble_eq_true rfl) (Nat.le_add_left 400 (64 * (d + 1))), Nat.zero_le _, Nat.zero_le _⟩ rfl rfl (Nat.le_of_ble_eq_true rfl) dX5_readS_25 (ab_kp (k := 0) (n := 0) (fun v_14 f => ?_))
        refine ab_bipush C (v := (45 : Int32)) dX5_readS_28 (by decide) ?_
        refine ab_icmp_ne C (tgt := 65) dX5_readS_30 (by decide) (fun c_15 => ?_) (fun c_15 => ?_)
        · have f := f.2 c_15
          exact ab_vret C dX5_readS_65 ⟨hw, rfl, f⟩
        · have f := f.1 c_15
          refine ab_aload_n C 0 dX5_readS_33 rfl rfl ?_
          refine ab_callV C (k := 0) (n := 0) (rest := []) [] cl_X5_69 (mt_X5_ahead  hw f) rfl (by decide) kd_91 (wf_lt hw kd_91 rfl) ⟨rfl, rfl, Nat.le_trans (Nat.le_of_ble_eq_true rfl) (Nat.le_add_left 7 (d + 1)), Nat.le_trans (Nat.le_of_ble_eq_true rfl) (Nat.le_add_left 400 (64 * (d + 1))), Nat.zero_le _, Nat.zero_le _⟩ rfl rfl (Nat.le_of_ble_eq_true rfl) dX5_readS_34 (ab_kp (k := 0) (n := 0) (fun v_16 f => ?_))
          refine ab_istore_n C (lv' := [(3, .int v_16), (0, .ref (G.1 + 91)), (1, .int x1), (2, .int y2)]) dX5_readS_37 rfl (by decide) rfl ?_
          refine ab_aload_n C 1 dX5_readS_38 rfl rfl ?_
          refine ab_dup C dX5_readS_39 rfl ?_
          refine ab_getI C fl_X5_32 rfl kd_91 (wf_lt hw kd_91 rfl) dX5_readS_40 ?_
          refine ab_iconst C (v := (1 : Int32)) dX5_readS_43 (by decide) ?_
          refine ab_iadd C dX5_readS_44 ?_
          refine ab_putI C fl_X5_32 rfl kd_91 (wf_lt hw kd_91 rfl) rfl rfl dX5_readS_45 (fun h_17 e_18 => ?_)
          have f := f h_17 e_18
          have hw_19 := wf_si e_18 hw
          refine ab_aload_n C 1 dX5_readS_48 rfl rfl ?_
          refine ab_iload_n C 2 dX5_readS_49 rfl rfl ?_
          refine ab_callV C (k := 0) (n := 0) (rest := []) [.int x1] cl_X5_73 (ih0.2.2.2.2.1 x1 h_17 _ hw_19 f) rfl (by decide) kd_91 (wf_lt hw_19 kd_91 rfl) ⟨rfl, rfl, Nat.le_of_eq (Nat.add_right_comm d 7 1), (by show 8 + (4 + 11) + (64 * d + 400) ≤ 64 * (d + 1) + 400; omega), Nat.zero_le _, Nat.zero_le _⟩ rfl rfl (Nat.le_of_ble_eq_true rfl) dX5_readS_50 (ab_kv (k := 0) (n := 0) (fun h_20 hw_21 f => ?_))
          refine ab_aload_n C 1 dX5_readS_53 rfl rfl ?_
          refine ab_iload_n C 0 dX5_readS_54 rfl rfl ?_
          refine ab_ineg C dX5_readS_55 ?_
          refine ab_callV C (k := 0) (n := 0) (rest := []) [.int (-v_16)] cl_X5_60 (mt_X5_step  hw_21 f) rfl (by decide) kd_91 (wf_lt hw_21 kd_91 rfl) ⟨rfl, rfl, Nat.le_trans (Nat.le_of_ble_eq_true rfl) (Nat.le_add_left 7 (d + 1)), Nat.le_trans (Nat.le_of_ble_eq_true rfl) (Nat.le_add_left 400 (64 * (d + 1))), Nat.zero_le _, Nat.zero_le _⟩ rfl rfl (Nat.le_of_ble_eq_true rfl) dX5_readS_56 (ab_kv (k := 0) (n := 0) (fun h_22 hw_23 f => ?_))
          refine ab_iinc C (lv' := [(2, .int (y2 + (1 : Int32))), (3, .int v_16), (0, .ref (G.1 + 91)), (1, .int x1)]) 3 (v := (y2 + (1 : Int32))) dX5_readS_59 rfl rfl (by decide) rfl ?_
          refine ab_goto C (tgt := 7) dX5_readS_62 (by decide) ?_
          refine ab_sub (lv' := [(0, .ref (G.1 + 91)), (1, .int x1), (2, .int (y2 + (1 : Int32)))]) [2, 3, 0] rfl ?_
          exact ih (y2 + (1 : Int32)) h_22  hw_23 f
def wp_X5_readS (rc : rt_X5) (x1 : Int32) (h : hp_T) (Q : hp_T → Prop) : Prop :=
  rc.2.2.2.2.1 x1 h (fun h_1 => (∃ n0, wp_X5_readS_L7 rc x1 Q  n0 (0 : Int32) h_1))
set_option maxRecDepth 100000 in
set_option maxHeartbeats 4000000 in
theorem mt_X5_readS {l : Launch} {G : ab_G} {rc : rt_X5} {d : Nat} {x1 : Int32} {h : hp_T} {Q : hp_T → Prop} (ih0 : ih_X5 l G rc d) (hw : wf h) (f : wp_X5_readS rc x1 h Q) : ab_M l G yX5_readS cX5_readS 4 none (rr_X5 (d + 1)) 0 0 [.ref (G.1 + 91), .int x1] h (po_v Q) := by
  refine ab_intro (own := RX5) (nm := "readS") rfl rfl rfl (Nat.le_of_ble_eq_true rfl) (fun F C => ?_)
  show ab_W l G F 4 (ab_MQ G F (po_v Q) 0 0) 0 0 h [(0, .ref (G.1 + 91)), (1, .int x1)] [] 0
  unfold wp_X5_readS at f
  refine ab_aload_n C 0 dX5_readS_0 rfl rfl ?_
  refine ab_iload_n C 1 dX5_readS_1 rfl rfl ?_
  refine ab_callV C (k := 0) (n := 0) (rest := []) [.int x1] cl_X5_73 (ih0.2.2.2.2.1 x1 h _ hw f) rfl (by decide) kd_91 (wf_lt hw kd_91 rfl) ⟨rfl, rfl, Nat.le_of_eq (Nat.add_right_comm d 7 1), (by show 8 + (4 + 11) + (64 * d + 400) ≤ 64 * (d + 1) + 400; omega), Nat.zero_le _, Nat.zero_le _⟩ rfl rfl (Nat.le_of_ble_eq_true rfl) dX5_readS_2 (ab_kv (k := 0) (n := 0) (fun h_1 hw_2 f => ?_))
  refine ab_iconst C (v := (0 : Int32)) dX5_readS_5 (by decide) ?_
  refine ab_istore_n C (lv' := [(2, .int (0 : Int32)), (0, .ref (G.1 + 91)), (1, .int x1)]) dX5_readS_6 rfl (by decide) rfl ?_
  obtain ⟨n0, f⟩ := f
  refine ab_sub (lv' := [(0, .ref (G.1 + 91)), (1, .int x1), (2, .int (0 : Int32))]) [1, 2, 0] rfl ?_
  exact bt_X5_readS_L7 C ih0    n0 (0 : Int32) h_1  hw_2 f
/-! X5_readP -/
def wp_X5_readP_L7 (rc : rt_X5) (x1 : Int32) (Q : hp_T → Prop) : Nat → Int32 → hp_T → Prop
  | 0 => fun _ _ => False
  | nn + 1 => fun y2 h => (((hp_i h 91 1) ≤ y2 → (Q h)) ∧ (¬ ((hp_i h 91 1) ≤ y2) → wp_X5_ahead h (fun v_4 => ((v_4 = (42 : Int32) → wp_X5_ahead h (fun v_6 => (∀ h_7, h_7 = hp_si h 91 3 ((hp_i h 91 3) + (1 : Int32)) → rc.2.2.2.2.2 x1 h_7 (fun h_10 => wp_X5_step (-v_6) h_10 (fun h_12 => (wp_X5_readP_L7 rc x1 Q nn) (y2 + (1 : Int32)) h_12))))) ∧ (¬ (v_4 = (42 : Int32)) → wp_X5_ahead h (fun v_14 => ((v_14 = (47 : Int32) → wp_X5_ahead h (fun v_16 => (∀ h_17, h_17 = hp_si h 91 3 ((hp_i h 91 3) + (1 : Int32)) → rc.2.2.2.2.2 x1 h_17 (fun h_20 => wp_X5_step (-v_16) h_20 (fun h_22 => (wp_X5_readP_L7 rc x1 Q nn) (y2 + (1 : Int32)) h_22))))) ∧ (¬ (v_14 = (47 : Int32)) → wp_X5_ahead h (fun v_24 => ((v_24 = (37 : Int32) → wp_X5_ahead h (fun v_26 => (∀ h_27, h_27 = hp_si h 91 3 ((hp_i h 91 3) + (1 : Int32)) → rc.2.2.2.2.2 x1 h_27 (fun h_30 => wp_X5_step (-v_26) h_30 (fun h_32 => (wp_X5_readP_L7 rc x1 Q nn) (y2 + (1 : Int32)) h_32))))) ∧ (¬ (v_24 = (37 : Int32)) → (Q h))))))))))))
set_option maxRecDepth 100000 in
set_option maxHeartbeats 4000000 in
theorem bt_X5_readP_L7 {l : Launch} {G : ab_G} {rc : rt_X5} {d : Nat} {F : ab_F} {x1 : Int32} {Q : hp_T → Prop}  (C : ab_C G F (rr_X5 (d + 1)) cX5_readP 4 RX5 none "readP") (ih0 : ih_X5 l G rc d)   : ∀ (nn : Nat) (y2 : Int32) (h : hp_T), wf h → wp_X5_readP_L7 rc x1 Q nn y2 h → ab_W l G F 4 (ab_MQ G F (po_v Q) 0 0) 0 0 h [(0, .ref (G.1 + 91)), (1, .int x1), (2, .int y2)] [] 7 := by
  intro nn
  induction nn with
  | zero =>
    intro y2 h hw f
    exact absurd f id
  | succ nn ih =>
    intro y2 h hw f
    unfold wp_X5_readP_L7 at f
    refine ab_iload_n C 2 dX5_readP_7 rfl rfl ?_
    refine ab_aload_n C 0 dX5_readP_8 rfl rfl ?_
    refine ab_getI C fl_X5_25 rfl kd_91 (wf_lt hw kd_91 rfl) dX5_readP_9 ?_
    refine ab_icmp_ge C (tgt := 74) dX5_readP_12 (by decide) (fun c_3 => ?_) (fun c_3 => ?_)
    · have f := f.1 c_3
      exact ab_vret C dX5_readP_74 ⟨hw, rfl, f⟩
    · have f := f.2 c_3
      refine ab_aload_n C 0 dX5_readP_15 rfl rfl ?_
      refine ab_callV C (k := 0) (n := 0) (rest := []) [] cl_X5_69 (mt_X5_ahead  hw f) rfl (by decide) kd_91 (wf_lt hw kd_91 rfl) ⟨rfl, rfl, Nat.le_trans (Nat.le_of_ble_eq_true rfl) (Nat.le_add_left 7 (d + 1)), Nat.le_trans (Nat.le_of_ble_eq_true rfl) (Nat.le_add_left 400 (64 * (d + 1))), Nat.zero_le _, Nat.zero_le _⟩ rfl rfl (Nat.le_of_ble_eq_true rfl) dX5_readP_16 (ab_kp (k := 0) (n := 0) (fun v_4 f => ?_))
      refine ab_bipush C (v := (42 : Int32)) dX5_readP_19 (by decide) ?_
      refine ab_icmp_eq C (tgt := 42) dX5_readP_21 (by decide) (fun c_5 => ?_) (fun c_5 => ?_)
      · have f := f.1 c_5
        refine ab_aload_n C 0 dX5_readP_42 rfl rfl ?_
        refine ab_callV C (k := 0) (n := 0) (rest := []) [] cl_X5_69 (mt_X5_ahead  hw f) rfl (by decide) kd_91 (wf_lt hw kd_91 rfl) ⟨rfl, rfl, Nat.le_trans (Nat.le_of_ble_eq_true rfl) (Nat.le_add_left 7 (d + 1)), Nat.le_trans (Nat.le_of_ble_eq_true rfl) (Nat.le_add_left 400 (64 * (d + 1))), Nat.zero_le _, Nat.zero_le _⟩ rfl rfl (Nat.le_of_ble_eq_true rfl) dX5_readP_43 (ab_kp (k := 0) (n := 0) (fun v_6 f => ?_))
        refine ab_istore_n C (lv' := [(3, .int v_6), (0, .ref (G.1 + 91)), (1, .int x1), (2, .int y2)]) dX5_readP_46 rfl (by decide) rfl ?_
        refine ab_aload_n C 1 dX5_readP_47 rfl rfl ?_
        refine ab_dup C dX5_readP_48 rfl ?_
        refine ab_getI C fl_X5_32 rfl kd_91 (wf_lt hw kd_91 rfl) dX5_readP_49 ?_
        refine ab_iconst C (v := (1 : Int32)) dX5_readP_52 (by decide) ?_
        refine ab_iadd C dX5_readP_53 ?_
        refine ab_putI C fl_X5_32 rfl kd_91 (wf_lt hw kd_91 rfl) rfl rfl dX5_readP_54 (fun h_7 e_8 => ?_)
        have f := f h_7 e_8
        have hw_9 := wf_si e_8 hw
        refine ab_aload_n C 1 dX5_readP_57 rfl rfl ?_
        refine ab_iload_n C 2 dX5_readP_58 rfl rfl ?_
        refine ab_callV C (k := 0) (n := 0) (rest := []) [.int x1] cl_X5_76 (ih0.2.2.2.2.2 x1 h_7 _ hw_9 f) rfl (by decide) kd_91 (wf_lt hw_9 kd_91 rfl) ⟨rfl, rfl, Nat.le_of_eq (Nat.add_right_comm d 7 1), (by show 8 + (3 + 11) + (64 * d + 400) ≤ 64 * (d + 1) + 400; omega), Nat.zero_le _, Nat.zero_le _⟩ rfl rfl (Nat.le_of_ble_eq_true rfl) dX5_readP_59 (ab_kv (k := 0) (n := 0) (fun h_10 hw_11 f => ?_))
        refine ab_aload_n C 1 dX5_readP_62 rfl rfl ?_
        refine ab_iload_n C 0 dX5_readP_63 rfl rfl ?_
        refine ab_ineg C dX5_readP_64 ?_
        refine ab_callV C (k := 0) (n := 0) (rest := []) [.int (-v_6)] cl_X5_60 (mt_X5_step  hw_11 f) rfl (by decide) kd_91 (wf_lt hw_11 kd_91 rfl) ⟨rfl, rfl, Nat.le_trans (Nat.le_of_ble_eq_true rfl) (Nat.le_add_left 7 (d + 1)), Nat.le_trans (Nat.le_of_ble_eq_true rfl) (Nat.le_add_left 400 (64 * (d + 1))), Nat.zero_le _, Nat.zero_le _⟩ rfl rfl (Nat.le_of_ble_eq_true rfl) dX5_readP_65 (ab_kv (k := 0) (n := 0) (fun h_12 hw_13 f => ?_))
        refine ab_iinc C (lv' := [(2, .int (y2 + (1 : Int32))), (3, .int v_6), (0, .ref (G.1 + 91)), (1, .int x1)]) 3 (v := (y2 + (1 : Int32))) dX5_readP_68 rfl rfl (by decide) rfl ?_
        refine ab_goto C (tgt := 7) dX5_readP_71 (by decide) ?_
        refine ab_sub (lv' := [(0, .ref (G.1 + 91)), (1, .int x1), (2, .int (y2 + (1 : Int32)))]) [2, 3, 0] rfl ?_
        exact ih (y2 + (1 : Int32)) h_12  hw_13 f
      · have f := f.2 c_5
        refine ab_aload_n C 0 dX5_readP_24 rfl rfl ?_
        refine ab_callV C (k := 0) (n := 0) (rest := []) [] cl_X5_69 (mt_X5_ahead  hw f) rfl (by decide) kd_91 (wf_lt hw kd_91 rfl) ⟨rfl, rfl, Nat.le_trans (Nat.le_of_ble_eq_true rfl) (Nat.le_add_left 7 (d + 1)), Nat.le_trans (Nat.le_of_ble_eq_true rfl) (Nat.le_add_left 400 (64 * (d + 1))), Nat.zero_le _, Nat.zero_le _⟩ rfl rfl (Nat.le_of_ble_eq_true rfl) dX5_readP_25 (ab_kp (k := 0) (n := 0) (fun v_14 f => ?_))
        refine ab_bipush C (v := (47 : Int32)) dX5_readP_28 (by decide) ?_
        refine ab_icmp_eq C (tgt := 42) dX5_readP_30 (by decide) (fun c_15 => ?_) (fun c_15 => ?_)
        · have f := f.1 c_15
          refine ab_aload_n C 0 dX5_readP_42 rfl rfl ?_
          refine ab_callV C (k := 0) (n := 0) (rest := []) [] cl_X5_69 (mt_X5_ahead  hw f) rfl (by decide) kd_91 (wf_lt hw kd_91 rfl) ⟨rfl, rfl, Nat.le_trans (Nat.le_of_ble_eq_true rfl) (Nat.le_add_left 7 (d + 1)), Nat.le_trans (Nat.le_of_ble_eq_true rfl) (Nat.le_add_left 400 (64 * (d + 1))), Nat.zero_le _, Nat.zero_le _⟩ rfl rfl (Nat.le_of_ble_eq_true rfl) dX5_readP_43 (ab_kp (k := 0) (n := 0) (fun v_16 f => ?_))
          refine ab_istore_n C (lv' := [(3, .int v_16), (0, .ref (G.1 + 91)), (1, .int x1), (2, .int y2)]) dX5_readP_46 rfl (by decide) rfl ?_
          refine ab_aload_n C 1 dX5_readP_47 rfl rfl ?_
          refine ab_dup C dX5_readP_48 rfl ?_
          refine ab_getI C fl_X5_32 rfl kd_91 (wf_lt hw kd_91 rfl) dX5_readP_49 ?_
          refine ab_iconst C (v := (1 : Int32)) dX5_readP_52 (by decide) ?_
          refine ab_iadd C dX5_readP_53 ?_
          refine ab_putI C fl_X5_32 rfl kd_91 (wf_lt hw kd_91 rfl) rfl rfl dX5_readP_54 (fun h_17 e_18 => ?_)
          have f := f h_17 e_18
          have hw_19 := wf_si e_18 hw
          refine ab_aload_n C 1 dX5_readP_57 rfl rfl ?_
          refine ab_iload_n C 2 dX5_readP_58 rfl rfl ?_
          refine ab_callV C (k := 0) (n := 0) (rest := []) [.int x1] cl_X5_76 (ih0.2.2.2.2.2 x1 h_17 _ hw_19 f) rfl (by decide) kd_91 (wf_lt hw_19 kd_91 rfl) ⟨rfl, rfl, Nat.le_of_eq (Nat.add_right_comm d 7 1), (by show 8 + (3 + 11) + (64 * d + 400) ≤ 64 * (d + 1) + 400; omega), Nat.zero_le _, Nat.zero_le _⟩ rfl rfl (Nat.le_of_ble_eq_true rfl) dX5_readP_59 (ab_kv (k := 0) (n := 0) (fun h_20 hw_21 f => ?_))
          refine ab_aload_n C 1 dX5_readP_62 rfl rfl ?_
          refine ab_iload_n C 0 dX5_readP_63 rfl rfl ?_
          refine ab_ineg C dX5_readP_64 ?_
          refine ab_callV C (k := 0) (n := 0) (rest := []) [.int (-v_16)] cl_X5_60 (mt_X5_step  hw_21 f) rfl (by decide) kd_91 (wf_lt hw_21 kd_91 rfl) ⟨rfl, rfl, Nat.le_trans (Nat.le_of_ble_eq_true rfl) (Nat.le_add_left 7 (d + 1)), Nat.le_trans (Nat.le_of_ble_eq_true rfl) (Nat.le_add_left 400 (64 * (d + 1))), Nat.zero_le _, Nat.zero_le _⟩ rfl rfl (Nat.le_of_ble_eq_true rfl) dX5_readP_65 (ab_kv (k := 0) (n := 0) (fun h_22 hw_23 f => ?_))
          refine ab_iinc C (lv' := [(2, .int (y2 + (1 : Int32))), (3, .int v_16), (0, .ref (G.1 + 91)), (1, .int x1)]) 3 (v := (y2 + (1 : Int32))) dX5_readP_68 rfl rfl (by decide) rfl ?_
          refine ab_goto C (tgt := 7) dX5_readP_71 (by decide) ?_
          refine ab_sub (lv' := [(0, .ref (G.1 + 91)), (1, .int x1), (2, .int (y2 + (1 : Int32)))]) [2, 3, 0] rfl ?_
          exact ih (y2 + (1 : Int32)) h_22  hw_23 f
        · have f := f.2 c_15
          refine ab_aload_n C 0 dX5_readP_33 rfl rfl ?_
          refine ab_callV C (k := 0) (n := 0) (rest := []) [] cl_X5_69 (mt_X5_ahead  hw f) rfl (by decide) kd_91 (wf_lt hw kd_91 rfl) ⟨rfl, rfl, Nat.le_trans (Nat.le_of_ble_eq_true rfl) (Nat.le_add_left 7 (d + 1)), Nat.le_trans (Nat.le_of_ble_eq_true rfl) (Nat.le_add_left 400 (64 * (d + 1))), Nat.zero_le _, Nat.zero_le _⟩ rfl rfl (Nat.le_of_ble_eq_true rfl) dX5_readP_34 (ab_kp (k := 0) (n := 0) (fun v_24 f => ?_))
          refine ab_bipush C (v := (37 : Int32)) dX5_readP_37 (by decide) ?_
          refine ab_icmp_ne C (tgt := 74) dX5_readP_39 (by decide) (fun c_25 => ?_) (fun c_25 => ?_)
          · have f := f.2 c_25
            exact ab_vret C dX5_readP_74 ⟨hw, rfl, f⟩
          · have f := f.1 c_25
            refine ab_aload_n C 0 dX5_readP_42 rfl rfl ?_
            refine ab_callV C (k := 0) (n := 0) (rest := []) [] cl_X5_69 (mt_X5_ahead  hw f) rfl (by decide) kd_91 (wf_lt hw kd_91 rfl) ⟨rfl, rfl, Nat.le_trans (Nat.le_of_ble_eq_true rfl) (Nat.le_add_left 7 (d + 1)), Nat.le_trans (Nat.le_of_ble_eq_true rfl) (Nat.le_add_left 400 (64 * (d + 1))), Nat.zero_le _, Nat.zero_le _⟩ rfl rfl (Nat.le_of_ble_eq_true rfl) dX5_readP_43 (ab_kp (k := 0) (n := 0) (fun v_26 f => ?_))
            refine ab_istore_n C (lv' := [(3, .int v_26), (0, .ref (G.1 + 91)), (1, .int x1), (2, .int y2)]) dX5_readP_46 rfl (by decide) rfl ?_
            refine ab_aload_n C 1 dX5_readP_47 rfl rfl ?_
            refine ab_dup C dX5_readP_48 rfl ?_
            refine ab_getI C fl_X5_32 rfl kd_91 (wf_lt hw kd_91 rfl) dX5_readP_49 ?_
            refine ab_iconst C (v := (1 : Int32)) dX5_readP_52 (by decide) ?_
            refine ab_iadd C dX5_readP_53 ?_
            refine ab_putI C fl_X5_32 rfl kd_91 (wf_lt hw kd_91 rfl) rfl rfl dX5_readP_54 (fun h_27 e_28 => ?_)
            have f := f h_27 e_28
            have hw_29 := wf_si e_28 hw
            refine ab_aload_n C 1 dX5_readP_57 rfl rfl ?_
            refine ab_iload_n C 2 dX5_readP_58 rfl rfl ?_
            refine ab_callV C (k := 0) (n := 0) (rest := []) [.int x1] cl_X5_76 (ih0.2.2.2.2.2 x1 h_27 _ hw_29 f) rfl (by decide) kd_91 (wf_lt hw_29 kd_91 rfl) ⟨rfl, rfl, Nat.le_of_eq (Nat.add_right_comm d 7 1), (by show 8 + (3 + 11) + (64 * d + 400) ≤ 64 * (d + 1) + 400; omega), Nat.zero_le _, Nat.zero_le _⟩ rfl rfl (Nat.le_of_ble_eq_true rfl) dX5_readP_59 (ab_kv (k := 0) (n := 0) (fun h_30 hw_31 f => ?_))
            refine ab_aload_n C 1 dX5_readP_62 rfl rfl ?_
            refine ab_iload_n C 0 dX5_readP_63 rfl rfl ?_
            refine ab_ineg C dX5_readP_64 ?_
            refine ab_callV C (k := 0) (n := 0) (rest := []) [.int (-v_26)] cl_X5_60 (mt_X5_step  hw_31 f) rfl (by decide) kd_91 (wf_lt hw_31 kd_91 rfl) ⟨rfl, rfl, Nat.le_trans (Nat.le_of_ble_eq_true rfl) (Nat.le_add_left 7 (d + 1)), Nat.le_trans (Nat.le_of_ble_eq_true rfl) (Nat.le_add_left 400 (64 * (d + 1))), Nat.zero_le _, Nat.zero_le _⟩ rfl rfl (Nat.le_of_ble_eq_true rfl) dX5_readP_65 (ab_kv (k := 0) (n := 0) (fun h_32 hw_33 f => ?_))
            refine ab_iinc C (lv' := [(2, .int (y2 + (1 : Int32))), (3, .int v_26), (0, .ref (G.1 + 91)), (1, .int x1)]) 3 (v := (y2 + (1 : Int32))) dX5_readP_68 rfl rfl (by decide) rfl ?_
            refine ab_goto C (tgt := 7) dX5_readP_71 (by decide) ?_
            refine ab_sub (lv' := [(0, .ref (G.1 + 91)), (1, .int x1), (2, .int (y2 + (1 : Int32)))]) [2, 3, 0] rfl ?_
            exact ih (y2 + (1 : Int32)) h_32  hw_33 f
def wp_X5_readP (rc : rt_X5) (x1 : Int32) (h : hp_T) (Q : hp_T → Prop) : Prop :=
  rc.2.2.2.2.2 x1 h (fun h_1 => (∃ n0, wp_X5_readP_L7 rc x1 Q  n0 (0 : Int32) h_1))
set_option maxRecDepth 100000 in
set_option maxHeartbeats 4000000 in
theorem mt_X5_readP {l : Launch} {G : ab_G} {rc : rt_X5} {d : Nat} {x1 : Int32} {h : hp_T} {Q : hp_T → Prop} (ih0 : ih_X5 l G rc d) (hw : wf h) (f : wp_X5_readP rc x1 h Q) : ab_M l G yX5_readP cX5_readP 4 none (rr_X5 (d + 1)) 0 0 [.ref (G.1 + 91), .int x1] h (po_v Q) := by
  refine ab_intro (own := RX5) (nm := "readP") rfl rfl rfl (Nat.le_of_ble_eq_true rfl) (fun F C => ?_)
  show ab_W l G F 4 (ab_MQ G F (po_v Q) 0 0) 0 0 h [(0, .ref (G.1 + 91)), (1, .int x1)] [] 0
  unfold wp_X5_readP at f
  refine ab_aload_n C 0 dX5_readP_0 rfl rfl ?_
  refine ab_iload_n C 1 dX5_readP_1 rfl rfl ?_
  refine ab_callV C (k := 0) (n := 0) (rest := []) [.int x1] cl_X5_76 (ih0.2.2.2.2.2 x1 h _ hw f) rfl (by decide) kd_91 (wf_lt hw kd_91 rfl) ⟨rfl, rfl, Nat.le_of_eq (Nat.add_right_comm d 7 1), (by show 8 + (3 + 11) + (64 * d + 400) ≤ 64 * (d + 1) + 400; omega), Nat.zero_le _, Nat.zero_le _⟩ rfl rfl (Nat.le_of_ble_eq_true rfl) dX5_readP_2 (ab_kv (k := 0) (n := 0) (fun h_1 hw_2 f => ?_))
  refine ab_iconst C (v := (0 : Int32)) dX5_readP_5 (by decide) ?_
  refine ab_istore_n C (lv' := [(2, .int (0 : Int32)), (0, .ref (G.1 + 91)), (1, .int x1)]) dX5_readP_6 rfl (by decide) rfl ?_
  obtain ⟨n0, f⟩ := f
  refine ab_sub (lv' := [(0, .ref (G.1 + 91)), (1, .int x1), (2, .int (0 : Int32))]) [1, 2, 0] rfl ?_
  exact bt_X5_readP_L7 C ih0    n0 (0 : Int32) h_1  hw_2 f
/-! X5_readQ -/
def wp_X5_readQ (rc : rt_X5) (x1 : Int32) (h : hp_T) (Q : hp_T → Prop) : Prop :=
  wp_X5_ahead h (fun v_1 => wp_X5_isDigit v_1 h (fun v_2 => ((v_2 = 0 → ((v_1 = (107 : Int32) → (∀ h_5, h_5 = hp_si h 91 3 ((hp_i h 91 3) + (1 : Int32)) → wp_X5_step (-v_1) h_5 (fun h_8 => (Q h_8)))) ∧ (¬ (v_1 = (107 : Int32)) → ((v_1 = (104 : Int32) → (∀ h_11, h_11 = hp_si h 91 3 ((hp_i h 91 3) + (1 : Int32)) → wp_X5_step (-v_1) h_11 (fun h_14 => (Q h_14)))) ∧ (¬ (v_1 = (104 : Int32)) → ((v_1 = (hp_i h 91 2) → (∀ h_60, h_60 = hp_si h 91 3 ((hp_i h 91 3) + (1 : Int32)) → wp_X5_step (-v_1) h_60 (fun h_63 => (Q h_63)))) ∧ (¬ (v_1 = (hp_i h 91 2)) → ((v_1 = (33 : Int32) → (((5 : Int32) ≤ x1 → ((v_1 = (40 : Int32) → (((5 : Int32) ≤ x1 → wp_X5_fail h (fun h_40 => (Q h_40))) ∧ (¬ ((5 : Int32) ≤ x1) → (∀ h_42, h_42 = hp_si h 91 3 ((hp_i h 91 3) + (1 : Int32)) → rc.1 (x1 + (1 : Int32)) h_42 (fun h_45 => wp_X5_takes (41 : Int32) h_45 (fun v_47 h_48 => ((v_47 = 0 → wp_X5_fail h_48 (fun h_51 => (Q h_51))) ∧ (¬ (v_47 = 0) → (Q h_48))))))))) ∧ (¬ (v_1 = (40 : Int32)) → wp_X5_fail h (fun h_37 => (Q h_37))))) ∧ (¬ ((5 : Int32) ≤ x1) → (∀ h_53, h_53 = hp_si h 91 3 ((hp_i h 91 3) + (1 : Int32)) → rc.2.2.2.2.2 (x1 + (1 : Int32)) h_53 (fun h_56 => wp_X5_step (-v_1) h_56 (fun h_58 => (Q h_58))))))) ∧ (¬ (v_1 = (33 : Int32)) → ((v_1 = (40 : Int32) → (((5 : Int32) ≤ x1 → wp_X5_fail h (fun h_22 => (Q h_22))) ∧ (¬ ((5 : Int32) ≤ x1) → (∀ h_24, h_24 = hp_si h 91 3 ((hp_i h 91 3) + (1 : Int32)) → rc.1 (x1 + (1 : Int32)) h_24 (fun h_27 => wp_X5_takes (41 : Int32) h_27 (fun v_29 h_30 => ((v_29 = 0 → wp_X5_fail h_30 (fun h_33 => (Q h_33))) ∧ (¬ (v_29 = 0) → (Q h_30))))))))) ∧ (¬ (v_1 = (40 : Int32)) → wp_X5_fail h (fun h_19 => (Q h_19))))))))))))) ∧ (¬ (v_2 = 0) → wp_X5_readNumber h (fun h_65 => (Q h_65))))))
set_option maxRecDepth 100000 in
set_option maxHeartbeats 4000000 in
theorem mt_X5_readQ {l : Launch} {G : ab_G} {rc : rt_X5} {d : Nat} {x1 : Int32} {h : hp_T} {Q : hp_T → Prop} (ih0 : ih_X5 l G rc d) (hw : wf h) (f : wp_X5_readQ rc x1 h Q) : ab_M l G yX5_readQ cX5_readQ 3 none (rr_X5 (d + 1)) 0 0 [.ref (G.1 + 91), .int x1] h (po_v Q) := by
  refine ab_intro (own := RX5) (nm := "readQ") rfl rfl rfl (Nat.le_of_ble_eq_true rfl) (fun F C => ?_)
  show ab_W l G F 3 (ab_MQ G F (po_v Q) 0 0) 0 0 h [(0, .ref (G.1 + 91)), (1, .int x1)] [] 0
  unfold wp_X5_readQ at f
  refine ab_aload_n C 0 dX5_readQ_0 rfl rfl ?_
  refine ab_callV C (k := 0) (n := 0) (rest := []) [] cl_X5_69 (mt_X5_ahead  hw f) rfl (by decide) kd_91 (wf_lt hw kd_91 rfl) ⟨rfl, rfl, Nat.le_trans (Nat.le_of_ble_eq_true rfl) (Nat.le_add_left 7 (d + 1)), Nat.le_trans (Nat.le_of_ble_eq_true rfl) (Nat.le_add_left 400 (64 * (d + 1))), Nat.zero_le _, Nat.zero_le _⟩ rfl rfl (Nat.le_of_ble_eq_true rfl) dX5_readQ_1 (ab_kp (k := 0) (n := 0) (fun v_1 f => ?_))
  refine ab_istore_n C (lv' := [(2, .int v_1), (0, .ref (G.1 + 91)), (1, .int x1)]) dX5_readQ_4 rfl (by decide) rfl ?_
  refine ab_iload_n C 0 dX5_readQ_5 rfl rfl ?_
  refine ab_callS C (k := 0) (n := 0) (rest := []) [.int v_1] cl_X5_79 (mt_X5_isDigit  hw f) ⟨rfl, rfl, Nat.le_trans (Nat.le_of_ble_eq_true rfl) (Nat.le_add_left 7 (d + 1)), Nat.le_trans (Nat.le_of_ble_eq_true rfl) (Nat.le_add_left 400 (64 * (d + 1))), Nat.zero_le _, Nat.zero_le _⟩ rfl rfl (Nat.le_of_ble_eq_true rfl) dX5_readQ_6 (ab_kp (k := 0) (n := 0) (fun v_2 f => ?_))
  refine ab_if_eq C (tgt := 19) dX5_readQ_9 (by decide) (fun c_3 => ?_) (fun c_3 => ?_)
  · have f := f.1 c_3
    refine ab_iload_n C 0 dX5_readQ_19 rfl rfl ?_
    refine ab_bipush C (v := (107 : Int32)) dX5_readQ_20 (by decide) ?_
    refine ab_icmp_eq C (tgt := 39) dX5_readQ_22 (by decide) (fun c_4 => ?_) (fun c_4 => ?_)
    · have f := f.1 c_4
      refine ab_aload_n C 1 dX5_readQ_39 rfl rfl ?_
      refine ab_dup C dX5_readQ_40 rfl ?_
      refine ab_getI C fl_X5_32 rfl kd_91 (wf_lt hw kd_91 rfl) dX5_readQ_41 ?_
      refine ab_iconst C (v := (1 : Int32)) dX5_readQ_44 (by decide) ?_
      refine ab_iadd C dX5_readQ_45 ?_
      refine ab_putI C fl_X5_32 rfl kd_91 (wf_lt hw kd_91 rfl) rfl rfl dX5_readQ_46 (fun h_5 e_6 => ?_)
      have f := f h_5 e_6
      have hw_7 := wf_si e_6 hw
      refine ab_aload_n C 1 dX5_readQ_49 rfl rfl ?_
      refine ab_iload_n C 0 dX5_readQ_50 rfl rfl ?_
      refine ab_ineg C dX5_readQ_51 ?_
      refine ab_callV C (k := 0) (n := 0) (rest := []) [.int (-v_1)] cl_X5_60 (mt_X5_step  hw_7 f) rfl (by decide) kd_91 (wf_lt hw_7 kd_91 rfl) ⟨rfl, rfl, Nat.le_trans (Nat.le_of_ble_eq_true rfl) (Nat.le_add_left 7 (d + 1)), Nat.le_trans (Nat.le_of_ble_eq_true rfl) (Nat.le_add_left 400 (64 * (d + 1))), Nat.zero_le _, Nat.zero_le _⟩ rfl rfl (Nat.le_of_ble_eq_true rfl) dX5_readQ_52 (ab_kv (k := 0) (n := 0) (fun h_8 hw_9 f => ?_))
      refine ab_goto C (tgt := 143) dX5_readQ_55 (by decide) ?_
      exact ab_vret C dX5_readQ_143 ⟨hw_9, rfl, f⟩
    · have f := f.2 c_4
      refine ab_iload_n C 0 dX5_readQ_25 rfl rfl ?_
      refine ab_bipush C (v := (104 : Int32)) dX5_readQ_26 (by decide) ?_
      refine ab_icmp_eq C (tgt := 39) dX5_readQ_28 (by decide) (fun c_10 => ?_) (fun c_10 => ?_)
      · have f := f.1 c_10
        refine ab_aload_n C 1 dX5_readQ_39 rfl rfl ?_
        refine ab_dup C dX5_readQ_40 rfl ?_
        refine ab_getI C fl_X5_32 rfl kd_91 (wf_lt hw kd_91 rfl) dX5_readQ_41 ?_
        refine ab_iconst C (v := (1 : Int32)) dX5_readQ_44 (by decide) ?_
        refine ab_iadd C dX5_readQ_45 ?_
        refine ab_putI C fl_X5_32 rfl kd_91 (wf_lt hw kd_91 rfl) rfl rfl dX5_readQ_46 (fun h_11 e_12 => ?_)
        have f := f h_11 e_12
        have hw_13 := wf_si e_12 hw
        refine ab_aload_n C 1 dX5_readQ_49 rfl rfl ?_
        refine ab_iload_n C 0 dX5_readQ_50 rfl rfl ?_
        refine ab_ineg C dX5_readQ_51 ?_
        refine ab_callV C (k := 0) (n := 0) (rest := []) [.int (-v_1)] cl_X5_60 (mt_X5_step  hw_13 f) rfl (by decide) kd_91 (wf_lt hw_13 kd_91 rfl) ⟨rfl, rfl, Nat.le_trans (Nat.le_of_ble_eq_true rfl) (Nat.le_add_left 7 (d + 1)), Nat.le_trans (Nat.le_of_ble_eq_true rfl) (Nat.le_add_left 400 (64 * (d + 1))), Nat.zero_le _, Nat.zero_le _⟩ rfl rfl (Nat.le_of_ble_eq_true rfl) dX5_readQ_52 (ab_kv (k := 0) (n := 0) (fun h_14 hw_15 f => ?_))
        refine ab_goto C (tgt := 143) dX5_readQ_55 (by decide) ?_
        exact ab_vret C dX5_readQ_143 ⟨hw_15, rfl, f⟩
      · have f := f.2 c_10
        refine ab_iload_n C 0 dX5_readQ_31 rfl rfl ?_
        refine ab_aload_n C 1 dX5_readQ_32 rfl rfl ?_
        refine ab_getI C fl_X5_29 rfl kd_91 (wf_lt hw kd_91 rfl) dX5_readQ_33 ?_
        refine ab_icmp_ne C (tgt := 58) dX5_readQ_36 (by decide) (fun c_16 => ?_) (fun c_16 => ?_)
        · have f := f.2 c_16
          refine ab_iload_n C 0 dX5_readQ_58 rfl rfl ?_
          refine ab_bipush C (v := (33 : Int32)) dX5_readQ_59 (by decide) ?_
          refine ab_icmp_ne C (tgt := 95) dX5_readQ_61 (by decide) (fun c_17 => ?_) (fun c_17 => ?_)
          · have f := f.2 c_17
            refine ab_iload_n C 0 dX5_readQ_95 rfl rfl ?_
            refine ab_bipush C (v := (40 : Int32)) dX5_readQ_96 (by decide) ?_
            refine ab_icmp_ne C (tgt := 139) dX5_readQ_98 (by decide) (fun c_18 => ?_) (fun c_18 => ?_)
            · have f := f.2 c_18
              refine ab_aload_n C 1 dX5_readQ_139 rfl rfl ?_
              refine ab_callV C (k := 0) (n := 0) (rest := []) [] cl_X5_45 (mt_X5_fail  hw f) rfl (by decide) kd_91 (wf_lt hw kd_91 rfl) ⟨rfl, rfl, Nat.le_trans (Nat.le_of_ble_eq_true rfl) (Nat.le_add_left 7 (d + 1)), Nat.le_trans (Nat.le_of_ble_eq_true rfl) (Nat.le_add_left 400 (64 * (d + 1))), Nat.zero_le _, Nat.zero_le _⟩ rfl rfl (Nat.le_of_ble_eq_true rfl) dX5_readQ_140 (ab_kv (k := 0) (n := 0) (fun h_19 hw_20 f => ?_))
              exact ab_vret C dX5_readQ_143 ⟨hw_20, rfl, f⟩
            · have f := f.1 c_18
              refine ab_iload_n C 2 dX5_readQ_101 rfl rfl ?_
              refine ab_iconst C (v := (5 : Int32)) dX5_readQ_102 (by decide) ?_
              refine ab_icmp_ge C (tgt := 139) dX5_readQ_103 (by decide) (fun c_21 => ?_) (fun c_21 => ?_)
              · have f := f.1 c_21
                refine ab_aload_n C 1 dX5_readQ_139 rfl rfl ?_
                refine ab_callV C (k := 0) (n := 0) (rest := []) [] cl_X5_45 (mt_X5_fail  hw f) rfl (by decide) kd_91 (wf_lt hw kd_91 rfl) ⟨rfl, rfl, Nat.le_trans (Nat.le_of_ble_eq_true rfl) (Nat.le_add_left 7 (d + 1)), Nat.le_trans (Nat.le_of_ble_eq_true rfl) (Nat.le_add_left 400 (64 * (d + 1))), Nat.zero_le _, Nat.zero_le _⟩ rfl rfl (Nat.le_of_ble_eq_true rfl) dX5_readQ_140 (ab_kv (k := 0) (n := 0) (fun h_22 hw_23 f => ?_))
                exact ab_vret C dX5_readQ_143 ⟨hw_23, rfl, f⟩
              · have f := f.2 c_21
                refine ab_aload_n C 1 dX5_readQ_106 rfl rfl ?_
                refine ab_dup C dX5_readQ_107 rfl ?_
                refine ab_getI C fl_X5_32 rfl kd_91 (wf_lt hw kd_91 rfl) dX5_readQ_108 ?_
                refine ab_iconst C (v := (1 : Int32)) dX5_readQ_111 (by decide) ?_
                refine ab_iadd C dX5_readQ_112 ?_
                refine ab_putI C fl_X5_32 rfl kd_91 (wf_lt hw kd_91 rfl) rfl rfl dX5_readQ_113 (fun h_24 e_25 => ?_)
                have f := f h_24 e_25
                have hw_26 := wf_si e_25 hw
                refine ab_aload_n C 1 dX5_readQ_116 rfl rfl ?_
                refine ab_iload_n C 2 dX5_readQ_117 rfl rfl ?_
                refine ab_iconst C (v := (1 : Int32)) dX5_readQ_118 (by decide) ?_
                refine ab_iadd C dX5_readQ_119 ?_
                refine ab_callV C (k := 0) (n := 0) (rest := []) [.int (x1 + (1 : Int32))] cl_X5_41 (ih0.1 (x1 + (1 : Int32)) h_24 _ hw_26 f) rfl (by decide) kd_91 (wf_lt hw_26 kd_91 rfl) ⟨rfl, rfl, Nat.le_of_eq (Nat.add_right_comm d 7 1), (by show 8 + (3 + 11) + (64 * d + 400) ≤ 64 * (d + 1) + 400; omega), Nat.zero_le _, Nat.zero_le _⟩ rfl rfl (Nat.le_of_ble_eq_true rfl) dX5_readQ_120 (ab_kv (k := 0) (n := 0) (fun h_27 hw_28 f => ?_))
                refine ab_aload_n C 1 dX5_readQ_123 rfl rfl ?_
                refine ab_bipush C (v := (41 : Int32)) dX5_readQ_124 (by decide) ?_
                refine ab_callV C (k := 0) (n := 0) (rest := []) [.int (41 : Int32)] cl_X5_56 (mt_X5_takes  hw_28 f) rfl (by decide) kd_91 (wf_lt hw_28 kd_91 rfl) ⟨rfl, rfl, Nat.le_trans (Nat.le_of_ble_eq_true rfl) (Nat.le_add_left 7 (d + 1)), Nat.le_trans (Nat.le_of_ble_eq_true rfl) (Nat.le_add_left 400 (64 * (d + 1))), Nat.zero_le _, Nat.zero_le _⟩ rfl rfl (Nat.le_of_ble_eq_true rfl) dX5_readQ_126 (ab_kh (k := 0) (n := 0) (fun v_29 h_30 hw_31 f => ?_))
                refine ab_if_ne C (tgt := 143) dX5_readQ_129 (by decide) (fun c_32 => ?_) (fun c_32 => ?_)
                · have f := f.2 c_32
                  exact ab_vret C dX5_readQ_143 ⟨hw_31, rfl, f⟩
                · have f := f.1 c_32
                  refine ab_aload_n C 1 dX5_readQ_132 rfl rfl ?_
                  refine ab_callV C (k := 0) (n := 0) (rest := []) [] cl_X5_45 (mt_X5_fail  hw_31 f) rfl (by decide) kd_91 (wf_lt hw_31 kd_91 rfl) ⟨rfl, rfl, Nat.le_trans (Nat.le_of_ble_eq_true rfl) (Nat.le_add_left 7 (d + 1)), Nat.le_trans (Nat.le_of_ble_eq_true rfl) (Nat.le_add_left 400 (64 * (d + 1))), Nat.zero_le _, Nat.zero_le _⟩ rfl rfl (Nat.le_of_ble_eq_true rfl) dX5_readQ_133 (ab_kv (k := 0) (n := 0) (fun h_33 hw_34 f => ?_))
                  refine ab_goto C (tgt := 143) dX5_readQ_136 (by decide) ?_
                  exact ab_vret C dX5_readQ_143 ⟨hw_34, rfl, f⟩
          · have f := f.1 c_17
            refine ab_iload_n C 2 dX5_readQ_64 rfl rfl ?_
            refine ab_iconst C (v := (5 : Int32)) dX5_readQ_65 (by decide) ?_
            refine ab_icmp_ge C (tgt := 95) dX5_readQ_66 (by decide) (fun c_35 => ?_) (fun c_35 => ?_)
            · have f := f.1 c_35
              refine ab_iload_n C 0 dX5_readQ_95 rfl rfl ?_
              refine ab_bipush C (v := (40 : Int32)) dX5_readQ_96 (by decide) ?_
              refine ab_icmp_ne C (tgt := 139) dX5_readQ_98 (by decide) (fun c_36 => ?_) (fun c_36 => ?_)
              · have f := f.2 c_36
                refine ab_aload_n C 1 dX5_readQ_139 rfl rfl ?_
                refine ab_callV C (k := 0) (n := 0) (rest := []) [] cl_X5_45 (mt_X5_fail  hw f) rfl (by decide) kd_91 (wf_lt hw kd_91 rfl) ⟨rfl, rfl, Nat.le_trans (Nat.le_of_ble_eq_true rfl) (Nat.le_add_left 7 (d + 1)), Nat.le_trans (Nat.le_of_ble_eq_true rfl) (Nat.le_add_left 400 (64 * (d + 1))), Nat.zero_le _, Nat.zero_le _⟩ rfl rfl (Nat.le_of_ble_eq_true rfl) dX5_readQ_140 (ab_kv (k := 0) (n := 0) (fun h_37 hw_38 f => ?_))
                exact ab_vret C dX5_readQ_143 ⟨hw_38, rfl, f⟩
              · have f := f.1 c_36
                refine ab_iload_n C 2 dX5_readQ_101 rfl rfl ?_
                refine ab_iconst C (v := (5 : Int32)) dX5_readQ_102 (by decide) ?_
                refine ab_icmp_ge C (tgt := 139) dX5_readQ_103 (by decide) (fun c_39 => ?_) (fun c_39 => ?_)
                · have f := f.1 c_39
                  refine ab_aload_n C 1 dX5_readQ_139 rfl rfl ?_
                  refine ab_callV C (k := 0) (n := 0) (rest := []) [] cl_X5_45 (mt_X5_fail  hw f) rfl (by decide) kd_91 (wf_lt hw kd_91 rfl) ⟨rfl, rfl, Nat.le_trans (Nat.le_of_ble_eq_true rfl) (Nat.le_add_left 7 (d + 1)), Nat.le_trans (Nat.le_of_ble_eq_true rfl) (Nat.le_add_left 400 (64 * (d + 1))), Nat.zero_le _, Nat.zero_le _⟩ rfl rfl (Nat.le_of_ble_eq_true rfl) dX5_readQ_140 (ab_kv (k := 0) (n := 0) (fun h_40 hw_41 f => ?_))
                  exact ab_vret C dX5_readQ_143 ⟨hw_41, rfl, f⟩
                · have f := f.2 c_39
                  refine ab_aload_n C 1 dX5_readQ_106 rfl rfl ?_
                  refine ab_dup C dX5_readQ_107 rfl ?_
                  refine ab_getI C fl_X5_32 rfl kd_91 (wf_lt hw kd_91 rfl) dX5_readQ_108 ?_
                  refine ab_iconst C (v := (1 : Int32)) dX5_readQ_111 (by decide) ?_
                  refine ab_iadd C dX5_readQ_112 ?_
                  refine ab_putI C fl_X5_32 rfl kd_91 (wf_lt hw kd_91 rfl) rfl rfl dX5_readQ_113 (fun h_42 e_43 => ?_)
                  have f := f h_42 e_43
                  have hw_44 := wf_si e_43 hw
                  refine ab_aload_n C 1 dX5_readQ_116 rfl rfl ?_
                  refine ab_iload_n C 2 dX5_readQ_117 rfl rfl ?_
                  refine ab_iconst C (v := (1 : Int32)) dX5_readQ_118 (by decide) ?_
                  refine ab_iadd C dX5_readQ_119 ?_
                  refine ab_callV C (k := 0) (n := 0) (rest := []) [.int (x1 + (1 : Int32))] cl_X5_41 (ih0.1 (x1 + (1 : Int32)) h_42 _ hw_44 f) rfl (by decide) kd_91 (wf_lt hw_44 kd_91 rfl) ⟨rfl, rfl, Nat.le_of_eq (Nat.add_right_comm d 7 1), (by show 8 + (3 + 11) + (64 * d + 400) ≤ 64 * (d + 1) + 400; omega), Nat.zero_le _, Nat.zero_le _⟩ rfl rfl (Nat.le_of_ble_eq_true rfl) dX5_readQ_120 (ab_kv (k := 0) (n := 0) (fun h_45 hw_46 f => ?_))
                  refine ab_aload_n C 1 dX5_readQ_123 rfl rfl ?_
                  refine ab_bipush C (v := (41 : Int32)) dX5_readQ_124 (by decide) ?_
                  refine ab_callV C (k := 0) (n := 0) (rest := []) [.int (41 : Int32)] cl_X5_56 (mt_X5_takes  hw_46 f) rfl (by decide) kd_91 (wf_lt hw_46 kd_91 rfl) ⟨rfl, rfl, Nat.le_trans (Nat.le_of_ble_eq_true rfl) (Nat.le_add_left 7 (d + 1)), Nat.le_trans (Nat.le_of_ble_eq_true rfl) (Nat.le_add_left 400 (64 * (d + 1))), Nat.zero_le _, Nat.zero_le _⟩ rfl rfl (Nat.le_of_ble_eq_true rfl) dX5_readQ_126 (ab_kh (k := 0) (n := 0) (fun v_47 h_48 hw_49 f => ?_))
                  refine ab_if_ne C (tgt := 143) dX5_readQ_129 (by decide) (fun c_50 => ?_) (fun c_50 => ?_)
                  · have f := f.2 c_50
                    exact ab_vret C dX5_readQ_143 ⟨hw_49, rfl, f⟩
                  · have f := f.1 c_50
                    refine ab_aload_n C 1 dX5_readQ_132 rfl rfl ?_
                    refine ab_callV C (k := 0) (n := 0) (rest := []) [] cl_X5_45 (mt_X5_fail  hw_49 f) rfl (by decide) kd_91 (wf_lt hw_49 kd_91 rfl) ⟨rfl, rfl, Nat.le_trans (Nat.le_of_ble_eq_true rfl) (Nat.le_add_left 7 (d + 1)), Nat.le_trans (Nat.le_of_ble_eq_true rfl) (Nat.le_add_left 400 (64 * (d + 1))), Nat.zero_le _, Nat.zero_le _⟩ rfl rfl (Nat.le_of_ble_eq_true rfl) dX5_readQ_133 (ab_kv (k := 0) (n := 0) (fun h_51 hw_52 f => ?_))
                    refine ab_goto C (tgt := 143) dX5_readQ_136 (by decide) ?_
                    exact ab_vret C dX5_readQ_143 ⟨hw_52, rfl, f⟩
            · have f := f.2 c_35
              refine ab_aload_n C 1 dX5_readQ_69 rfl rfl ?_
              refine ab_dup C dX5_readQ_70 rfl ?_
              refine ab_getI C fl_X5_32 rfl kd_91 (wf_lt hw kd_91 rfl) dX5_readQ_71 ?_
              refine ab_iconst C (v := (1 : Int32)) dX5_readQ_74 (by decide) ?_
              refine ab_iadd C dX5_readQ_75 ?_
              refine ab_putI C fl_X5_32 rfl kd_91 (wf_lt hw kd_91 rfl) rfl rfl dX5_readQ_76 (fun h_53 e_54 => ?_)
              have f := f h_53 e_54
              have hw_55 := wf_si e_54 hw
              refine ab_aload_n C 1 dX5_readQ_79 rfl rfl ?_
              refine ab_iload_n C 2 dX5_readQ_80 rfl rfl ?_
              refine ab_iconst C (v := (1 : Int32)) dX5_readQ_81 (by decide) ?_
              refine ab_iadd C dX5_readQ_82 ?_
              refine ab_callV C (k := 0) (n := 0) (rest := []) [.int (x1 + (1 : Int32))] cl_X5_76 (ih0.2.2.2.2.2 (x1 + (1 : Int32)) h_53 _ hw_55 f) rfl (by decide) kd_91 (wf_lt hw_55 kd_91 rfl) ⟨rfl, rfl, Nat.le_of_eq (Nat.add_right_comm d 7 1), (by show 8 + (3 + 11) + (64 * d + 400) ≤ 64 * (d + 1) + 400; omega), Nat.zero_le _, Nat.zero_le _⟩ rfl rfl (Nat.le_of_ble_eq_true rfl) dX5_readQ_83 (ab_kv (k := 0) (n := 0) (fun h_56 hw_57 f => ?_))
              refine ab_aload_n C 1 dX5_readQ_86 rfl rfl ?_
              refine ab_iload_n C 0 dX5_readQ_87 rfl rfl ?_
              refine ab_ineg C dX5_readQ_88 ?_
              refine ab_callV C (k := 0) (n := 0) (rest := []) [.int (-v_1)] cl_X5_60 (mt_X5_step  hw_57 f) rfl (by decide) kd_91 (wf_lt hw_57 kd_91 rfl) ⟨rfl, rfl, Nat.le_trans (Nat.le_of_ble_eq_true rfl) (Nat.le_add_left 7 (d + 1)), Nat.le_trans (Nat.le_of_ble_eq_true rfl) (Nat.le_add_left 400 (64 * (d + 1))), Nat.zero_le _, Nat.zero_le _⟩ rfl rfl (Nat.le_of_ble_eq_true rfl) dX5_readQ_89 (ab_kv (k := 0) (n := 0) (fun h_58 hw_59 f => ?_))
              refine ab_goto C (tgt := 143) dX5_readQ_92 (by decide) ?_
              exact ab_vret C dX5_readQ_143 ⟨hw_59, rfl, f⟩
        · have f := f.1 c_16
          refine ab_aload_n C 1 dX5_readQ_39 rfl rfl ?_
          refine ab_dup C dX5_readQ_40 rfl ?_
          refine ab_getI C fl_X5_32 rfl kd_91 (wf_lt hw kd_91 rfl) dX5_readQ_41 ?_
          refine ab_iconst C (v := (1 : Int32)) dX5_readQ_44 (by decide) ?_
          refine ab_iadd C dX5_readQ_45 ?_
          refine ab_putI C fl_X5_32 rfl kd_91 (wf_lt hw kd_91 rfl) rfl rfl dX5_readQ_46 (fun h_60 e_61 => ?_)
          have f := f h_60 e_61
          have hw_62 := wf_si e_61 hw
          refine ab_aload_n C 1 dX5_readQ_49 rfl rfl ?_
          refine ab_iload_n C 0 dX5_readQ_50 rfl rfl ?_
          refine ab_ineg C dX5_readQ_51 ?_
          refine ab_callV C (k := 0) (n := 0) (rest := []) [.int (-v_1)] cl_X5_60 (mt_X5_step  hw_62 f) rfl (by decide) kd_91 (wf_lt hw_62 kd_91 rfl) ⟨rfl, rfl, Nat.le_trans (Nat.le_of_ble_eq_true rfl) (Nat.le_add_left 7 (d + 1)), Nat.le_trans (Nat.le_of_ble_eq_true rfl) (Nat.le_add_left 400 (64 * (d + 1))), Nat.zero_le _, Nat.zero_le _⟩ rfl rfl (Nat.le_of_ble_eq_true rfl) dX5_readQ_52 (ab_kv (k := 0) (n := 0) (fun h_63 hw_64 f => ?_))
          refine ab_goto C (tgt := 143) dX5_readQ_55 (by decide) ?_
          exact ab_vret C dX5_readQ_143 ⟨hw_64, rfl, f⟩
  · have f := f.2 c_3
    refine ab_aload_n C 1 dX5_readQ_12 rfl rfl ?_
    refine ab_callV C (k := 0) (n := 0) (rest := []) [] cl_X5_82 (mt_X5_readNumber  hw f) rfl (by decide) kd_91 (wf_lt hw kd_91 rfl) ⟨rfl, rfl, Nat.le_trans (Nat.le_of_ble_eq_true rfl) (Nat.le_add_left 7 (d + 1)), Nat.le_trans (Nat.le_of_ble_eq_true rfl) (Nat.le_add_left 400 (64 * (d + 1))), Nat.zero_le _, Nat.zero_le _⟩ rfl rfl (Nat.le_of_ble_eq_true rfl) dX5_readQ_13 (ab_kv (k := 0) (n := 0) (fun h_65 hw_66 f => ?_))
    refine ab_goto C (tgt := 143) dX5_readQ_16 (by decide) ?_
    exact ab_vret C dX5_readQ_143 ⟨hw_66, rfl, f⟩
def wr_X5 : Nat → rt_X5
  | 0 => (fun _ _ _ => False, fun _ _ _ => False, fun _ _ _ => False, fun _ _ _ => False, fun _ _ _ => False, fun _ _ _ => False)
  | d + 1 => (fun x0 h Q => wp_X5_readT (wr_X5 d) x0 h Q, fun x0 h Q => wp_X5_readA (wr_X5 d) x0 h Q, fun x0 h Q => wp_X5_readB (wr_X5 d) x0 h Q, fun x0 h Q => wp_X5_readS (wr_X5 d) x0 h Q, fun x0 h Q => wp_X5_readP (wr_X5 d) x0 h Q, fun x0 h Q => wp_X5_readQ (wr_X5 d) x0 h Q)
theorem mr_X5 (l : Launch) (G : ab_G) : ∀ d, ih_X5 l G (wr_X5 d) d := by
  intro d
  induction d with
  | zero => exact ⟨fun _ _ _ _ f => absurd f id, fun _ _ _ _ f => absurd f id, fun _ _ _ _ f => absurd f id, fun _ _ _ _ f => absurd f id, fun _ _ _ _ f => absurd f id, fun _ _ _ _ f => absurd f id⟩
  | succ d ih => exact ⟨fun _ _ _ hw f => mt_X5_readT (rc := wr_X5 d) ih hw f, fun _ _ _ hw f => mt_X5_readA (rc := wr_X5 d) ih hw f, fun _ _ _ hw f => mt_X5_readB (rc := wr_X5 d) ih hw f, fun _ _ _ hw f => mt_X5_readS (rc := wr_X5 d) ih hw f, fun _ _ _ hw f => mt_X5_readP (rc := wr_X5 d) ih hw f, fun _ _ _ hw f => mt_X5_readQ (rc := wr_X5 d) ih hw f⟩
/-! X5_read -/
def rm_X5_read : Room := { frames := 68, cells := 3, slots := 122, locals := 4262 }
def wp_X5_read (a1 : Nat) (x2 : Int32) (x3 : Int32) (h : hp_T) (Q : Option Nat → hp_T → Prop) : Prop :=
  (∀ h_1, h_1 = hp_sr h 91 0 (some a1) → (∀ h_4, h_4 = hp_si h_1 91 1 (if (nI 60) < x2 then (nI 60) else x2) → (∀ h_7, h_7 = hp_si h_4 91 2 x3 → (∀ h_10, h_10 = hp_si h_7 91 3 (0 : Int32) → (∀ h_13, h_13 = hp_si h_10 91 5 (0 : Int32) → (∀ h_16, h_16 = hp_si h_13 91 6 (-1 : Int32) → (wr_X5 60).1 (0 : Int32) h_16 (fun h_19 => (((hp_i h_19 91 1) ≤ (hp_i h_19 91 3) → ((0 ≤ (hp_i h_19 91 6) → (Q none h_19)) ∧ (¬ (0 ≤ (hp_i h_19 91 6)) → (ab_k (hp_n h_19) = 4) ∧ (∀ h_23, h_23 = hp_no h_19 → ((hp_n h_19) < hp_n h_23) ∧ wp_X4_init (hp_n h_19) (hp_i h_23 91 5) h_23 (fun h_28 => (wf h_28) ∧ (Q (some (hp_n h_19)) h_28)))))) ∧ (¬ ((hp_i h_19 91 1) ≤ (hp_i h_19 91 3)) → wp_X5_fail h_19 (fun h_30 => ((0 ≤ (hp_i h_30 91 6) → (Q none h_30)) ∧ (¬ (0 ≤ (hp_i h_30 91 6)) → (ab_k (hp_n h_30) = 4) ∧ (∀ h_33, h_33 = hp_no h_30 → ((hp_n h_30) < hp_n h_33) ∧ wp_X4_init (hp_n h_30) (hp_i h_33 91 5) h_33 (fun h_38 => (wf h_38) ∧ (Q (some (hp_n h_30)) h_38)))))))))))))))
set_option maxRecDepth 100000 in
set_option maxHeartbeats 4000000 in
theorem mt_X5_read {l : Launch} {G : ab_G} {a1 : Nat} {x2 : Int32} {x3 : Int32} {h : hp_T} {Q : Option Nat → hp_T → Prop} (hk1 : ab_k a1 = 11) (hw : wf h) (f : wp_X5_read a1 x2 x3 h Q) : ab_M l G yX5_read cX5_read 4 (some (.object "DailyRelief$Text")) rm_X5_read 3 122 [.ref (G.1 + 91), .ref (G.1 + a1), .int x2, .int x3] h (po_q G Q) := by
  refine ab_intro (own := RX5) (nm := "read") rfl rfl rfl (Nat.le_of_ble_eq_true rfl) (fun F C => ?_)
  show ab_W l G F 4 (ab_MQ G F (po_q G Q) 3 122) 0 0 h [(0, .ref (G.1 + 91)), (1, .ref (G.1 + a1)), (2, .int x2), (3, .int x3)] [] 0
  unfold wp_X5_read at f
  refine ab_aload_n C 0 dX5_read_0 rfl rfl ?_
  refine ab_aload_n C 1 dX5_read_1 rfl rfl ?_
  refine ab_putR C (q := a1) fl_X5_15 rfl (fun h => absurd h (by decide)) kd_91 (wf_lt hw kd_91 rfl) (fun _ => rfl) (fun _ => rfl) dX5_read_2 (fun h_1 e_2 => ?_)
  have f := f h_1 e_2
  have hw_3 := wf_sr e_2 sr_tape hw
  refine ab_aload_n C 0 dX5_read_5 rfl rfl ?_
  refine ab_iload_n C 2 dX5_read_6 rfl rfl ?_
  refine ab_aload_n C 1 dX5_read_7 rfl rfl ?_
  refine ab_alen C (N := 60) (Or.inr hk1) (wf_lt hw_3 hk1 rfl) (wf_len hw_3 hk1 rfl rfl (by decide)) dX5_read_8 ?_
  refine ab_mmin C cm_X5_19 (by decide) (by decide) (by decide) (by decide) (Nat.le_of_ble_eq_true rfl) dX5_read_9 ?_
  refine ab_putI C fl_X5_25 rfl kd_91 (wf_lt hw_3 kd_91 rfl) rfl rfl dX5_read_12 (fun h_4 e_5 => ?_)
  have f := f h_4 e_5
  have hw_6 := wf_si e_5 hw_3
  refine ab_aload_n C 0 dX5_read_15 rfl rfl ?_
  refine ab_iload_n C 3 dX5_read_16 rfl rfl ?_
  refine ab_putI C fl_X5_29 rfl kd_91 (wf_lt hw_6 kd_91 rfl) rfl rfl dX5_read_17 (fun h_7 e_8 => ?_)
  have f := f h_7 e_8
  have hw_9 := wf_si e_8 hw_6
  refine ab_aload_n C 0 dX5_read_20 rfl rfl ?_
  refine ab_iconst C (v := (0 : Int32)) dX5_read_21 (by decide) ?_
  refine ab_putI C fl_X5_32 rfl kd_91 (wf_lt hw_9 kd_91 rfl) rfl rfl dX5_read_22 (fun h_10 e_11 => ?_)
  have f := f h_10 e_11
  have hw_12 := wf_si e_11 hw_9
  refine ab_aload_n C 0 dX5_read_25 rfl rfl ?_
  refine ab_iconst C (v := (0 : Int32)) dX5_read_26 (by decide) ?_
  refine ab_putI C fl_X5_35 rfl kd_91 (wf_lt hw_12 kd_91 rfl) rfl rfl dX5_read_27 (fun h_13 e_14 => ?_)
  have f := f h_13 e_14
  have hw_15 := wf_si e_14 hw_12
  refine ab_aload_n C 0 dX5_read_30 rfl rfl ?_
  refine ab_iconst C (v := (-1 : Int32)) dX5_read_31 (by decide) ?_
  refine ab_putI C fl_X5_38 rfl kd_91 (wf_lt hw_15 kd_91 rfl) rfl rfl dX5_read_32 (fun h_16 e_17 => ?_)
  have f := f h_16 e_17
  have hw_18 := wf_si e_17 hw_15
  refine ab_aload_n C 0 dX5_read_35 rfl rfl ?_
  refine ab_iconst C (v := (0 : Int32)) dX5_read_36 (by decide) ?_
  refine ab_callV C (k := 0) (n := 0) (rest := []) [.int (0 : Int32)] cl_X5_41 ((mr_X5 l G 60).1 (0 : Int32) h_16 _ hw_18 f) rfl (by decide) kd_91 (wf_lt hw_18 kd_91 rfl) ⟨rfl, rfl, Nat.le_of_ble_eq_true rfl, Nat.le_of_ble_eq_true rfl, Nat.zero_le _, Nat.zero_le _⟩ rfl rfl (Nat.le_of_ble_eq_true rfl) dX5_read_37 (ab_kv (k := 0) (n := 0) (fun h_19 hw_20 f => ?_))
  refine ab_aload_n C 0 dX5_read_40 rfl rfl ?_
  refine ab_getI C fl_X5_32 rfl kd_91 (wf_lt hw_20 kd_91 rfl) dX5_read_41 ?_
  refine ab_aload_n C 0 dX5_read_44 rfl rfl ?_
  refine ab_getI C fl_X5_25 rfl kd_91 (wf_lt hw_20 kd_91 rfl) dX5_read_45 ?_
  refine ab_icmp_ge C (tgt := 55) dX5_read_48 (by decide) (fun c_21 => ?_) (fun c_21 => ?_)
  · have f := f.1 c_21
    refine ab_aload_n C 0 dX5_read_55 rfl rfl ?_
    refine ab_getI C fl_X5_38 rfl kd_91 (wf_lt hw_20 kd_91 rfl) dX5_read_56 ?_
    refine ab_if_ge C (tgt := 80) dX5_read_59 (by decide) (fun c_22 => ?_) (fun c_22 => ?_)
    · have f := f.1 c_22
      refine ab_null C dX5_read_80 ?_
      refine ab_widen (k' := 3) (n' := 122) (Nat.le_of_ble_eq_true rfl) (Nat.le_of_ble_eq_true rfl) ?_
      exact ab_aret C (Or.inl rfl) dX5_read_81 ⟨hw_20, none, rfl, f⟩
    · have f := f.2 c_22
      obtain ⟨c_25, f⟩ := f
      refine ab_new C (k := 0) (n := 0) ac_4 cn_X5_48 c_25 (Nat.le_of_ble_eq_true rfl) (Nat.le_of_ble_eq_true rfl) dX5_read_62 (fun h_23 e_24 => ?_)
      have f := f h_23 e_24
      have hw_26 := wf_no e_24 hw_20
      refine ab_dup C dX5_read_65 rfl ?_
      refine ab_aload_n C 0 dX5_read_66 rfl rfl ?_
      refine ab_getR C (q := 92) fl_X5_9 rfl kd_91 (wf_lt hw_26 kd_91 rfl) (wr_5_4 hw_26) dX5_read_67 ?_
      refine ab_aload_n C 0 dX5_read_70 rfl rfl ?_
      refine ab_getI C fl_X5_35 rfl kd_91 (wf_lt hw_26 kd_91 rfl) dX5_read_71 ?_
      obtain ⟨c_27, f⟩ := f
      refine ab_callI C (k := 1) (n := 2) (rest := [.ref (G.1 + (hp_n h_19))]) [.ref (G.1 + 92), .int (hp_i h_23 91 5)] cl_X5_50 (mt_X4_init c_25  f) ⟨rfl, rfl, Nat.le_of_ble_eq_true rfl, Nat.le_of_ble_eq_true rfl, Nat.le_of_ble_eq_true rfl, Nat.le_of_ble_eq_true rfl⟩ rfl rfl (Nat.le_of_ble_eq_true rfl) dX5_read_74 (ab_kr (k := 3) (n := 122) (fun h_28 f => ?_))
      obtain ⟨c_29, f⟩ := f
      refine ab_goto C (tgt := 81) dX5_read_77 (by decide) ?_
      exact ab_aret C (Or.inr ⟨_, rfl⟩) dX5_read_81 ⟨c_29, some _, rfl, f⟩
  · have f := f.2 c_21
    refine ab_aload_n C 0 dX5_read_51 rfl rfl ?_
    refine ab_callV C (k := 0) (n := 0) (rest := []) [] cl_X5_45 (mt_X5_fail  hw_20 f) rfl (by decide) kd_91 (wf_lt hw_20 kd_91 rfl) ⟨rfl, rfl, Nat.le_of_ble_eq_true rfl, Nat.le_of_ble_eq_true rfl, Nat.zero_le _, Nat.zero_le _⟩ rfl rfl (Nat.le_of_ble_eq_true rfl) dX5_read_52 (ab_kv (k := 0) (n := 0) (fun h_30 hw_31 f => ?_))
    refine ab_aload_n C 0 dX5_read_55 rfl rfl ?_
    refine ab_getI C fl_X5_38 rfl kd_91 (wf_lt hw_31 kd_91 rfl) dX5_read_56 ?_
    refine ab_if_ge C (tgt := 80) dX5_read_59 (by decide) (fun c_32 => ?_) (fun c_32 => ?_)
    · have f := f.1 c_32
      refine ab_null C dX5_read_80 ?_
      refine ab_widen (k' := 3) (n' := 122) (Nat.le_of_ble_eq_true rfl) (Nat.le_of_ble_eq_true rfl) ?_
      exact ab_aret C (Or.inl rfl) dX5_read_81 ⟨hw_31, none, rfl, f⟩
    · have f := f.2 c_32
      obtain ⟨c_35, f⟩ := f
      refine ab_new C (k := 0) (n := 0) ac_4 cn_X5_48 c_35 (Nat.le_of_ble_eq_true rfl) (Nat.le_of_ble_eq_true rfl) dX5_read_62 (fun h_33 e_34 => ?_)
      have f := f h_33 e_34
      have hw_36 := wf_no e_34 hw_31
      refine ab_dup C dX5_read_65 rfl ?_
      refine ab_aload_n C 0 dX5_read_66 rfl rfl ?_
      refine ab_getR C (q := 92) fl_X5_9 rfl kd_91 (wf_lt hw_36 kd_91 rfl) (wr_5_4 hw_36) dX5_read_67 ?_
      refine ab_aload_n C 0 dX5_read_70 rfl rfl ?_
      refine ab_getI C fl_X5_35 rfl kd_91 (wf_lt hw_36 kd_91 rfl) dX5_read_71 ?_
      obtain ⟨c_37, f⟩ := f
      refine ab_callI C (k := 1) (n := 2) (rest := [.ref (G.1 + (hp_n h_30))]) [.ref (G.1 + 92), .int (hp_i h_33 91 5)] cl_X5_50 (mt_X4_init c_35  f) ⟨rfl, rfl, Nat.le_of_ble_eq_true rfl, Nat.le_of_ble_eq_true rfl, Nat.le_of_ble_eq_true rfl, Nat.le_of_ble_eq_true rfl⟩ rfl rfl (Nat.le_of_ble_eq_true rfl) dX5_read_74 (ab_kr (k := 3) (n := 122) (fun h_38 f => ?_))
      obtain ⟨c_39, f⟩ := f
      refine ab_goto C (tgt := 81) dX5_read_77 (by decide) ?_
      exact ab_aret C (Or.inr ⟨_, rfl⟩) dX5_read_81 ⟨c_39, some _, rfl, f⟩
