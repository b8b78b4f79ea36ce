/-! X7_error -/
def rm_X7_error : Room := { frames := 2, cells := 0, slots := 0, locals := 100 }
def wp_X7_error (x1 : Int32) (h : hp_T) (Q : Int32 → hp_T → Prop) : Prop :=
  (vp_in x1 7) ∧ (vp_in x1 7) ∧ (∀ h_3, h_3 = hp_si h 96 x1.toNatClampNeg ((hp_i h 96 x1.toNatClampNeg) + (1 : Int32)) → (Q ((-1000000000 : Int32) - x1) h_3))
set_option maxRecDepth 100000 in
set_option maxHeartbeats 4000000 in
theorem mt_X7_error {l : Launch} {G : ab_G} {x1 : Int32} {h : hp_T} {Q : Int32 → hp_T → Prop} (hw : wf h) (f : wp_X7_error x1 h Q) : ab_M l G yX7_error cX7_error 2 (some .int) rm_X7_error 0 0 [.ref (G.1 + 0), .int x1] h (po_h Q) := by
  refine ab_intro (own := RX7) (nm := "error") rfl rfl rfl (Nat.le_of_ble_eq_true rfl) (fun F C => ?_)
  show ab_W l G F 2 (ab_MQ G F (po_h Q) 0 0) 0 0 h [(0, .ref (G.1 + 0)), (1, .int x1)] [] 0
  unfold wp_X7_error at f
  refine ab_aload_n C 0 dX7_error_0 rfl rfl ?_
  refine ab_getR C (q := 96) fl_X7_42 rfl kd_0 (wf_lt hw kd_0 rfl) (wr_7_6 hw) dX7_error_1 ?_
  refine ab_iload_n C 1 dX7_error_4 rfl rfl ?_
  refine ab_dup2 C dX7_error_5 rfl rfl ?_
  obtain ⟨c_1, f⟩ := f
  refine ab_iald C (by rw [kd_96]; decide) (wf_lt hw kd_96 rfl) (wf_len hw kd_96 rfl rfl (by decide)) c_1 (j := x1.toNatClampNeg) rfl dX7_error_6 ?_
  refine ab_iconst C (v := (1 : Int32)) dX7_error_7 (by decide) ?_
  refine ab_iadd C dX7_error_8 ?_
  obtain ⟨c_2, f⟩ := f
  refine ab_iast C (by rw [kd_96]; decide) (wf_lt hw kd_96 rfl) (wf_len hw kd_96 rfl rfl (by decide)) c_2 (j := x1.toNatClampNeg) rfl dX7_error_9 (fun h_3 e_4 => ?_)
  have f := f h_3 e_4
  have hw_5 := wf_si e_4 hw
  refine ab_ldcw C kw_t275 dX7_error_10 ?_
  refine ab_iload_n C 1 dX7_error_13 rfl rfl ?_
  refine ab_isub C dX7_error_14 ?_
  exact ab_iret C dX7_error_15 ⟨hw_5, _, rfl, f⟩
/-! X7_isBunk -/
def rm_X7_isBunk : Room := { frames := 3, cells := 0, slots := 0, locals := 122 }
def wp_X7_isBunk (x1 : Int32) (h : hp_T) (Q : Int32 → Prop) : Prop :=
  wp_X7_within x1 (0 : Int32) ((hp_i h 1 1) - (1 : Int32)) h (fun v_1 => (bo_ok v_1) ∧ (Q v_1))
set_option maxRecDepth 100000 in
set_option maxHeartbeats 4000000 in
theorem mt_X7_isBunk {l : Launch} {G : ab_G} {x1 : Int32} {h : hp_T} {Q : Int32 → Prop} (hw : wf h) (f : wp_X7_isBunk x1 h Q) : ab_M l G yX7_isBunk cX7_isBunk 2 (some .boolean) rm_X7_isBunk 0 0 [.ref (G.1 + 0), .int x1] h (po_p h Q) := by
  refine ab_intro (own := RX7) (nm := "isBunk") rfl rfl rfl (Nat.le_of_ble_eq_true rfl) (fun F C => ?_)
  show ab_W l G F 2 (ab_MQ G F (po_p h Q) 0 0) 0 0 h [(0, .ref (G.1 + 0)), (1, .int x1)] [] 0
  unfold wp_X7_isBunk at f
  refine ab_iload_n C 1 dX7_isBunk_0 rfl rfl ?_
  refine ab_iconst C (v := (0 : Int32)) dX7_isBunk_1 (by decide) ?_
  refine ab_aload_n C 0 dX7_isBunk_2 rfl rfl ?_
  refine ab_getR C (q := 1) fl_X7_10 rfl kd_0 (wf_lt hw kd_0 rfl) (wr_7_0 hw) dX7_isBunk_3 ?_
  refine ab_getI C fl_X7_55 rfl kd_1 (wf_lt hw kd_1 rfl) dX7_isBunk_6 ?_
  refine ab_iconst C (v := (1 : Int32)) dX7_isBunk_9 (by decide) ?_
  refine ab_isub C dX7_isBunk_10 ?_
  refine ab_callS C (k := 0) (n := 0) (rest := []) [.int x1, .int (0 : Int32), .int ((hp_i h 1 1) - (1 : Int32))] cl_X7_47 (mt_X7_within  hw f) ⟨rfl, rfl, Nat.le_of_ble_eq_true rfl, Nat.le_of_ble_eq_true rfl, Nat.zero_le _, Nat.zero_le _⟩ rfl rfl (Nat.le_of_ble_eq_true rfl) dX7_isBunk_11 (ab_kp (k := 0) (n := 0) (fun v_1 f => ?_))
  obtain ⟨c_2, f⟩ := f
  exact ab_zret C dX7_isBunk_14 (bo_nar c_2) ⟨rfl, _, rfl, f⟩
/-! X7_as -/
def rm_X7_as : Room := { frames := 4, cells := 0, slots := 0, locals := 143 }
def wp_X7_as (x1 : Int32) (x2 : Int32) (h : hp_T) (Q : Int32 → hp_T → Prop) : Prop :=
  wp_X7_isBunk x1 h (fun v_1 => ((v_1 = 0 → wp_X7_error (1 : Int32) h (fun v_3 h_4 => (Q v_3 h_4))) ∧ (¬ (v_1 = 0) → wp_X7_within x2 (0 : Int32) (6 : Int32) h (fun v_6 => ((v_6 = 0 → wp_X7_error (1 : Int32) h (fun v_15 h_16 => (Q v_15 h_16))) ∧ (¬ (v_6 = 0) → (vp_in x1 6) ∧ wp_X0_isOf (1 + 8 + 3 * x1.toNatClampNeg) x2 h (fun v_9 => ((v_9 = 0 → wp_X7_error (5 : Int32) h (fun v_12 h_13 => (Q v_12 h_13))) ∧ (¬ (v_9 = 0) → (vp_in x1 6) ∧ (Q (hp_i h (1 + 8 + 3 * x1.toNatClampNeg) 3) h))))))))))
set_option maxRecDepth 100000 in
set_option maxHeartbeats 4000000 in
theorem mt_X7_as {l : Launch} {G : ab_G} {x1 : Int32} {x2 : Int32} {h : hp_T} {Q : Int32 → hp_T → Prop} (hw : wf h) (f : wp_X7_as x1 x2 h Q) : ab_M l G yX7_as cX7_as 3 (some .int) rm_X7_as 0 0 [.ref (G.1 + 0), .int x1, .int x2] h (po_h Q) := by
  refine ab_intro (own := RX7) (nm := "as") rfl rfl rfl (Nat.le_of_ble_eq_true rfl) (fun F C => ?_)
  show ab_W l G F 3 (ab_MQ G F (po_h Q) 0 0) 0 0 h [(0, .ref (G.1 + 0)), (1, .int x1), (2, .int x2)] [] 0
  unfold wp_X7_as at f
  refine ab_aload_n C 0 dX7_as_0 rfl rfl ?_
  refine ab_iload_n C 1 dX7_as_1 rfl rfl ?_
  refine ab_callV C (k := 0) (n := 0) (rest := []) [.int x1] cl_X7_62 (mt_X7_isBunk  hw f) rfl (by decide) kd_0 (wf_lt hw kd_0 rfl) ⟨rfl, rfl, Nat.le_of_ble_eq_true rfl, Nat.le_of_ble_eq_true rfl, Nat.zero_le _, Nat.zero_le _⟩ rfl rfl (Nat.le_of_ble_eq_true rfl) dX7_as_2 (ab_kp (k := 0) (n := 0) (fun v_1 f => ?_))
  refine ab_if_eq C (tgt := 18) dX7_as_5 (by decide) (fun c_2 => ?_) (fun c_2 => ?_)
  · have f := f.1 c_2
    refine ab_aload_n C 0 dX7_as_18 rfl rfl ?_
    refine ab_iconst C (v := (1 : Int32)) dX7_as_19 (by decide) ?_
    refine ab_callV C (k := 0) (n := 0) (rest := []) [.int (1 : Int32)] cl_X7_51 (mt_X7_error  hw f) rfl (by decide) kd_0 (wf_lt hw kd_0 rfl) ⟨rfl, rfl, Nat.le_of_ble_eq_true rfl, Nat.le_of_ble_eq_true rfl, Nat.zero_le _, Nat.zero_le _⟩ rfl rfl (Nat.le_of_ble_eq_true rfl) dX7_as_20 (ab_kh (k := 0) (n := 0) (fun v_3 h_4 hw_5 f => ?_))
    exact ab_iret C dX7_as_23 ⟨hw_5, _, rfl, f⟩
  · have f := f.2 c_2
    refine ab_iload_n C 2 dX7_as_8 rfl rfl ?_
    refine ab_iconst C (v := (0 : Int32)) dX7_as_9 (by decide) ?_
    refine ab_bipush C (v := (6 : Int32)) dX7_as_10 (by decide) ?_
    refine ab_callS C (k := 0) (n := 0) (rest := []) [.int x2, .int (0 : Int32), .int (6 : Int32)] cl_X7_47 (mt_X7_within  hw f) ⟨rfl, rfl, Nat.le_of_ble_eq_true rfl, Nat.le_of_ble_eq_true rfl, Nat.zero_le _, Nat.zero_le _⟩ rfl rfl (Nat.le_of_ble_eq_true rfl) dX7_as_12 (ab_kp (k := 0) (n := 0) (fun v_6 f => ?_))
    refine ab_if_ne C (tgt := 24) dX7_as_15 (by decide) (fun c_7 => ?_) (fun c_7 => ?_)
    · have f := f.2 c_7
      refine ab_aload_n C 0 dX7_as_24 rfl rfl ?_
      refine ab_getR C (q := 1) fl_X7_10 rfl kd_0 (wf_lt hw kd_0 rfl) (wr_7_0 hw) dX7_as_25 ?_
      refine ab_getR C (q := (1 + 1)) fl_X7_70 rfl kd_1 (wf_lt hw kd_1 rfl) (wr_2_0 hw kd_1) dX7_as_28 ?_
      refine ab_iload_n C 1 dX7_as_31 rfl rfl ?_
      obtain ⟨c_8, f⟩ := f
      refine ab_aaldR C (q := (1 + 8 + 3 * x1.toNatClampNeg)) (kn_2_0 kd_1) (Or.inl rfl) (wf_lt hw (kn_2_0 kd_1) rfl) (wf_len hw (kn_2_0 kd_1) rfl rfl (by decide)) c_8 (j := x1.toNatClampNeg) rfl (wx_bunk hw kd_1 (vp_in_lt c_8)) dX7_as_32 ?_
      refine ab_iload_n C 2 dX7_as_33 rfl rfl ?_
      refine ab_callV C (k := 0) (n := 0) (rest := []) [.int x2] cl_X7_74 (mt_X0_isOf (kx_bunk kd_1 (vp_in_lt c_8)) hw f) rfl (by decide) (kx_bunk kd_1 (vp_in_lt c_8)) (wf_lt hw (kx_bunk kd_1 (vp_in_lt c_8)) rfl) ⟨rfl, rfl, Nat.le_of_ble_eq_true rfl, Nat.le_of_ble_eq_true rfl, Nat.zero_le _, Nat.zero_le _⟩ rfl rfl (Nat.le_of_ble_eq_true rfl) dX7_as_34 (ab_kp (k := 0) (n := 0) (fun v_9 f => ?_))
      refine ab_if_ne C (tgt := 46) dX7_as_37 (by decide) (fun c_10 => ?_) (fun c_10 => ?_)
      · have f := f.2 c_10
        refine ab_aload_n C 0 dX7_as_46 rfl rfl ?_
        refine ab_getR C (q := 1) fl_X7_10 rfl kd_0 (wf_lt hw kd_0 rfl) (wr_7_0 hw) dX7_as_47 ?_
        refine ab_getR C (q := (1 + 1)) fl_X7_70 rfl kd_1 (wf_lt hw kd_1 rfl) (wr_2_0 hw kd_1) dX7_as_50 ?_
        refine ab_iload_n C 1 dX7_as_53 rfl rfl ?_
        obtain ⟨c_11, f⟩ := f
        refine ab_aaldR C (q := (1 + 8 + 3 * x1.toNatClampNeg)) (kn_2_0 kd_1) (Or.inl rfl) (wf_lt hw (kn_2_0 kd_1) rfl) (wf_len hw (kn_2_0 kd_1) rfl rfl (by decide)) c_11 (j := x1.toNatClampNeg) rfl (wx_bunk hw kd_1 (vp_in_lt c_11)) dX7_as_54 ?_
        refine ab_getI C fl_X7_79 rfl (kx_bunk kd_1 (vp_in_lt c_11)) (wf_lt hw (kx_bunk kd_1 (vp_in_lt c_11)) rfl) dX7_as_55 ?_
        exact ab_iret C dX7_as_58 ⟨hw, _, rfl, f⟩
      · have f := f.1 c_10
        refine ab_aload_n C 0 dX7_as_40 rfl rfl ?_
        refine ab_iconst C (v := (5 : Int32)) dX7_as_41 (by decide) ?_
        refine ab_callV C (k := 0) (n := 0) (rest := []) [.int (5 : Int32)] cl_X7_51 (mt_X7_error  hw f) rfl (by decide) kd_0 (wf_lt hw kd_0 rfl) ⟨rfl, rfl, Nat.le_of_ble_eq_true rfl, Nat.le_of_ble_eq_true rfl, Nat.zero_le _, Nat.zero_le _⟩ rfl rfl (Nat.le_of_ble_eq_true rfl) dX7_as_42 (ab_kh (k := 0) (n := 0) (fun v_12 h_13 hw_14 f => ?_))
        exact ab_iret C dX7_as_45 ⟨hw_14, _, rfl, f⟩
    · have f := f.1 c_7
      refine ab_aload_n C 0 dX7_as_18 rfl rfl ?_
      refine ab_iconst C (v := (1 : Int32)) dX7_as_19 (by decide) ?_
      refine ab_callV C (k := 0) (n := 0) (rest := []) [.int (1 : Int32)] cl_X7_51 (mt_X7_error  hw f) rfl (by decide) kd_0 (wf_lt hw kd_0 rfl) ⟨rfl, rfl, Nat.le_of_ble_eq_true rfl, Nat.le_of_ble_eq_true rfl, Nat.zero_le _, Nat.zero_le _⟩ rfl rfl (Nat.le_of_ble_eq_true rfl) dX7_as_20 (ab_kh (k := 0) (n := 0) (fun v_15 h_16 hw_17 f => ?_))
      exact ab_iret C dX7_as_23 ⟨hw_17, _, rfl, f⟩
/-! X7_began -/
def rm_X7_began : Room := { frames := 5, cells := 0, slots := 0, locals := 163 }
def wp_X7_began_L32 (x1 : Int32) (x2 : Int32) (Q : Int32 → hp_T → Prop) : Nat → Int32 → Int32 → Int32 → hp_T → Prop
  | 0 => fun _ _ _ _ => False
  | nn + 1 => fun y3 y4 y5 h => (((hp_i h 1 1) ≤ y5 → ((y3 = 0 → wp_X7_error (2 : Int32) h (fun v_10 h_11 => (Q v_10 h_11))) ∧ (¬ (y3 = 0) → (Q y4 h)))) ∧ (¬ ((hp_i h 1 1) ≤ y5) → (vp_in y5 6) ∧ wp_X0_knows (1 + 8 + 3 * y5.toNatClampNeg) x1 h (fun v_14 => ((v_14 = 0 → (wp_X7_began_L32 x1 x2 Q nn) y3 y4 (y5 + (1 : Int32)) h) ∧ (¬ (v_14 = 0) → (vp_in x1 6) ∧ (((hp_i h ((1 + 8 + 3 * y5.toNatClampNeg) + 1) x1.toNatClampNeg) = x2 → ((y3 = 0 → (wp_X7_began_L32 x1 x2 Q nn) (1 : Int32) (hp_i h (1 + 8 + 3 * y5.toNatClampNeg) 2) (y5 + (1 : Int32)) h) ∧ (¬ (y3 = 0) → (wp_X7_began_L32 x1 x2 Q nn) (1 : Int32) (if (hp_i h (1 + 8 + 3 * y5.toNatClampNeg) 2) < y4 then (hp_i h (1 + 8 + 3 * y5.toNatClampNeg) 2) else y4) (y5 + (1 : Int32)) h))) ∧ (¬ ((hp_i h ((1 + 8 + 3 * y5.toNatClampNeg) + 1) x1.toNatClampNeg) = x2) → (wp_X7_began_L32 x1 x2 Q nn) y3 y4 (y5 + (1 : Int32)) h)))))))
set_option maxRecDepth 100000 in
set_option maxHeartbeats 4000000 in
theorem bt_X7_began_L32 {l : Launch} {G : ab_G} {F : ab_F} {x1 : Int32} {x2 : Int32} {Q : Int32 → hp_T → Prop}  (C : ab_C G F rm_X7_began cX7_began 7 RX7 (some .int) "began")   : ∀ (nn : Nat) (y3 : Int32) (y4 : Int32) (y5 : Int32) (h : hp_T), wf h → wp_X7_began_L32 x1 x2 Q nn y3 y4 y5 h → ab_W l G F 7 (ab_MQ G F (po_h Q) 0 0) 0 0 h [(0, .ref (G.1 + 0)), (1, .int x1), (2, .int x2), (3, .int y3), (4, .int y4), (5, .int y5)] [] 32 := by
  intro nn
  induction nn with
  | zero =>
    intro y3 y4 y5 h hw f
    exact absurd f id
  | succ nn ih =>
    intro y3 y4 y5 h hw f
    unfold wp_X7_began_L32 at f
    refine ab_iload C 5 dX7_began_32 rfl ?_
    refine ab_aload_n C 0 dX7_began_34 rfl rfl ?_
    refine ab_getR C (q := 1) fl_X7_10 rfl kd_0 (wf_lt hw kd_0 rfl) (wr_7_0 hw) dX7_began_35 ?_
    refine ab_getI C fl_X7_55 rfl kd_1 (wf_lt hw kd_1 rfl) dX7_began_38 ?_
    refine ab_icmp_ge C (tgt := 108) dX7_began_41 (by decide) (fun c_8 => ?_) (fun c_8 => ?_)
    · have f := f.1 c_8
      refine ab_iload_n C 3 dX7_began_108 rfl rfl ?_
      refine ab_if_eq C (tgt := 117) dX7_began_109 (by decide) (fun c_9 => ?_) (fun c_9 => ?_)
      · have f := f.1 c_9
        refine ab_aload_n C 0 dX7_began_117 rfl rfl ?_
        refine ab_iconst C (v := (2 : Int32)) dX7_began_118 (by decide) ?_
        refine ab_callV C (k := 0) (n := 0) (rest := []) [.int (2 : Int32)] cl_X7_51 (mt_X7_error  hw f) rfl (by decide) kd_0 (wf_lt hw kd_0 rfl) ⟨rfl, rfl, Nat.le_of_ble_eq_true rfl, Nat.le_of_ble_eq_true rfl, Nat.zero_le _, Nat.zero_le _⟩ rfl rfl (Nat.le_of_ble_eq_true rfl) dX7_began_119 (ab_kh (k := 0) (n := 0) (fun v_10 h_11 hw_12 f => ?_))
        exact ab_iret C dX7_began_122 ⟨hw_12, _, rfl, f⟩
      · have f := f.2 c_9
        refine ab_iload C 4 dX7_began_112 rfl ?_
        refine ab_goto C (tgt := 122) dX7_began_114 (by decide) ?_
        exact ab_iret C dX7_began_122 ⟨hw, _, rfl, f⟩
    · have f := f.2 c_8
      refine ab_aload_n C 0 dX7_began_44 rfl rfl ?_
      refine ab_getR C (q := 1) fl_X7_10 rfl kd_0 (wf_lt hw kd_0 rfl) (wr_7_0 hw) dX7_began_45 ?_
      refine ab_getR C (q := (1 + 1)) fl_X7_70 rfl kd_1 (wf_lt hw kd_1 rfl) (wr_2_0 hw kd_1) dX7_began_48 ?_
      refine ab_iload C 5 dX7_began_51 rfl ?_
      obtain ⟨c_13, f⟩ := f
      refine ab_aaldR C (q := (1 + 8 + 3 * y5.toNatClampNeg)) (kn_2_0 kd_1) (Or.inl rfl) (wf_lt hw (kn_2_0 kd_1) rfl) (wf_len hw (kn_2_0 kd_1) rfl rfl (by decide)) c_13 (j := y5.toNatClampNeg) rfl (wx_bunk hw kd_1 (vp_in_lt c_13)) dX7_began_53 ?_
      refine ab_astore C (lv' := [(6, .ref (G.1 + (1 + 8 + 3 * y5.toNatClampNeg))), (0, .ref (G.1 + 0)), (1, .int x1), (2, .int x2), (3, .int y3), (4, .int y4), (5, .int y5)]) dX7_began_54 (by decide) rfl ?_
      refine ab_aload C 0 dX7_began_56 rfl ?_
      refine ab_iload_n C 2 dX7_began_58 rfl rfl ?_
      refine ab_callV C (k := 0) (n := 0) (rest := []) [.int x1] cl_X7_98 (mt_X0_knows (kx_bunk kd_1 (vp_in_lt c_13)) hw f) rfl (by decide) (kx_bunk kd_1 (vp_in_lt c_13)) (wf_lt hw (kx_bunk kd_1 (vp_in_lt c_13)) rfl) ⟨rfl, rfl, Nat.le_of_ble_eq_true rfl, Nat.le_of_ble_eq_true rfl, Nat.zero_le _, Nat.zero_le _⟩ rfl rfl (Nat.le_of_ble_eq_true rfl) dX7_began_59 (ab_kp (k := 0) (n := 0) (fun v_14 f => ?_))
      refine ab_if_eq C (tgt := 102) dX7_began_62 (by decide) (fun c_15 => ?_) (fun c_15 => ?_)
      · have f := f.1 c_15
        refine ab_iinc C (lv' := [(5, .int (y5 + (1 : Int32))), (6, .ref (G.1 + (1 + 8 + 3 * y5.toNatClampNeg))), (0, .ref (G.1 + 0)), (1, .int x1), (2, .int x2), (3, .int y3), (4, .int y4)]) 6 (v := (y5 + (1 : Int32))) dX7_began_102 rfl rfl (by decide) rfl ?_
        refine ab_goto C (tgt := 32) dX7_began_105 (by decide) ?_
        refine ab_sub (lv' := [(0, .ref (G.1 + 0)), (1, .int x1), (2, .int x2), (3, .int y3), (4, .int y4), (5, .int (y5 + (1 : Int32)))]) [2, 3, 4, 5, 6, 0] rfl ?_
        exact ih y3 y4 (y5 + (1 : Int32)) h  hw f
      · have f := f.2 c_15
        refine ab_aload C 0 dX7_began_65 rfl ?_
        refine ab_getR C (q := ((1 + 8 + 3 * y5.toNatClampNeg) + 1)) fl_X7_101 rfl (kx_bunk kd_1 (vp_in_lt c_13)) (wf_lt hw (kx_bunk kd_1 (vp_in_lt c_13)) rfl) (wr_0_5 hw (kx_bunk kd_1 (vp_in_lt c_13))) dX7_began_67 ?_
        refine ab_iload_n C 2 dX7_began_70 rfl rfl ?_
        obtain ⟨c_16, f⟩ := f
        refine ab_iald C (by rw [(kn_0_5 (kx_bunk kd_1 (vp_in_lt c_13)))]; decide) (wf_lt hw (kn_0_5 (kx_bunk kd_1 (vp_in_lt c_13))) rfl) (wf_len hw (kn_0_5 (kx_bunk kd_1 (vp_in_lt c_13))) rfl rfl (by decide)) c_16 (j := x1.toNatClampNeg) rfl dX7_began_71 ?_
        refine ab_iload_n C 3 dX7_began_72 rfl rfl ?_
        refine ab_icmp_ne C (tgt := 102) dX7_began_73 (by decide) (fun c_17 => ?_) (fun c_17 => ?_)
        · have f := f.2 c_17
          refine ab_iinc C (lv' := [(5, .int (y5 + (1 : Int32))), (6, .ref (G.1 + (1 + 8 + 3 * y5.toNatClampNeg))), (0, .ref (G.1 + 0)), (1, .int x1), (2, .int x2), (3, .int y3), (4, .int y4)]) 6 (v := (y5 + (1 : Int32))) dX7_began_102 rfl rfl (by decide) rfl ?_
          refine ab_goto C (tgt := 32) dX7_began_105 (by decide) ?_
          refine ab_sub (lv' := [(0, .ref (G.1 + 0)), (1, .int x1), (2, .int x2), (3, .int y3), (4, .int y4), (5, .int (y5 + (1 : Int32)))]) [2, 3, 4, 5, 6, 0] rfl ?_
          exact ih y3 y4 (y5 + (1 : Int32)) h  hw f
        · have f := f.1 c_17
          refine ab_iload_n C 4 dX7_began_76 rfl rfl ?_
          refine ab_if_eq C (tgt := 93) dX7_began_77 (by decide) (fun c_18 => ?_) (fun c_18 => ?_)
          · have f := f.1 c_18
            refine ab_aload C 0 dX7_began_93 rfl ?_
            refine ab_getI C fl_X7_193 rfl (kx_bunk kd_1 (vp_in_lt c_13)) (wf_lt hw (kx_bunk kd_1 (vp_in_lt c_13)) rfl) dX7_began_95 ?_
            refine ab_istore C (lv' := [(4, .int (hp_i h (1 + 8 + 3 * y5.toNatClampNeg) 2)), (6, .ref (G.1 + (1 + 8 + 3 * y5.toNatClampNeg))), (0, .ref (G.1 + 0)), (1, .int x1), (2, .int x2), (3, .int y3), (5, .int y5)]) dX7_began_98 (by decide) rfl ?_
            refine ab_iconst C (v := (1 : Int32)) dX7_began_100 (by decide) ?_
            refine ab_istore_n C (lv' := [(3, .int (1 : Int32)), (4, .int (hp_i h (1 + 8 + 3 * y5.toNatClampNeg) 2)), (6, .ref (G.1 + (1 + 8 + 3 * y5.toNatClampNeg))), (0, .ref (G.1 + 0)), (1, .int x1), (2, .int x2), (5, .int y5)]) dX7_began_101 rfl (by decide) rfl ?_
            refine ab_iinc C (lv' := [(5, .int (y5 + (1 : Int32))), (3, .int (1 : Int32)), (4, .int (hp_i h (1 + 8 + 3 * y5.toNatClampNeg) 2)), (6, .ref (G.1 + (1 + 8 + 3 * y5.toNatClampNeg))), (0, .ref (G.1 + 0)), (1, .int x1), (2, .int x2)]) 6 (v := (y5 + (1 : Int32))) dX7_began_102 rfl rfl (by decide) rfl ?_
            refine ab_goto C (tgt := 32) dX7_began_105 (by decide) ?_
            refine ab_sub (lv' := [(0, .ref (G.1 + 0)), (1, .int x1), (2, .int x2), (3, .int (1 : Int32)), (4, .int (hp_i h (1 + 8 + 3 * y5.toNatClampNeg) 2)), (5, .int (y5 + (1 : Int32)))]) [4, 5, 6, 1, 2, 0] rfl ?_
            exact ih (1 : Int32) (hp_i h (1 + 8 + 3 * y5.toNatClampNeg) 2) (y5 + (1 : Int32)) h  hw f
          · have f := f.2 c_18
            refine ab_iload C 5 dX7_began_80 rfl ?_
            refine ab_aload C 0 dX7_began_82 rfl ?_
            refine ab_getI C fl_X7_193 rfl (kx_bunk kd_1 (vp_in_lt c_13)) (wf_lt hw (kx_bunk kd_1 (vp_in_lt c_13)) rfl) dX7_began_84 ?_
            refine ab_mmin C cm_X7_196 (by decide) (by decide) (by decide) (by decide) (Nat.le_of_ble_eq_true rfl) dX7_began_87 ?_
            refine ab_goto C (tgt := 98) dX7_began_90 (by decide) ?_
            refine ab_istore C (lv' := [(4, .int (if (hp_i h (1 + 8 + 3 * y5.toNatClampNeg) 2) < y4 then (hp_i h (1 + 8 + 3 * y5.toNatClampNeg) 2) else y4)), (6, .ref (G.1 + (1 + 8 + 3 * y5.toNatClampNeg))), (0, .ref (G.1 + 0)), (1, .int x1), (2, .int x2), (3, .int y3), (5, .int y5)]) dX7_began_98 (by decide) rfl ?_
            refine ab_iconst C (v := (1 : Int32)) dX7_began_100 (by decide) ?_
            refine ab_istore_n C (lv' := [(3, .int (1 : Int32)), (4, .int (if (hp_i h (1 + 8 + 3 * y5.toNatClampNeg) 2) < y4 then (hp_i h (1 + 8 + 3 * y5.toNatClampNeg) 2) else y4)), (6, .ref (G.1 + (1 + 8 + 3 * y5.toNatClampNeg))), (0, .ref (G.1 + 0)), (1, .int x1), (2, .int x2), (5, .int y5)]) dX7_began_101 rfl (by decide) rfl ?_
            refine ab_iinc C (lv' := [(5, .int (y5 + (1 : Int32))), (3, .int (1 : Int32)), (4, .int (if (hp_i h (1 + 8 + 3 * y5.toNatClampNeg) 2) < y4 then (hp_i h (1 + 8 + 3 * y5.toNatClampNeg) 2) else y4)), (6, .ref (G.1 + (1 + 8 + 3 * y5.toNatClampNeg))), (0, .ref (G.1 + 0)), (1, .int x1), (2, .int x2)]) 6 (v := (y5 + (1 : Int32))) dX7_began_102 rfl rfl (by decide) rfl ?_
            refine ab_goto C (tgt := 32) dX7_began_105 (by decide) ?_
            refine ab_sub (lv' := [(0, .ref (G.1 + 0)), (1, .int x1), (2, .int x2), (3, .int (1 : Int32)), (4, .int (if (hp_i h (1 + 8 + 3 * y5.toNatClampNeg) 2) < y4 then (hp_i h (1 + 8 + 3 * y5.toNatClampNeg) 2) else y4)), (5, .int (y5 + (1 : Int32)))]) [4, 5, 6, 1, 2, 0] rfl ?_
            exact ih (1 : Int32) (if (hp_i h (1 + 8 + 3 * y5.toNatClampNeg) 2) < y4 then (hp_i h (1 + 8 + 3 * y5.toNatClampNeg) 2) else y4) (y5 + (1 : Int32)) h  hw f
def wp_X7_began (x1 : Int32) (x2 : Int32) (h : hp_T) (Q : Int32 → hp_T → Prop) : Prop :=
  wp_X7_isKnack x1 h (fun v_1 => ((v_1 = 0 → wp_X7_error (1 : Int32) h (fun v_3 h_4 => (Q v_3 h_4))) ∧ (¬ (v_1 = 0) → wp_X7_within x2 (0 : Int32) (999 : Int32) h (fun v_6 => ((v_6 = 0 → wp_X7_error (1 : Int32) h (fun v_19 h_20 => (Q v_19 h_20))) ∧ (¬ (v_6 = 0) → (∃ n0, wp_X7_began_L32 x1 x2 Q  n0 (0 : Int32) (0 : Int32) (0 : Int32) h)))))))
set_option maxRecDepth 100000 in
set_option maxHeartbeats 4000000 in
theorem mt_X7_began {l : Launch} {G : ab_G} {x1 : Int32} {x2 : Int32} {h : hp_T} {Q : Int32 → hp_T → Prop} (hw : wf h) (f : wp_X7_began x1 x2 h Q) : ab_M l G yX7_began cX7_began 7 (some .int) rm_X7_began 0 0 [.ref (G.1 + 0), .int x1, .int x2] h (po_h Q) := by
  refine ab_intro (own := RX7) (nm := "began") rfl rfl rfl (Nat.le_of_ble_eq_true rfl) (fun F C => ?_)
  show ab_W l G F 7 (ab_MQ G F (po_h Q) 0 0) 0 0 h [(0, .ref (G.1 + 0)), (1, .int x1), (2, .int x2)] [] 0
  unfold wp_X7_began at f
  refine ab_iload_n C 1 dX7_began_0 rfl rfl ?_
  refine ab_callS C (k := 0) (n := 0) (rest := []) [.int x1] cl_X7_95 (mt_X7_isKnack  hw f) ⟨rfl, rfl, Nat.le_of_ble_eq_true rfl, Nat.le_of_ble_eq_true rfl, Nat.zero_le _, Nat.zero_le _⟩ rfl rfl (Nat.le_of_ble_eq_true rfl) dX7_began_1 (ab_kp (k := 0) (n := 0) (fun v_1 f => ?_))
  refine ab_if_eq C (tgt := 18) dX7_began_4 (by decide) (fun c_2 => ?_) (fun c_2 => ?_)
  · have f := f.1 c_2
    refine ab_aload_n C 0 dX7_began_18 rfl rfl ?_
    refine ab_iconst C (v := (1 : Int32)) dX7_began_19 (by decide) ?_
    refine ab_callV C (k := 0) (n := 0) (rest := []) [.int (1 : Int32)] cl_X7_51 (mt_X7_error  hw f) rfl (by decide) kd_0 (wf_lt hw kd_0 rfl) ⟨rfl, rfl, Nat.le_of_ble_eq_true rfl, Nat.le_of_ble_eq_true rfl, Nat.zero_le _, Nat.zero_le _⟩ rfl rfl (Nat.le_of_ble_eq_true rfl) dX7_began_20 (ab_kh (k := 0) (n := 0) (fun v_3 h_4 hw_5 f => ?_))
    exact ab_iret C dX7_began_23 ⟨hw_5, _, rfl, f⟩
  · have f := f.2 c_2
    refine ab_iload_n C 2 dX7_began_7 rfl rfl ?_
    refine ab_iconst C (v := (0 : Int32)) dX7_began_8 (by decide) ?_
    refine ab_sipush C (v := (999 : Int32)) dX7_began_9 (by decide) ?_
    refine ab_callS C (k := 0) (n := 0) (rest := []) [.int x2, .int (0 : Int32), .int (999 : Int32)] cl_X7_47 (mt_X7_within  hw f) ⟨rfl, rfl, Nat.le_of_ble_eq_true rfl, Nat.le_of_ble_eq_true rfl, Nat.zero_le _, Nat.zero_le _⟩ rfl rfl (Nat.le_of_ble_eq_true rfl) dX7_began_12 (ab_kp (k := 0) (n := 0) (fun v_6 f => ?_))
    refine ab_if_ne C (tgt := 24) dX7_began_15 (by decide) (fun c_7 => ?_) (fun c_7 => ?_)
    · have f := f.2 c_7
      refine ab_iconst C (v := (0 : Int32)) dX7_began_24 (by decide) ?_
      refine ab_istore_n C (lv' := [(3, .int (0 : Int32)), (0, .ref (G.1 + 0)), (1, .int x1), (2, .int x2)]) dX7_began_25 rfl (by decide) rfl ?_
      refine ab_iconst C (v := (0 : Int32)) dX7_began_26 (by decide) ?_
      refine ab_istore C (lv' := [(4, .int (0 : Int32)), (3, .int (0 : Int32)), (0, .ref (G.1 + 0)), (1, .int x1), (2, .int x2)]) dX7_began_27 (by decide) rfl ?_
      refine ab_iconst C (v := (0 : Int32)) dX7_began_29 (by decide) ?_
      refine ab_istore C (lv' := [(5, .int (0 : Int32)), (4, .int (0 : Int32)), (3, .int (0 : Int32)), (0, .ref (G.1 + 0)), (1, .int x1), (2, .int x2)]) dX7_began_30 (by decide) rfl ?_
      obtain ⟨n0, f⟩ := f
      refine ab_sub (lv' := [(0, .ref (G.1 + 0)), (1, .int x1), (2, .int x2), (3, .int (0 : Int32)), (4, .int (0 : Int32)), (5, .int (0 : Int32))]) [3, 4, 5, 2, 1, 0] rfl ?_
      exact bt_X7_began_L32 C    n0 (0 : Int32) (0 : Int32) (0 : Int32) h  hw f
    · have f := f.1 c_7
      refine ab_aload_n C 0 dX7_began_18 rfl rfl ?_
      refine ab_iconst C (v := (1 : Int32)) dX7_began_19 (by decide) ?_
      refine ab_callV C (k := 0) (n := 0) (rest := []) [.int (1 : Int32)] cl_X7_51 (mt_X7_error  hw f) rfl (by decide) kd_0 (wf_lt hw kd_0 rfl) ⟨rfl, rfl, Nat.le_of_ble_eq_true rfl, Nat.le_of_ble_eq_true rfl, Nat.zero_le _, Nat.zero_le _⟩ rfl rfl (Nat.le_of_ble_eq_true rfl) dX7_began_20 (ab_kh (k := 0) (n := 0) (fun v_19 h_20 hw_21 f => ?_))
      exact ab_iret C dX7_began_23 ⟨hw_21, _, rfl, f⟩
/-! X7_body -/
def rm_X7_body : Room := { frames := 3, cells := 0, slots := 0, locals := 122 }
def wp_X7_body (x1 : Int32) (h : hp_T) (Q : Int32 → hp_T → Prop) : Prop :=
  wp_X7_within x1 (0 : Int32) ((hp_i h 93 4) - (1 : Int32)) h (fun v_1 => ((v_1 = 0 → wp_X7_error (2 : Int32) h (fun v_3 h_4 => (Q v_3 h_4))) ∧ (¬ (v_1 = 0) → (vp_in x1 30) ∧ (Q (hp_i h 94 x1.toNatClampNeg) h))))
set_option maxRecDepth 100000 in
set_option maxHeartbeats 4000000 in
theorem mt_X7_body {l : Launch} {G : ab_G} {x1 : Int32} {h : hp_T} {Q : Int32 → hp_T → Prop} (hw : wf h) (f : wp_X7_body x1 h Q) : ab_M l G yX7_body cX7_body 2 (some .int) rm_X7_body 0 0 [.ref (G.1 + 0), .int x1] h (po_h Q) := by
  refine ab_intro (own := RX7) (nm := "body") rfl rfl rfl (Nat.le_of_ble_eq_true rfl) (fun F C => ?_)
  show ab_W l G F 2 (ab_MQ G F (po_h Q) 0 0) 0 0 h [(0, .ref (G.1 + 0)), (1, .int x1)] [] 0
  unfold wp_X7_body at f
  refine ab_iload_n C 1 dX7_body_0 rfl rfl ?_
  refine ab_iconst C (v := (0 : Int32)) dX7_body_1 (by decide) ?_
  refine ab_aload_n C 0 dX7_body_2 rfl rfl ?_
  refine ab_getR C (q := 93) fl_X7_32 rfl kd_0 (wf_lt hw kd_0 rfl) (wr_7_4 hw) dX7_body_3 ?_
  refine ab_getI C fl_X7_212 rfl kd_93 (wf_lt hw kd_93 rfl) dX7_body_6 ?_
  refine ab_iconst C (v := (1 : Int32)) dX7_body_9 (by decide) ?_
  refine ab_isub C dX7_body_10 ?_
  refine ab_callS C (k := 0) (n := 0) (rest := []) [.int x1, .int (0 : Int32), .int ((hp_i h 93 4) - (1 : Int32))] cl_X7_47 (mt_X7_within  hw f) ⟨rfl, rfl, Nat.le_of_ble_eq_true rfl, Nat.le_of_ble_eq_true rfl, Nat.zero_le _, Nat.zero_le _⟩ rfl rfl (Nat.le_of_ble_eq_true rfl) dX7_body_11 (ab_kp (k := 0) (n := 0) (fun v_1 f => ?_))
  refine ab_if_eq C (tgt := 29) dX7_body_14 (by decide) (fun c_2 => ?_) (fun c_2 => ?_)
  · have f := f.1 c_2
    refine ab_aload_n C 0 dX7_body_29 rfl rfl ?_
    refine ab_iconst C (v := (2 : Int32)) dX7_body_30 (by decide) ?_
    refine ab_callV C (k := 0) (n := 0) (rest := []) [.int (2 : Int32)] cl_X7_51 (mt_X7_error  hw f) rfl (by decide) kd_0 (wf_lt hw kd_0 rfl) ⟨rfl, rfl, Nat.le_of_ble_eq_true rfl, Nat.le_of_ble_eq_true rfl, Nat.zero_le _, Nat.zero_le _⟩ rfl rfl (Nat.le_of_ble_eq_true rfl) dX7_body_31 (ab_kh (k := 0) (n := 0) (fun v_3 h_4 hw_5 f => ?_))
    exact ab_iret C dX7_body_34 ⟨hw_5, _, rfl, f⟩
  · have f := f.2 c_2
    refine ab_aload_n C 0 dX7_body_17 rfl rfl ?_
    refine ab_getR C (q := 93) fl_X7_32 rfl kd_0 (wf_lt hw kd_0 rfl) (wr_7_4 hw) dX7_body_18 ?_
    refine ab_getR C (q := 94) fl_X7_215 rfl kd_93 (wf_lt hw kd_93 rfl) (wr_6_3 hw) dX7_body_21 ?_
    refine ab_iload_n C 1 dX7_body_24 rfl rfl ?_
    obtain ⟨c_6, f⟩ := f
    refine ab_iald C (by rw [kd_94]; decide) (wf_lt hw kd_94 rfl) (wf_len hw kd_94 rfl rfl (by decide)) c_6 (j := x1.toNatClampNeg) rfl dX7_body_25 ?_
    refine ab_goto C (tgt := 34) dX7_body_26 (by decide) ?_
    exact ab_iret C dX7_body_34 ⟨hw, _, rfl, f⟩
/-! X7_book -/
def rm_X7_book : Room := { frames := 3, cells := 0, slots := 0, locals := 122 }
def wp_X7_book (x1 : Int32) (h : hp_T) (Q : Int32 → hp_T → Prop) : Prop :=
  wp_X7_within x1 (0 : Int32) (63 : Int32) h (fun v_1 => ((v_1 = 0 → wp_X7_error (1 : Int32) h (fun v_6 h_7 => (Q v_6 h_7))) ∧ (¬ (v_1 = 0) → (∀ h_3, h_3 = hp_si h 1 6 x1 → (Q (hp_i h 1 6) h_3)))))
set_option maxRecDepth 100000 in
set_option maxHeartbeats 4000000 in
theorem mt_X7_book {l : Launch} {G : ab_G} {x1 : Int32} {h : hp_T} {Q : Int32 → hp_T → Prop} (hw : wf h) (f : wp_X7_book x1 h Q) : ab_M l G yX7_book cX7_book 3 (some .int) rm_X7_book 0 0 [.ref (G.1 + 0), .int x1] h (po_h Q) := by
  refine ab_intro (own := RX7) (nm := "book") rfl rfl rfl (Nat.le_of_ble_eq_true rfl) (fun F C => ?_)
  show ab_W l G F 3 (ab_MQ G F (po_h Q) 0 0) 0 0 h [(0, .ref (G.1 + 0)), (1, .int x1)] [] 0
  unfold wp_X7_book at f
  refine ab_iload_n C 1 dX7_book_0 rfl rfl ?_
  refine ab_iconst C (v := (0 : Int32)) dX7_book_1 (by decide) ?_
  refine ab_bipush C (v := (63 : Int32)) dX7_book_2 (by decide) ?_
  refine ab_callS C (k := 0) (n := 0) (rest := []) [.int x1, .int (0 : Int32), .int (63 : Int32)] cl_X7_47 (mt_X7_within  hw f) ⟨rfl, rfl, Nat.le_of_ble_eq_true rfl, Nat.le_of_ble_eq_true rfl, Nat.zero_le _, Nat.zero_le _⟩ rfl rfl (Nat.le_of_ble_eq_true rfl) dX7_book_4 (ab_kp (k := 0) (n := 0) (fun v_1 f => ?_))
  refine ab_if_ne C (tgt := 16) dX7_book_7 (by decide) (fun c_2 => ?_) (fun c_2 => ?_)
  · have f := f.2 c_2
    refine ab_aload_n C 0 dX7_book_16 rfl rfl ?_
    refine ab_getR C (q := 1) fl_X7_10 rfl kd_0 (wf_lt hw kd_0 rfl) (wr_7_0 hw) dX7_book_17 ?_
    refine ab_getI C fl_X7_121 rfl kd_1 (wf_lt hw kd_1 rfl) dX7_book_20 ?_
    refine ab_istore_n C (lv' := [(2, .int (hp_i h 1 6)), (0, .ref (G.1 + 0)), (1, .int x1)]) dX7_book_23 rfl (by decide) rfl ?_
    refine ab_aload_n C 1 dX7_book_24 rfl rfl ?_
    refine ab_getR C (q := 1) fl_X7_10 rfl kd_0 (wf_lt hw kd_0 rfl) (wr_7_0 hw) dX7_book_25 ?_
    refine ab_iload_n C 2 dX7_book_28 rfl rfl ?_
    refine ab_putI C fl_X7_121 rfl kd_1 (wf_lt hw kd_1 rfl) rfl rfl dX7_book_29 (fun h_3 e_4 => ?_)
    have f := f h_3 e_4
    have hw_5 := wf_si e_4 hw
    refine ab_iload_n C 0 dX7_book_32 rfl rfl ?_
    exact ab_iret C dX7_book_33 ⟨hw_5, _, rfl, f⟩
  · have f := f.1 c_2
    refine ab_aload_n C 0 dX7_book_10 rfl rfl ?_
    refine ab_iconst C (v := (1 : Int32)) dX7_book_11 (by decide) ?_
    refine ab_callV C (k := 0) (n := 0) (rest := []) [.int (1 : Int32)] cl_X7_51 (mt_X7_error  hw f) rfl (by decide) kd_0 (wf_lt hw kd_0 rfl) ⟨rfl, rfl, Nat.le_of_ble_eq_true rfl, Nat.le_of_ble_eq_true rfl, Nat.zero_le _, Nat.zero_le _⟩ rfl rfl (Nat.le_of_ble_eq_true rfl) dX7_book_12 (ab_kh (k := 0) (n := 0) (fun v_6 h_7 hw_8 f => ?_))
    exact ab_iret C dX7_book_15 ⟨hw_8, _, rfl, f⟩
/-! X7_bunk -/
def rm_X7_bunk : Room := { frames := 5, cells := 0, slots := 0, locals := 165 }
def wp_X7_bunk (x1 : Int32) (h : hp_T) (Q : Int32 → hp_T → Prop) : Prop :=
  wp_X7_within x1 (0 : Int32) (69 : Int32) h (fun v_1 => ((v_1 = 0 → wp_X7_error (1 : Int32) h (fun v_10 h_11 => (Q v_10 h_11))) ∧ (¬ (v_1 = 0) → (((hp_i h 1 1) < (6 : Int32) → wp_X2_addBunk 1 x1 h (fun v_4 h_5 => (Q v_4 h_5))) ∧ (¬ ((hp_i h 1 1) < (6 : Int32)) → wp_X7_error (4 : Int32) h (fun v_7 h_8 => (Q v_7 h_8)))))))
set_option maxRecDepth 100000 in
set_option maxHeartbeats 4000000 in
theorem mt_X7_bunk {l : Launch} {G : ab_G} {x1 : Int32} {h : hp_T} {Q : Int32 → hp_T → Prop} (hw : wf h) (f : wp_X7_bunk x1 h Q) : ab_M l G yX7_bunk cX7_bunk 2 (some .int) rm_X7_bunk 0 0 [.ref (G.1 + 0), .int x1] h (po_h Q) := by
  refine ab_intro (own := RX7) (nm := "bunk") rfl rfl rfl (Nat.le_of_ble_eq_true rfl) (fun F C => ?_)
  show ab_W l G F 2 (ab_MQ G F (po_h Q) 0 0) 0 0 h [(0, .ref (G.1 + 0)), (1, .int x1)] [] 0
  unfold wp_X7_bunk at f
  refine ab_iload_n C 1 dX7_bunk_0 rfl rfl ?_
  refine ab_iconst C (v := (0 : Int32)) dX7_bunk_1 (by decide) ?_
  refine ab_bipush C (v := (69 : Int32)) dX7_bunk_2 (by decide) ?_
  refine ab_callS C (k := 0) (n := 0) (rest := []) [.int x1, .int (0 : Int32), .int (69 : Int32)] cl_X7_47 (mt_X7_within  hw f) ⟨rfl, rfl, Nat.le_of_ble_eq_true rfl, Nat.le_of_ble_eq_true rfl, Nat.zero_le _, Nat.zero_le _⟩ rfl rfl (Nat.le_of_ble_eq_true rfl) dX7_bunk_4 (ab_kp (k := 0) (n := 0) (fun v_1 f => ?_))
  refine ab_if_ne C (tgt := 16) dX7_bunk_7 (by decide) (fun c_2 => ?_) (fun c_2 => ?_)
  · have f := f.2 c_2
    refine ab_aload_n C 0 dX7_bunk_16 rfl rfl ?_
    refine ab_getR C (q := 1) fl_X7_10 rfl kd_0 (wf_lt hw kd_0 rfl) (wr_7_0 hw) dX7_bunk_17 ?_
    refine ab_getI C fl_X7_55 rfl kd_1 (wf_lt hw kd_1 rfl) dX7_bunk_20 ?_
    refine ab_bipush C (v := (6 : Int32)) dX7_bunk_23 (by decide) ?_
    refine ab_icmp_lt C (tgt := 34) dX7_bunk_25 (by decide) (fun c_3 => ?_) (fun c_3 => ?_)
    · have f := f.1 c_3
      refine ab_aload_n C 0 dX7_bunk_34 rfl rfl ?_
      refine ab_getR C (q := 1) fl_X7_10 rfl kd_0 (wf_lt hw kd_0 rfl) (wr_7_0 hw) dX7_bunk_35 ?_
      refine ab_iload_n C 1 dX7_bunk_38 rfl rfl ?_
      refine ab_callV C (k := 0) (n := 0) (rest := []) [.int x1] cl_X7_59 (mt_X2_addBunk kd_1 hw f) rfl (by decide) kd_1 (wf_lt hw kd_1 rfl) ⟨rfl, rfl, Nat.le_of_ble_eq_true rfl, Nat.le_of_ble_eq_true rfl, Nat.zero_le _, Nat.zero_le _⟩ rfl rfl (Nat.le_of_ble_eq_true rfl) dX7_bunk_39 (ab_kh (k := 0) (n := 0) (fun v_4 h_5 hw_6 f => ?_))
      exact ab_iret C dX7_bunk_42 ⟨hw_6, _, rfl, f⟩
    · have f := f.2 c_3
      refine ab_aload_n C 0 dX7_bunk_28 rfl rfl ?_
      refine ab_iconst C (v := (4 : Int32)) dX7_bunk_29 (by decide) ?_
      refine ab_callV C (k := 0) (n := 0) (rest := []) [.int (4 : Int32)] cl_X7_51 (mt_X7_error  hw f) rfl (by decide) kd_0 (wf_lt hw kd_0 rfl) ⟨rfl, rfl, Nat.le_of_ble_eq_true rfl, Nat.le_of_ble_eq_true rfl, Nat.zero_le _, Nat.zero_le _⟩ rfl rfl (Nat.le_of_ble_eq_true rfl) dX7_bunk_30 (ab_kh (k := 0) (n := 0) (fun v_7 h_8 hw_9 f => ?_))
      exact ab_iret C dX7_bunk_33 ⟨hw_9, _, rfl, f⟩
  · have f := f.1 c_2
    refine ab_aload_n C 0 dX7_bunk_10 rfl rfl ?_
    refine ab_iconst C (v := (1 : Int32)) dX7_bunk_11 (by decide) ?_
    refine ab_callV C (k := 0) (n := 0) (rest := []) [.int (1 : Int32)] cl_X7_51 (mt_X7_error  hw f) rfl (by decide) kd_0 (wf_lt hw kd_0 rfl) ⟨rfl, rfl, Nat.le_of_ble_eq_true rfl, Nat.le_of_ble_eq_true rfl, Nat.zero_le _, Nat.zero_le _⟩ rfl rfl (Nat.le_of_ble_eq_true rfl) dX7_bunk_12 (ab_kh (k := 0) (n := 0) (fun v_10 h_11 hw_12 f => ?_))
    exact ab_iret C dX7_bunk_15 ⟨hw_12, _, rfl, f⟩
/-! X7_bunkIs -/
def rm_X7_bunkIs : Room := { frames := 7, cells := 0, slots := 0, locals := 219 }
def wp_X7_bunkIs (x1 : Int32) (x2 : Int32) (h : hp_T) (Q : Int32 → hp_T → Prop) : Prop :=
  wp_X7_isBunk x1 h (fun v_1 => ((v_1 = 0 → wp_X7_error (1 : Int32) h (fun v_3 h_4 => (Q v_3 h_4))) ∧ (¬ (v_1 = 0) → wp_X7_within x2 (0 : Int32) (23 : Int32) h (fun v_6 => ((v_6 = 0 → wp_X7_error (1 : Int32) h (fun v_11 h_12 => (Q v_11 h_12))) ∧ (¬ (v_6 = 0) → wp_X2_ofMan 1 x1 x2 h (fun v_8 h_9 => (Q v_8 h_9))))))))
set_option maxRecDepth 100000 in
set_option maxHeartbeats 4000000 in
theorem mt_X7_bunkIs {l : Launch} {G : ab_G} {x1 : Int32} {x2 : Int32} {h : hp_T} {Q : Int32 → hp_T → Prop} (hw : wf h) (f : wp_X7_bunkIs x1 x2 h Q) : ab_M l G yX7_bunkIs cX7_bunkIs 3 (some .int) rm_X7_bunkIs 0 0 [.ref (G.1 + 0), .int x1, .int x2] h (po_h Q) := by
  refine ab_intro (own := RX7) (nm := "bunkIs") rfl rfl rfl (Nat.le_of_ble_eq_true rfl) (fun F C => ?_)
  show ab_W l G F 3 (ab_MQ G F (po_h Q) 0 0) 0 0 h [(0, .ref (G.1 + 0)), (1, .int x1), (2, .int x2)] [] 0
  unfold wp_X7_bunkIs at f
  refine ab_aload_n C 0 dX7_bunkIs_0 rfl rfl ?_
  refine ab_iload_n C 1 dX7_bunkIs_1 rfl rfl ?_
  refine ab_callV C (k := 0) (n := 0) (rest := []) [.int x1] cl_X7_62 (mt_X7_isBunk  hw f) rfl (by decide) kd_0 (wf_lt hw kd_0 rfl) ⟨rfl, rfl, Nat.le_of_ble_eq_true rfl, Nat.le_of_ble_eq_true rfl, Nat.zero_le _, Nat.zero_le _⟩ rfl rfl (Nat.le_of_ble_eq_true rfl) dX7_bunkIs_2 (ab_kp (k := 0) (n := 0) (fun v_1 f => ?_))
  refine ab_if_eq C (tgt := 18) dX7_bunkIs_5 (by decide) (fun c_2 => ?_) (fun c_2 => ?_)
  · have f := f.1 c_2
    refine ab_aload_n C 0 dX7_bunkIs_18 rfl rfl ?_
    refine ab_iconst C (v := (1 : Int32)) dX7_bunkIs_19 (by decide) ?_
    refine ab_callV C (k := 0) (n := 0) (rest := []) [.int (1 : Int32)] cl_X7_51 (mt_X7_error  hw f) rfl (by decide) kd_0 (wf_lt hw kd_0 rfl) ⟨rfl, rfl, Nat.le_of_ble_eq_true rfl, Nat.le_of_ble_eq_true rfl, Nat.zero_le _, Nat.zero_le _⟩ rfl rfl (Nat.le_of_ble_eq_true rfl) dX7_bunkIs_20 (ab_kh (k := 0) (n := 0) (fun v_3 h_4 hw_5 f => ?_))
    exact ab_iret C dX7_bunkIs_23 ⟨hw_5, _, rfl, f⟩
  · have f := f.2 c_2
    refine ab_iload_n C 2 dX7_bunkIs_8 rfl rfl ?_
    refine ab_iconst C (v := (0 : Int32)) dX7_bunkIs_9 (by decide) ?_
    refine ab_bipush C (v := (23 : Int32)) dX7_bunkIs_10 (by decide) ?_
    refine ab_callS C (k := 0) (n := 0) (rest := []) [.int x2, .int (0 : Int32), .int (23 : Int32)] cl_X7_47 (mt_X7_within  hw f) ⟨rfl, rfl, Nat.le_of_ble_eq_true rfl, Nat.le_of_ble_eq_true rfl, Nat.zero_le _, Nat.zero_le _⟩ rfl rfl (Nat.le_of_ble_eq_true rfl) dX7_bunkIs_12 (ab_kp (k := 0) (n := 0) (fun v_6 f => ?_))
    refine ab_if_ne C (tgt := 24) dX7_bunkIs_15 (by decide) (fun c_7 => ?_) (fun c_7 => ?_)
    · have f := f.2 c_7
      refine ab_aload_n C 0 dX7_bunkIs_24 rfl rfl ?_
      refine ab_getR C (q := 1) fl_X7_10 rfl kd_0 (wf_lt hw kd_0 rfl) (wr_7_0 hw) dX7_bunkIs_25 ?_
      refine ab_iload_n C 1 dX7_bunkIs_28 rfl rfl ?_
      refine ab_iload_n C 2 dX7_bunkIs_29 rfl rfl ?_
      refine ab_callV C (k := 0) (n := 0) (rest := []) [.int x1, .int x2] cl_X7_66 (mt_X2_ofMan kd_1 hw f) rfl (by decide) kd_1 (wf_lt hw kd_1 rfl) ⟨rfl, rfl, Nat.le_of_ble_eq_true rfl, Nat.le_of_ble_eq_true rfl, Nat.zero_le _, Nat.zero_le _⟩ rfl rfl (Nat.le_of_ble_eq_true rfl) dX7_bunkIs_30 (ab_kh (k := 0) (n := 0) (fun v_8 h_9 hw_10 f => ?_))
      exact ab_iret C dX7_bunkIs_33 ⟨hw_10, _, rfl, f⟩
    · have f := f.1 c_7
      refine ab_aload_n C 0 dX7_bunkIs_18 rfl rfl ?_
      refine ab_iconst C (v := (1 : Int32)) dX7_bunkIs_19 (by decide) ?_
      refine ab_callV C (k := 0) (n := 0) (rest := []) [.int (1 : Int32)] cl_X7_51 (mt_X7_error  hw f) rfl (by decide) kd_0 (wf_lt hw kd_0 rfl) ⟨rfl, rfl, Nat.le_of_ble_eq_true rfl, Nat.le_of_ble_eq_true rfl, Nat.zero_le _, Nat.zero_le _⟩ rfl rfl (Nat.le_of_ble_eq_true rfl) dX7_bunkIs_20 (ab_kh (k := 0) (n := 0) (fun v_11 h_12 hw_13 f => ?_))
      exact ab_iret C dX7_bunkIs_23 ⟨hw_13, _, rfl, f⟩
/-! X7_changes -/
def rm_X7_changes : Room := { frames := 5, cells := 0, slots := 0, locals := 163 }
def wp_X7_changes_L32 (x1 : Int32) (x2 : Int32) (Q : Int32 → hp_T → Prop) : Nat → Int32 → Int32 → Int32 → hp_T → Prop
  | 0 => fun _ _ _ _ => False
  | nn + 1 => fun y3 y4 y5 h => (((hp_i h 1 1) ≤ y5 → (Q y4 h)) ∧ (¬ ((hp_i h 1 1) ≤ y5) → (vp_in y5 6) ∧ wp_X0_knows (1 + 8 + 3 * y5.toNatClampNeg) x1 h (fun v_10 => ((v_10 = 0 → (wp_X7_changes_L32 x1 x2 Q nn) y3 y4 (y5 + (1 : Int32)) h) ∧ (¬ (v_10 = 0) → (vp_in x1 6) ∧ (((hp_i h ((1 + 8 + 3 * y5.toNatClampNeg) + 1) x1.toNatClampNeg) = y3 → (vp_in x1 6) ∧ (wp_X7_changes_L32 x1 x2 Q nn) (hp_i h ((1 + 8 + 3 * y5.toNatClampNeg) + 1) x1.toNatClampNeg) (y4 + (0 : Int32)) (y5 + (1 : Int32)) h) ∧ (¬ ((hp_i h ((1 + 8 + 3 * y5.toNatClampNeg) + 1) x1.toNatClampNeg) = y3) → (vp_in x1 6) ∧ (wp_X7_changes_L32 x1 x2 Q nn) (hp_i h ((1 + 8 + 3 * y5.toNatClampNeg) + 1) x1.toNatClampNeg) (y4 + (1 : Int32)) (y5 + (1 : Int32)) h)))))))
set_option maxRecDepth 100000 in
set_option maxHeartbeats 4000000 in
theorem bt_X7_changes_L32 {l : Launch} {G : ab_G} {F : ab_F} {x1 : Int32} {x2 : Int32} {Q : Int32 → hp_T → Prop}  (C : ab_C G F rm_X7_changes cX7_changes 7 RX7 (some .int) "changes")   : ∀ (nn : Nat) (y3 : Int32) (y4 : Int32) (y5 : Int32) (h : hp_T), wf h → wp_X7_changes_L32 x1 x2 Q nn y3 y4 y5 h → ab_W l G F 7 (ab_MQ G F (po_h Q) 0 0) 0 0 h [(0, .ref (G.1 + 0)), (1, .int x1), (3, .int y3), (4, .int y4), (5, .int y5)] [] 32 := by
  intro nn
  induction nn with
  | zero =>
    intro y3 y4 y5 h hw f
    exact absurd f id
  | succ nn ih =>
    intro y3 y4 y5 h hw f
    unfold wp_X7_changes_L32 at f
    refine ab_iload C 4 dX7_changes_32 rfl ?_
    refine ab_aload_n C 0 dX7_changes_34 rfl rfl ?_
    refine ab_getR C (q := 1) fl_X7_10 rfl kd_0 (wf_lt hw kd_0 rfl) (wr_7_0 hw) dX7_changes_35 ?_
    refine ab_getI C fl_X7_55 rfl kd_1 (wf_lt hw kd_1 rfl) dX7_changes_38 ?_
    refine ab_icmp_ge C (tgt := 100) dX7_changes_41 (by decide) (fun c_8 => ?_) (fun c_8 => ?_)
    · have f := f.1 c_8
      refine ab_iload C 3 dX7_changes_100 rfl ?_
      exact ab_iret C dX7_changes_102 ⟨hw, _, rfl, f⟩
    · have f := f.2 c_8
      refine ab_aload_n C 0 dX7_changes_44 rfl rfl ?_
      refine ab_getR C (q := 1) fl_X7_10 rfl kd_0 (wf_lt hw kd_0 rfl) (wr_7_0 hw) dX7_changes_45 ?_
      refine ab_getR C (q := (1 + 1)) fl_X7_70 rfl kd_1 (wf_lt hw kd_1 rfl) (wr_2_0 hw kd_1) dX7_changes_48 ?_
      refine ab_iload C 4 dX7_changes_51 rfl ?_
      obtain ⟨c_9, f⟩ := f
      refine ab_aaldR C (q := (1 + 8 + 3 * y5.toNatClampNeg)) (kn_2_0 kd_1) (Or.inl rfl) (wf_lt hw (kn_2_0 kd_1) rfl) (wf_len hw (kn_2_0 kd_1) rfl rfl (by decide)) c_9 (j := y5.toNatClampNeg) rfl (wx_bunk hw kd_1 (vp_in_lt c_9)) dX7_changes_53 ?_
      refine ab_astore C (lv' := [(6, .ref (G.1 + (1 + 8 + 3 * y5.toNatClampNeg))), (0, .ref (G.1 + 0)), (1, .int x1), (3, .int y3), (4, .int y4), (5, .int y5)]) dX7_changes_54 (by decide) rfl ?_
      refine ab_aload C 0 dX7_changes_56 rfl ?_
      refine ab_iload_n C 2 dX7_changes_58 rfl rfl ?_
      refine ab_callV C (k := 0) (n := 0) (rest := []) [.int x1] cl_X7_98 (mt_X0_knows (kx_bunk kd_1 (vp_in_lt c_9)) hw f) rfl (by decide) (kx_bunk kd_1 (vp_in_lt c_9)) (wf_lt hw (kx_bunk kd_1 (vp_in_lt c_9)) rfl) ⟨rfl, rfl, Nat.le_of_ble_eq_true rfl, Nat.le_of_ble_eq_true rfl, Nat.zero_le _, Nat.zero_le _⟩ rfl rfl (Nat.le_of_ble_eq_true rfl) dX7_changes_59 (ab_kp (k := 0) (n := 0) (fun v_10 f => ?_))
      refine ab_if_eq C (tgt := 94) dX7_changes_62 (by decide) (fun c_11 => ?_) (fun c_11 => ?_)
      · have f := f.1 c_11
        refine ab_iinc C (lv' := [(5, .int (y5 + (1 : Int32))), (6, .ref (G.1 + (1 + 8 + 3 * y5.toNatClampNeg))), (0, .ref (G.1 + 0)), (1, .int x1), (3, .int y3), (4, .int y4)]) 5 (v := (y5 + (1 : Int32))) dX7_changes_94 rfl rfl (by decide) rfl ?_
        refine ab_goto C (tgt := 32) dX7_changes_97 (by decide) ?_
        refine ab_sub (lv' := [(0, .ref (G.1 + 0)), (1, .int x1), (3, .int y3), (4, .int y4), (5, .int (y5 + (1 : Int32)))]) [2, 3, 4, 5, 0] rfl ?_
        exact ih y3 y4 (y5 + (1 : Int32)) h  hw f
      · have f := f.2 c_11
        refine ab_iload C 4 dX7_changes_65 rfl ?_
        refine ab_aload C 0 dX7_changes_67 rfl ?_
        refine ab_getR C (q := ((1 + 8 + 3 * y5.toNatClampNeg) + 1)) fl_X7_101 rfl (kx_bunk kd_1 (vp_in_lt c_9)) (wf_lt hw (kx_bunk kd_1 (vp_in_lt c_9)) rfl) (wr_0_5 hw (kx_bunk kd_1 (vp_in_lt c_9))) dX7_changes_69 ?_
        refine ab_iload_n C 2 dX7_changes_72 rfl rfl ?_
        obtain ⟨c_12, f⟩ := f
        refine ab_iald C (by rw [(kn_0_5 (kx_bunk kd_1 (vp_in_lt c_9)))]; decide) (wf_lt hw (kn_0_5 (kx_bunk kd_1 (vp_in_lt c_9))) rfl) (wf_len hw (kn_0_5 (kx_bunk kd_1 (vp_in_lt c_9))) rfl rfl (by decide)) c_12 (j := x1.toNatClampNeg) rfl dX7_changes_73 ?_
        refine ab_iload_n C 3 dX7_changes_74 rfl rfl ?_
        refine ab_icmp_ne C (tgt := 82) dX7_changes_75 (by decide) (fun c_13 => ?_) (fun c_13 => ?_)
        · have f := f.2 c_13
          refine ab_iconst C (v := (1 : Int32)) dX7_changes_82 (by decide) ?_
          refine ab_iadd C dX7_changes_83 ?_
          refine ab_istore C (lv' := [(4, .int (y4 + (1 : Int32))), (6, .ref (G.1 + (1 + 8 + 3 * y5.toNatClampNeg))), (0, .ref (G.1 + 0)), (1, .int x1), (3, .int y3), (5, .int y5)]) dX7_changes_84 (by decide) rfl ?_
          refine ab_aload C 1 dX7_changes_86 rfl ?_
          refine ab_getR C (q := ((1 + 8 + 3 * y5.toNatClampNeg) + 1)) fl_X7_101 rfl (kx_bunk kd_1 (vp_in_lt c_9)) (wf_lt hw (kx_bunk kd_1 (vp_in_lt c_9)) rfl) (wr_0_5 hw (kx_bunk kd_1 (vp_in_lt c_9))) dX7_changes_88 ?_
          refine ab_iload_n C 3 dX7_changes_91 rfl rfl ?_
          obtain ⟨c_14, f⟩ := f
          refine ab_iald C (by rw [(kn_0_5 (kx_bunk kd_1 (vp_in_lt c_9)))]; decide) (wf_lt hw (kn_0_5 (kx_bunk kd_1 (vp_in_lt c_9))) rfl) (wf_len hw (kn_0_5 (kx_bunk kd_1 (vp_in_lt c_9))) rfl rfl (by decide)) c_14 (j := x1.toNatClampNeg) rfl dX7_changes_92 ?_
          refine ab_istore_n C (lv' := [(3, .int (hp_i h ((1 + 8 + 3 * y5.toNatClampNeg) + 1) x1.toNatClampNeg)), (4, .int (y4 + (1 : Int32))), (6, .ref (G.1 + (1 + 8 + 3 * y5.toNatClampNeg))), (0, .ref (G.1 + 0)), (1, .int x1), (5, .int y5)]) dX7_changes_93 rfl (by decide) rfl ?_
          refine ab_iinc C (lv' := [(5, .int (y5 + (1 : Int32))), (3, .int (hp_i h ((1 + 8 + 3 * y5.toNatClampNeg) + 1) x1.toNatClampNeg)), (4, .int (y4 + (1 : Int32))), (6, .ref (G.1 + (1 + 8 + 3 * y5.toNatClampNeg))), (0, .ref (G.1 + 0)), (1, .int x1)]) 5 (v := (y5 + (1 : Int32))) dX7_changes_94 rfl rfl (by decide) rfl ?_
          refine ab_goto C (tgt := 32) dX7_changes_97 (by decide) ?_
          refine ab_sub (lv' := [(0, .ref (G.1 + 0)), (1, .int x1), (3, .int (hp_i h ((1 + 8 + 3 * y5.toNatClampNeg) + 1) x1.toNatClampNeg)), (4, .int (y4 + (1 : Int32))), (5, .int (y5 + (1 : Int32)))]) [4, 5, 1, 2, 0] rfl ?_
          exact ih (hp_i h ((1 + 8 + 3 * y5.toNatClampNeg) + 1) x1.toNatClampNeg) (y4 + (1 : Int32)) (y5 + (1 : Int32)) h  hw f
        · have f := f.1 c_13
          refine ab_iconst C (v := (0 : Int32)) dX7_changes_78 (by decide) ?_
          refine ab_goto C (tgt := 83) dX7_changes_79 (by decide) ?_
          refine ab_iadd C dX7_changes_83 ?_
          refine ab_istore C (lv' := [(4, .int (y4 + (0 : Int32))), (6, .ref (G.1 + (1 + 8 + 3 * y5.toNatClampNeg))), (0, .ref (G.1 + 0)), (1, .int x1), (3, .int y3), (5, .int y5)]) dX7_changes_84 (by decide) rfl ?_
          refine ab_aload C 1 dX7_changes_86 rfl ?_
          refine ab_getR C (q := ((1 + 8 + 3 * y5.toNatClampNeg) + 1)) fl_X7_101 rfl (kx_bunk kd_1 (vp_in_lt c_9)) (wf_lt hw (kx_bunk kd_1 (vp_in_lt c_9)) rfl) (wr_0_5 hw (kx_bunk kd_1 (vp_in_lt c_9))) dX7_changes_88 ?_
          refine ab_iload_n C 3 dX7_changes_91 rfl rfl ?_
          obtain ⟨c_15, f⟩ := f
          refine ab_iald C (by rw [(kn_0_5 (kx_bunk kd_1 (vp_in_lt c_9)))]; decide) (wf_lt hw (kn_0_5 (kx_bunk kd_1 (vp_in_lt c_9))) rfl) (wf_len hw (kn_0_5 (kx_bunk kd_1 (vp_in_lt c_9))) rfl rfl (by decide)) c_15 (j := x1.toNatClampNeg) rfl dX7_changes_92 ?_
          refine ab_istore_n C (lv' := [(3, .int (hp_i h ((1 + 8 + 3 * y5.toNatClampNeg) + 1) x1.toNatClampNeg)), (4, .int (y4 + (0 : Int32))), (6, .ref (G.1 + (1 + 8 + 3 * y5.toNatClampNeg))), (0, .ref (G.1 + 0)), (1, .int x1), (5, .int y5)]) dX7_changes_93 rfl (by decide) rfl ?_
          refine ab_iinc C (lv' := [(5, .int (y5 + (1 : Int32))), (3, .int (hp_i h ((1 + 8 + 3 * y5.toNatClampNeg) + 1) x1.toNatClampNeg)), (4, .int (y4 + (0 : Int32))), (6, .ref (G.1 + (1 + 8 + 3 * y5.toNatClampNeg))), (0, .ref (G.1 + 0)), (1, .int x1)]) 5 (v := (y5 + (1 : Int32))) dX7_changes_94 rfl rfl (by decide) rfl ?_
          refine ab_goto C (tgt := 32) dX7_changes_97 (by decide) ?_
          refine ab_sub (lv' := [(0, .ref (G.1 + 0)), (1, .int x1), (3, .int (hp_i h ((1 + 8 + 3 * y5.toNatClampNeg) + 1) x1.toNatClampNeg)), (4, .int (y4 + (0 : Int32))), (5, .int (y5 + (1 : Int32)))]) [4, 5, 1, 2, 0] rfl ?_
          exact ih (hp_i h ((1 + 8 + 3 * y5.toNatClampNeg) + 1) x1.toNatClampNeg) (y4 + (0 : Int32)) (y5 + (1 : Int32)) h  hw f
def wp_X7_changes (x1 : Int32) (x2 : Int32) (h : hp_T) (Q : Int32 → hp_T → Prop) : Prop :=
  wp_X7_isKnack x1 h (fun v_1 => ((v_1 = 0 → wp_X7_error (1 : Int32) h (fun v_3 h_4 => (Q v_3 h_4))) ∧ (¬ (v_1 = 0) → wp_X7_within x2 (0 : Int32) (999 : Int32) h (fun v_6 => ((v_6 = 0 → wp_X7_error (1 : Int32) h (fun v_16 h_17 => (Q v_16 h_17))) ∧ (¬ (v_6 = 0) → (∃ n0, wp_X7_changes_L32 x1 x2 Q  n0 x2 (0 : Int32) (0 : Int32) h)))))))
set_option maxRecDepth 100000 in
set_option maxHeartbeats 4000000 in
theorem mt_X7_changes {l : Launch} {G : ab_G} {x1 : Int32} {x2 : Int32} {h : hp_T} {Q : Int32 → hp_T → Prop} (hw : wf h) (f : wp_X7_changes x1 x2 h Q) : ab_M l G yX7_changes cX7_changes 7 (some .int) rm_X7_changes 0 0 [.ref (G.1 + 0), .int x1, .int x2] h (po_h Q) := by
  refine ab_intro (own := RX7) (nm := "changes") rfl rfl rfl (Nat.le_of_ble_eq_true rfl) (fun F C => ?_)
  show ab_W l G F 7 (ab_MQ G F (po_h Q) 0 0) 0 0 h [(0, .ref (G.1 + 0)), (1, .int x1), (2, .int x2)] [] 0
  unfold wp_X7_changes at f
  refine ab_iload_n C 1 dX7_changes_0 rfl rfl ?_
  refine ab_callS C (k := 0) (n := 0) (rest := []) [.int x1] cl_X7_95 (mt_X7_isKnack  hw f) ⟨rfl, rfl, Nat.le_of_ble_eq_true rfl, Nat.le_of_ble_eq_true rfl, Nat.zero_le _, Nat.zero_le _⟩ rfl rfl (Nat.le_of_ble_eq_true rfl) dX7_changes_1 (ab_kp (k := 0) (n := 0) (fun v_1 f => ?_))
  refine ab_if_eq C (tgt := 18) dX7_changes_4 (by decide) (fun c_2 => ?_) (fun c_2 => ?_)
  · have f := f.1 c_2
    refine ab_aload_n C 0 dX7_changes_18 rfl rfl ?_
    refine ab_iconst C (v := (1 : Int32)) dX7_changes_19 (by decide) ?_
    refine ab_callV C (k := 0) (n := 0) (rest := []) [.int (1 : Int32)] cl_X7_51 (mt_X7_error  hw f) rfl (by decide) kd_0 (wf_lt hw kd_0 rfl) ⟨rfl, rfl, Nat.le_of_ble_eq_true rfl, Nat.le_of_ble_eq_true rfl, Nat.zero_le _, Nat.zero_le _⟩ rfl rfl (Nat.le_of_ble_eq_true rfl) dX7_changes_20 (ab_kh (k := 0) (n := 0) (fun v_3 h_4 hw_5 f => ?_))
    exact ab_iret C dX7_changes_23 ⟨hw_5, _, rfl, f⟩
  · have f := f.2 c_2
    refine ab_iload_n C 2 dX7_changes_7 rfl rfl ?_
    refine ab_iconst C (v := (0 : Int32)) dX7_changes_8 (by decide) ?_
    refine ab_sipush C (v := (999 : Int32)) dX7_changes_9 (by decide) ?_
    refine ab_callS C (k := 0) (n := 0) (rest := []) [.int x2, .int (0 : Int32), .int (999 : Int32)] cl_X7_47 (mt_X7_within  hw f) ⟨rfl, rfl, Nat.le_of_ble_eq_true rfl, Nat.le_of_ble_eq_true rfl, Nat.zero_le _, Nat.zero_le _⟩ rfl rfl (Nat.le_of_ble_eq_true rfl) dX7_changes_12 (ab_kp (k := 0) (n := 0) (fun v_6 f => ?_))
    refine ab_if_ne C (tgt := 24) dX7_changes_15 (by decide) (fun c_7 => ?_) (fun c_7 => ?_)
    · have f := f.2 c_7
      refine ab_iload_n C 2 dX7_changes_24 rfl rfl ?_
      refine ab_istore_n C (lv' := [(3, .int x2), (0, .ref (G.1 + 0)), (1, .int x1), (2, .int x2)]) dX7_changes_25 rfl (by decide) rfl ?_
      refine ab_iconst C (v := (0 : Int32)) dX7_changes_26 (by decide) ?_
      refine ab_istore C (lv' := [(4, .int (0 : Int32)), (3, .int x2), (0, .ref (G.1 + 0)), (1, .int x1), (2, .int x2)]) dX7_changes_27 (by decide) rfl ?_
      refine ab_iconst C (v := (0 : Int32)) dX7_changes_29 (by decide) ?_
      refine ab_istore C (lv' := [(5, .int (0 : Int32)), (4, .int (0 : Int32)), (3, .int x2), (0, .ref (G.1 + 0)), (1, .int x1), (2, .int x2)]) dX7_changes_30 (by decide) rfl ?_
      obtain ⟨n0, f⟩ := f
      refine ab_sub (lv' := [(0, .ref (G.1 + 0)), (1, .int x1), (3, .int x2), (4, .int (0 : Int32)), (5, .int (0 : Int32))]) [3, 4, 2, 1, 0] rfl ?_
      exact bt_X7_changes_L32 C    n0 x2 (0 : Int32) (0 : Int32) h  hw f
    · have f := f.1 c_7
      refine ab_aload_n C 0 dX7_changes_18 rfl rfl ?_
      refine ab_iconst C (v := (1 : Int32)) dX7_changes_19 (by decide) ?_
      refine ab_callV C (k := 0) (n := 0) (rest := []) [.int (1 : Int32)] cl_X7_51 (mt_X7_error  hw f) rfl (by decide) kd_0 (wf_lt hw kd_0 rfl) ⟨rfl, rfl, Nat.le_of_ble_eq_true rfl, Nat.le_of_ble_eq_true rfl, Nat.zero_le _, Nat.zero_le _⟩ rfl rfl (Nat.le_of_ble_eq_true rfl) dX7_changes_20 (ab_kh (k := 0) (n := 0) (fun v_16 h_17 hw_18 f => ?_))
      exact ab_iret C dX7_changes_23 ⟨hw_18, _, rfl, f⟩
/-! X7_goAhead -/
def rm_X7_goAhead : Room := { frames := 8, cells := 0, slots := 0, locals := 242 }
def wp_X7_goAhead_L13 (x1 : Int32) (Q : hp_T → Prop) : Nat → Int32 → hp_T → Prop
  | 0 => fun _ _ => False
  | nn + 1 => fun y2 h => ((x1 ≤ y2 → (Q h)) ∧ (¬ (x1 ≤ y2) → wp_X2_passDay 61 h (fun v_4 h_5 => (wp_X7_goAhead_L13 x1 Q nn) (y2 + (1 : Int32)) h_5)))
set_option maxRecDepth 100000 in
set_option maxHeartbeats 4000000 in
theorem bt_X7_goAhead_L13 {l : Launch} {G : ab_G} {F : ab_F} {x1 : Int32} {Q : hp_T → Prop}  (C : ab_C G F rm_X7_goAhead cX7_goAhead 3 RX7 none "goAhead")   : ∀ (nn : Nat) (y2 : Int32) (h : hp_T), wf h → wp_X7_goAhead_L13 x1 Q nn y2 h → ab_W l G F 3 (ab_MQ G F (po_v Q) 0 0) 0 0 h [(0, .ref (G.1 + 0)), (1, .int x1), (2, .int y2)] [] 13 := by
  intro nn
  induction nn with
  | zero =>
    intro y2 h hw f
    exact absurd f id
  | succ nn ih =>
    intro y2 h hw f
    unfold wp_X7_goAhead_L13 at f
    refine ab_iload_n C 2 dX7_goAhead_13 rfl rfl ?_
    refine ab_iload_n C 1 dX7_goAhead_14 rfl rfl ?_
    refine ab_icmp_ge C (tgt := 32) dX7_goAhead_15 (by decide) (fun c_3 => ?_) (fun c_3 => ?_)
    · have f := f.1 c_3
      exact ab_vret C dX7_goAhead_32 ⟨hw, rfl, f⟩
    · have f := f.2 c_3
      refine ab_aload_n C 0 dX7_goAhead_18 rfl rfl ?_
      refine ab_getR C (q := 61) fl_X7_19 rfl kd_0 (wf_lt hw kd_0 rfl) (wr_7_2 hw) dX7_goAhead_19 ?_
      refine ab_callV C (k := 0) (n := 0) (rest := []) [] cl_X7_160 (mt_X2_passDay kd_61 hw f) rfl (by decide) kd_61 (wf_lt hw kd_61 rfl) ⟨rfl, rfl, Nat.le_of_ble_eq_true rfl, Nat.le_of_ble_eq_true rfl, Nat.zero_le _, Nat.zero_le _⟩ rfl rfl (Nat.le_of_ble_eq_true rfl) dX7_goAhead_22 (ab_kh (k := 0) (n := 0) (fun v_4 h_5 hw_6 f => ?_))
      refine ab_pop C dX7_goAhead_25 rfl ?_
      refine ab_iinc C (lv' := [(2, .int (y2 + (1 : Int32))), (0, .ref (G.1 + 0)), (1, .int x1)]) 2 (v := (y2 + (1 : Int32))) dX7_goAhead_26 rfl rfl (by decide) rfl ?_
      refine ab_goto C (tgt := 13) dX7_goAhead_29 (by decide) ?_
      refine ab_sub (lv' := [(0, .ref (G.1 + 0)), (1, .int x1), (2, .int (y2 + (1 : Int32)))]) [1, 2, 0] rfl ?_
      exact ih (y2 + (1 : Int32)) h_5  hw_6 f
def wp_X7_goAhead (x1 : Int32) (h : hp_T) (Q : hp_T → Prop) : Prop :=
  wp_X2_copyFrom 61 1 h (fun h_1 => (∃ n0, wp_X7_goAhead_L13 x1 Q  n0 (0 : Int32) h_1))
set_option maxRecDepth 100000 in
set_option maxHeartbeats 4000000 in
theorem mt_X7_goAhead {l : Launch} {G : ab_G} {x1 : Int32} {h : hp_T} {Q : hp_T → Prop} (hw : wf h) (f : wp_X7_goAhead x1 h Q) : ab_M l G yX7_goAhead cX7_goAhead 3 none rm_X7_goAhead 0 0 [.ref (G.1 + 0), .int x1] h (po_v Q) := by
  refine ab_intro (own := RX7) (nm := "goAhead") rfl rfl rfl (Nat.le_of_ble_eq_true rfl) (fun F C => ?_)
  show ab_W l G F 3 (ab_MQ G F (po_v Q) 0 0) 0 0 h [(0, .ref (G.1 + 0)), (1, .int x1)] [] 0
  unfold wp_X7_goAhead at f
  refine ab_aload_n C 0 dX7_goAhead_0 rfl rfl ?_
  refine ab_getR C (q := 61) fl_X7_19 rfl kd_0 (wf_lt hw kd_0 rfl) (wr_7_2 hw) dX7_goAhead_1 ?_
  refine ab_aload_n C 0 dX7_goAhead_4 rfl rfl ?_
  refine ab_getR C (q := 1) fl_X7_10 rfl kd_0 (wf_lt hw kd_0 rfl) (wr_7_0 hw) dX7_goAhead_5 ?_
  refine ab_callV C (k := 0) (n := 0) (rest := []) [.ref (G.1 + 1)] cl_X7_249 (mt_X2_copyFrom kd_61 kd_1 hw f) rfl (by decide) kd_61 (wf_lt hw kd_61 rfl) ⟨rfl, rfl, Nat.le_of_ble_eq_true rfl, Nat.le_of_ble_eq_true rfl, Nat.zero_le _, Nat.zero_le _⟩ rfl rfl (Nat.le_of_ble_eq_true rfl) dX7_goAhead_8 (ab_kv (k := 0) (n := 0) (fun h_1 hw_2 f => ?_))
  refine ab_iconst C (v := (0 : Int32)) dX7_goAhead_11 (by decide) ?_
  refine ab_istore_n C (lv' := [(2, .int (0 : Int32)), (0, .ref (G.1 + 0)), (1, .int x1)]) dX7_goAhead_12 rfl (by decide) rfl ?_
  obtain ⟨n0, f⟩ := f
  refine ab_sub (lv' := [(0, .ref (G.1 + 0)), (1, .int x1), (2, .int (0 : Int32))]) [1, 2, 0] rfl ?_
  exact bt_X7_goAhead_L13 C    n0 (0 : Int32) h_1  hw_2 f
/-! X7_check -/
def rm_X7_check : Room := { frames := 9, cells := 0, slots := 0, locals := 264 }
def wp_X7_check_L36 (x1 : Int32) (Q : Int32 → hp_T → Prop) : Nat → Int32 → Int32 → hp_T → Prop
  | 0 => fun _ _ _ => False
  | nn + 1 => fun y2 y3 h => ((y2 ≤ y3 → (Q (0 : Int32) h)) ∧ (¬ (y2 ≤ y3) → wp_X2_passDay 61 h (fun v_9 h_10 => wp_X2_knowers 61 x1 h_10 (fun v_12 => (vp_in y3 24) ∧ ((v_12 = (hp_i h_10 (1 + 7) y3.toNatClampNeg) → (wp_X7_check_L36 x1 Q nn) y2 (y3 + (1 : Int32)) h_10) ∧ (¬ (v_12 = (hp_i h_10 (1 + 7) y3.toNatClampNeg)) → (Q ((1 : Int32) + y3) h_10)))))))
set_option maxRecDepth 100000 in
set_option maxHeartbeats 4000000 in
theorem bt_X7_check_L36 {l : Launch} {G : ab_G} {F : ab_F} {x1 : Int32} {Q : Int32 → hp_T → Prop}  (C : ab_C G F rm_X7_check cX7_check 4 RX7 (some .int) "check")   : ∀ (nn : Nat) (y2 : Int32) (y3 : Int32) (h : hp_T), wf h → wp_X7_check_L36 x1 Q nn y2 y3 h → ab_W l G F 4 (ab_MQ G F (po_h Q) 0 0) 0 0 h [(0, .ref (G.1 + 0)), (1, .int x1), (2, .int y2), (3, .int y3)] [] 36 := by
  intro nn
  induction nn with
  | zero =>
    intro y2 y3 h hw f
    exact absurd f id
  | succ nn ih =>
    intro y2 y3 h hw f
    unfold wp_X7_check_L36 at f
    refine ab_iload_n C 3 dX7_check_36 rfl rfl ?_
    refine ab_iload_n C 2 dX7_check_37 rfl rfl ?_
    refine ab_icmp_ge C (tgt := 79) dX7_check_38 (by decide) (fun c_8 => ?_) (fun c_8 => ?_)
    · have f := f.1 c_8
      refine ab_iconst C (v := (0 : Int32)) dX7_check_79 (by decide) ?_
      exact ab_iret C dX7_check_80 ⟨hw, _, rfl, f⟩
    · have f := f.2 c_8
      refine ab_aload_n C 0 dX7_check_41 rfl rfl ?_
      refine ab_getR C (q := 61) fl_X7_19 rfl kd_0 (wf_lt hw kd_0 rfl) (wr_7_2 hw) dX7_check_42 ?_
      refine ab_callV C (k := 0) (n := 0) (rest := []) [] cl_X7_160 (mt_X2_passDay kd_61 hw f) rfl (by decide) kd_61 (wf_lt hw kd_61 rfl) ⟨rfl, rfl, Nat.le_of_ble_eq_true rfl, Nat.le_of_ble_eq_true rfl, Nat.zero_le _, Nat.zero_le _⟩ rfl rfl (Nat.le_of_ble_eq_true rfl) dX7_check_45 (ab_kh (k := 0) (n := 0) (fun v_9 h_10 hw_11 f => ?_))
      refine ab_pop C dX7_check_48 rfl ?_
      refine ab_aload_n C 0 dX7_check_49 rfl rfl ?_
      refine ab_getR C (q := 61) fl_X7_19 rfl kd_0 (wf_lt hw_11 kd_0 rfl) (wr_7_2 hw_11) dX7_check_50 ?_
      refine ab_iload_n C 1 dX7_check_53 rfl rfl ?_
      refine ab_callV C (k := 0) (n := 0) (rest := []) [.int x1] cl_X7_176 (mt_X2_knowers kd_61 hw_11 f) rfl (by decide) kd_61 (wf_lt hw_11 kd_61 rfl) ⟨rfl, rfl, Nat.le_of_ble_eq_true rfl, Nat.le_of_ble_eq_true rfl, Nat.zero_le _, Nat.zero_le _⟩ rfl rfl (Nat.le_of_ble_eq_true rfl) dX7_check_54 (ab_kp (k := 0) (n := 0) (fun v_12 f => ?_))
      refine ab_aload_n C 0 dX7_check_57 rfl rfl ?_
      refine ab_getR C (q := 1) fl_X7_10 rfl kd_0 (wf_lt hw_11 kd_0 rfl) (wr_7_0 hw_11) dX7_check_58 ?_
      refine ab_getR C (q := (1 + 7)) fl_X7_259 rfl kd_1 (wf_lt hw_11 kd_1 rfl) (wr_2_14 hw_11 kd_1) dX7_check_61 ?_
      refine ab_iload_n C 3 dX7_check_64 rfl rfl ?_
      obtain ⟨c_13, f⟩ := f
      refine ab_iald C (by rw [(kn_2_14 kd_1)]; decide) (wf_lt hw_11 (kn_2_14 kd_1) rfl) (wf_len hw_11 (kn_2_14 kd_1) rfl rfl (by decide)) c_13 (j := y3.toNatClampNeg) rfl dX7_check_65 ?_
      refine ab_icmp_eq C (tgt := 73) dX7_check_66 (by decide) (fun c_14 => ?_) (fun c_14 => ?_)
      · have f := f.1 c_14
        refine ab_iinc C (lv' := [(3, .int (y3 + (1 : Int32))), (0, .ref (G.1 + 0)), (1, .int x1), (2, .int y2)]) 3 (v := (y3 + (1 : Int32))) dX7_check_73 rfl rfl (by decide) rfl ?_
        refine ab_goto C (tgt := 36) dX7_check_76 (by decide) ?_
        refine ab_sub (lv' := [(0, .ref (G.1 + 0)), (1, .int x1), (2, .int y2), (3, .int (y3 + (1 : Int32)))]) [1, 2, 3, 0] rfl ?_
        exact ih y2 (y3 + (1 : Int32)) h_10  hw_11 f
      · have f := f.2 c_14
        refine ab_iconst C (v := (1 : Int32)) dX7_check_69 (by decide) ?_
        refine ab_iload_n C 3 dX7_check_70 rfl rfl ?_
        refine ab_iadd C dX7_check_71 ?_
        exact ab_iret C dX7_check_72 ⟨hw_11, _, rfl, f⟩
def wp_X7_check (x1 : Int32) (h : hp_T) (Q : Int32 → hp_T → Prop) : Prop :=
  (∀ h_1, h_1 = hp_si h 1 15 (0 : Int32) → wp_X7_isKnack x1 h_1 (fun v_4 => ((v_4 = 0 → wp_X7_error (1 : Int32) h_1 (fun v_15 h_16 => (Q v_15 h_16))) ∧ (¬ (v_4 = 0) → wp_X7_goAhead (0 : Int32) h_1 (fun h_6 => (∃ n0, wp_X7_check_L36 x1 Q  n0 (hp_i h 1 15) (0 : Int32) h_6))))))
set_option maxRecDepth 100000 in
set_option maxHeartbeats 4000000 in
theorem mt_X7_check {l : Launch} {G : ab_G} {x1 : Int32} {h : hp_T} {Q : Int32 → hp_T → Prop} (hw : wf h) (f : wp_X7_check x1 h Q) : ab_M l G yX7_check cX7_check 4 (some .int) rm_X7_check 0 0 [.ref (G.1 + 0), .int x1] h (po_h Q) := by
  refine ab_intro (own := RX7) (nm := "check") rfl rfl rfl (Nat.le_of_ble_eq_true rfl) (fun F C => ?_)
  show ab_W l G F 4 (ab_MQ G F (po_h Q) 0 0) 0 0 h [(0, .ref (G.1 + 0)), (1, .int x1)] [] 0
  unfold wp_X7_check at f
  refine ab_aload_n C 0 dX7_check_0 rfl rfl ?_
  refine ab_getR C (q := 1) fl_X7_10 rfl kd_0 (wf_lt hw kd_0 rfl) (wr_7_0 hw) dX7_check_1 ?_
  refine ab_getI C fl_X7_256 rfl kd_1 (wf_lt hw kd_1 rfl) dX7_check_4 ?_
  refine ab_istore_n C (lv' := [(2, .int (hp_i h 1 15)), (0, .ref (G.1 + 0)), (1, .int x1)]) dX7_check_7 rfl (by decide) rfl ?_
  refine ab_aload_n C 1 dX7_check_8 rfl rfl ?_
  refine ab_getR C (q := 1) fl_X7_10 rfl kd_0 (wf_lt hw kd_0 rfl) (wr_7_0 hw) dX7_check_9 ?_
  refine ab_iconst C (v := (0 : Int32)) dX7_check_12 (by decide) ?_
  refine ab_putI C fl_X7_256 rfl kd_1 (wf_lt hw kd_1 rfl) rfl rfl dX7_check_13 (fun h_1 e_2 => ?_)
  have f := f h_1 e_2
  have hw_3 := wf_si e_2 hw
  refine ab_iload_n C 2 dX7_check_16 rfl rfl ?_
  refine ab_callS C (k := 0) (n := 0) (rest := []) [.int x1] cl_X7_95 (mt_X7_isKnack  hw_3 f) ⟨rfl, rfl, Nat.le_of_ble_eq_true rfl, Nat.le_of_ble_eq_true rfl, Nat.zero_le _, Nat.zero_le _⟩ rfl rfl (Nat.le_of_ble_eq_true rfl) dX7_check_17 (ab_kp (k := 0) (n := 0) (fun v_4 f => ?_))
  refine ab_if_ne C (tgt := 29) dX7_check_20 (by decide) (fun c_5 => ?_) (fun c_5 => ?_)
  · have f := f.2 c_5
    refine ab_aload_n C 1 dX7_check_29 rfl rfl ?_
    refine ab_iconst C (v := (0 : Int32)) dX7_check_30 (by decide) ?_
    refine ab_callV C (k := 0) (n := 0) (rest := []) [.int (0 : Int32)] cl_X7_173 (mt_X7_goAhead  hw_3 f) rfl (by decide) kd_0 (wf_lt hw_3 kd_0 rfl) ⟨rfl, rfl, Nat.le_of_ble_eq_true rfl, Nat.le_of_ble_eq_true rfl, Nat.zero_le _, Nat.zero_le _⟩ rfl rfl (Nat.le_of_ble_eq_true rfl) dX7_check_31 (ab_kv (k := 0) (n := 0) (fun h_6 hw_7 f => ?_))
    refine ab_iconst C (v := (0 : Int32)) dX7_check_34 (by decide) ?_
    refine ab_istore_n C (lv' := [(3, .int (0 : Int32)), (2, .int (hp_i h 1 15)), (0, .ref (G.1 + 0)), (1, .int x1)]) dX7_check_35 rfl (by decide) rfl ?_
    obtain ⟨n0, f⟩ := f
    refine ab_sub (lv' := [(0, .ref (G.1 + 0)), (1, .int x1), (2, .int (hp_i h 1 15)), (3, .int (0 : Int32))]) [2, 3, 1, 0] rfl ?_
    exact bt_X7_check_L36 C    n0 (hp_i h 1 15) (0 : Int32) h_6  hw_7 f
  · have f := f.1 c_5
    refine ab_aload_n C 1 dX7_check_23 rfl rfl ?_
    refine ab_iconst C (v := (1 : Int32)) dX7_check_24 (by decide) ?_
    refine ab_callV C (k := 0) (n := 0) (rest := []) [.int (1 : Int32)] cl_X7_51 (mt_X7_error  hw_3 f) rfl (by decide) kd_0 (wf_lt hw_3 kd_0 rfl) ⟨rfl, rfl, Nat.le_of_ble_eq_true rfl, Nat.le_of_ble_eq_true rfl, Nat.zero_le _, Nat.zero_le _⟩ rfl rfl (Nat.le_of_ble_eq_true rfl) dX7_check_25 (ab_kh (k := 0) (n := 0) (fun v_15 h_16 hw_17 f => ?_))
    exact ab_iret C dX7_check_28 ⟨hw_17, _, rfl, f⟩
/-! X7_count -/
def rm_X7_count : Room := { frames := 3, cells := 0, slots := 0, locals := 122 }
def wp_X7_count (x1 : Int32) (h : hp_T) (Q : Int32 → hp_T → Prop) : Prop :=
  ((x1 = (0 : Int32) → (Q (hp_i h 1 1) h)) ∧ (¬ (x1 = (0 : Int32)) → ((x1 = (1 : Int32) → (Q (hp_i h 1 4) h)) ∧ (¬ (x1 = (1 : Int32)) → ((x1 = (2 : Int32) → (Q (hp_i h 1 5) h)) ∧ (¬ (x1 = (2 : Int32)) → ((x1 = (3 : Int32) → (Q (hp_i h 1 8) h)) ∧ (¬ (x1 = (3 : Int32)) → ((x1 = (4 : Int32) → wp_X2_knownByAny 1 h (fun v_6 => (Q v_6 h))) ∧ (¬ (x1 = (4 : Int32)) → ((x1 = (5 : Int32) → (Q (hp_i h 1 6) h)) ∧ (¬ (x1 = (5 : Int32)) → ((x1 = (6 : Int32) → (Q (hp_i h 1 9) h)) ∧ (¬ (x1 = (6 : Int32)) → ((x1 = (7 : Int32) → (Q (hp_i h 1 12) h)) ∧ (¬ (x1 = (7 : Int32)) → ((x1 = (8 : Int32) → (Q (hp_i h 1 15) h)) ∧ (¬ (x1 = (8 : Int32)) → ((x1 = (9 : Int32) → (Q (hp_i h 93 4) h)) ∧ (¬ (x1 = (9 : Int32)) → ((x1 = (10 : Int32) → (Q (hp_i h 1 10) h)) ∧ (¬ (x1 = (10 : Int32)) → wp_X7_error (1 : Int32) h (fun v_13 h_14 => (Q v_13 h_14))))))))))))))))))))))))
set_option maxRecDepth 100000 in
set_option maxHeartbeats 4000000 in
theorem mt_X7_count {l : Launch} {G : ab_G} {x1 : Int32} {h : hp_T} {Q : Int32 → hp_T → Prop} (hw : wf h) (f : wp_X7_count x1 h Q) : ab_M l G yX7_count cX7_count 2 (some .int) rm_X7_count 0 0 [.ref (G.1 + 0), .int x1] h (po_h Q) := by
  refine ab_intro (own := RX7) (nm := "count") rfl rfl rfl (Nat.le_of_ble_eq_true rfl) (fun F C => ?_)
  show ab_W l G F 2 (ab_MQ G F (po_h Q) 0 0) 0 0 h [(0, .ref (G.1 + 0)), (1, .int x1)] [] 0
  unfold wp_X7_count at f
  refine ab_iload_n C 1 dX7_count_0 rfl rfl ?_
  by_cases c_1 : x1 = (0 : Int32)
  · have f := f.1 c_1
    refine ab_tabC C (off := 59) (tgt := 60) dX7_count_1 c_1 (by decide) (by decide) (by decide) (by decide) ?_
    refine ab_aload_n C 0 dX7_count_60 rfl rfl ?_
    refine ab_getR C (q := 1) fl_X7_10 rfl kd_0 (wf_lt hw kd_0 rfl) (wr_7_0 hw) dX7_count_61 ?_
    refine ab_getI C fl_X7_55 rfl kd_1 (wf_lt hw kd_1 rfl) dX7_count_64 ?_
    exact ab_iret C dX7_count_67 ⟨hw, _, rfl, f⟩
  have f := f.2 c_1
  by_cases c_2 : x1 = (1 : Int32)
  · have f := f.1 c_2
    refine ab_tabC C (off := 67) (tgt := 68) dX7_count_1 c_2 (by decide) (by decide) (by decide) (by decide) ?_
    refine ab_aload_n C 0 dX7_count_68 rfl rfl ?_
    refine ab_getR C (q := 1) fl_X7_10 rfl kd_0 (wf_lt hw kd_0 rfl) (wr_7_0 hw) dX7_count_69 ?_
    refine ab_getI C fl_X7_115 rfl kd_1 (wf_lt hw kd_1 rfl) dX7_count_72 ?_
    exact ab_iret C dX7_count_75 ⟨hw, _, rfl, f⟩
  have f := f.2 c_2
  by_cases c_3 : x1 = (2 : Int32)
  · have f := f.1 c_3
    refine ab_tabC C (off := 75) (tgt := 76) dX7_count_1 c_3 (by decide) (by decide) (by decide) (by decide) ?_
    refine ab_aload_n C 0 dX7_count_76 rfl rfl ?_
    refine ab_getR C (q := 1) fl_X7_10 rfl kd_0 (wf_lt hw kd_0 rfl) (wr_7_0 hw) dX7_count_77 ?_
    refine ab_getI C fl_X7_262 rfl kd_1 (wf_lt hw kd_1 rfl) dX7_count_80 ?_
    exact ab_iret C dX7_count_83 ⟨hw, _, rfl, f⟩
  have f := f.2 c_3
  by_cases c_4 : x1 = (3 : Int32)
  · have f := f.1 c_4
    refine ab_tabC C (off := 83) (tgt := 84) dX7_count_1 c_4 (by decide) (by decide) (by decide) (by decide) ?_
    refine ab_aload_n C 0 dX7_count_84 rfl rfl ?_
    refine ab_getR C (q := 1) fl_X7_10 rfl kd_0 (wf_lt hw kd_0 rfl) (wr_7_0 hw) dX7_count_85 ?_
    refine ab_getI C fl_X7_157 rfl kd_1 (wf_lt hw kd_1 rfl) dX7_count_88 ?_
    exact ab_iret C dX7_count_91 ⟨hw, _, rfl, f⟩
  have f := f.2 c_4
  by_cases c_5 : x1 = (4 : Int32)
  · have f := f.1 c_5
    refine ab_tabC C (off := 91) (tgt := 92) dX7_count_1 c_5 (by decide) (by decide) (by decide) (by decide) ?_
    refine ab_aload_n C 0 dX7_count_92 rfl rfl ?_
    refine ab_getR C (q := 1) fl_X7_10 rfl kd_0 (wf_lt hw kd_0 rfl) (wr_7_0 hw) dX7_count_93 ?_
    refine ab_callV C (k := 0) (n := 0) (rest := []) [] cl_X7_265 (mt_X2_knownByAny kd_1 hw f) rfl (by decide) kd_1 (wf_lt hw kd_1 rfl) ⟨rfl, rfl, Nat.le_of_ble_eq_true rfl, Nat.le_of_ble_eq_true rfl, Nat.zero_le _, Nat.zero_le _⟩ rfl rfl (Nat.le_of_ble_eq_true rfl) dX7_count_96 (ab_kp (k := 0) (n := 0) (fun v_6 f => ?_))
    exact ab_iret C dX7_count_99 ⟨hw, _, rfl, f⟩
  have f := f.2 c_5
  by_cases c_7 : x1 = (5 : Int32)
  · have f := f.1 c_7
    refine ab_tabC C (off := 99) (tgt := 100) dX7_count_1 c_7 (by decide) (by decide) (by decide) (by decide) ?_
    refine ab_aload_n C 0 dX7_count_100 rfl rfl ?_
    refine ab_getR C (q := 1) fl_X7_10 rfl kd_0 (wf_lt hw kd_0 rfl) (wr_7_0 hw) dX7_count_101 ?_
    refine ab_getI C fl_X7_121 rfl kd_1 (wf_lt hw kd_1 rfl) dX7_count_104 ?_
    exact ab_iret C dX7_count_107 ⟨hw, _, rfl, f⟩
  have f := f.2 c_7
  by_cases c_8 : x1 = (6 : Int32)
  · have f := f.1 c_8
    refine ab_tabC C (off := 107) (tgt := 108) dX7_count_1 c_8 (by decide) (by decide) (by decide) (by decide) ?_
    refine ab_aload_n C 0 dX7_count_108 rfl rfl ?_
    refine ab_getR C (q := 1) fl_X7_10 rfl kd_0 (wf_lt hw kd_0 rfl) (wr_7_0 hw) dX7_count_109 ?_
    refine ab_getI C fl_X7_167 rfl kd_1 (wf_lt hw kd_1 rfl) dX7_count_112 ?_
    exact ab_iret C dX7_count_115 ⟨hw, _, rfl, f⟩
  have f := f.2 c_8
  by_cases c_9 : x1 = (7 : Int32)
  · have f := f.1 c_9
    refine ab_tabC C (off := 115) (tgt := 116) dX7_count_1 c_9 (by decide) (by decide) (by decide) (by decide) ?_
    refine ab_aload_n C 0 dX7_count_116 rfl rfl ?_
    refine ab_getR C (q := 1) fl_X7_10 rfl kd_0 (wf_lt hw kd_0 rfl) (wr_7_0 hw) dX7_count_117 ?_
    refine ab_getI C fl_X7_139 rfl kd_1 (wf_lt hw kd_1 rfl) dX7_count_120 ?_
    exact ab_iret C dX7_count_123 ⟨hw, _, rfl, f⟩
  have f := f.2 c_9
  by_cases c_10 : x1 = (8 : Int32)
  · have f := f.1 c_10
    refine ab_tabC C (off := 123) (tgt := 124) dX7_count_1 c_10 (by decide) (by decide) (by decide) (by decide) ?_
    refine ab_aload_n C 0 dX7_count_124 rfl rfl ?_
    refine ab_getR C (q := 1) fl_X7_10 rfl kd_0 (wf_lt hw kd_0 rfl) (wr_7_0 hw) dX7_count_125 ?_
    refine ab_getI C fl_X7_256 rfl kd_1 (wf_lt hw kd_1 rfl) dX7_count_128 ?_
    exact ab_iret C dX7_count_131 ⟨hw, _, rfl, f⟩
  have f := f.2 c_10
  by_cases c_11 : x1 = (9 : Int32)
  · have f := f.1 c_11
    refine ab_tabC C (off := 131) (tgt := 132) dX7_count_1 c_11 (by decide) (by decide) (by decide) (by decide) ?_
    refine ab_aload_n C 0 dX7_count_132 rfl rfl ?_
    refine ab_getR C (q := 93) fl_X7_32 rfl kd_0 (wf_lt hw kd_0 rfl) (wr_7_4 hw) dX7_count_133 ?_
    refine ab_getI C fl_X7_212 rfl kd_93 (wf_lt hw kd_93 rfl) dX7_count_136 ?_
    exact ab_iret C dX7_count_139 ⟨hw, _, rfl, f⟩
  have f := f.2 c_11
  by_cases c_12 : x1 = (10 : Int32)
  · have f := f.1 c_12
    refine ab_tabC C (off := 139) (tgt := 140) dX7_count_1 c_12 (by decide) (by decide) (by decide) (by decide) ?_
    refine ab_aload_n C 0 dX7_count_140 rfl rfl ?_
    refine ab_getR C (q := 1) fl_X7_10 rfl kd_0 (wf_lt hw kd_0 rfl) (wr_7_0 hw) dX7_count_141 ?_
    refine ab_getI C fl_X7_170 rfl kd_1 (wf_lt hw kd_1 rfl) dX7_count_144 ?_
    exact ab_iret C dX7_count_147 ⟨hw, _, rfl, f⟩
  have f := f.2 c_12
  refine ab_tabOut C (tgt := 148) dX7_count_1 (ab_tout (fun j j1 j2 => ?_)) (by decide) ?_
  · have hh : j = 0 ∨ j = 1 ∨ j = 2 ∨ j = 3 ∨ j = 4 ∨ j = 5 ∨ j = 6 ∨ j = 7 ∨ j = 8 ∨ j = 9 ∨ j = 10 := by omega
    rcases hh with rfl | rfl | rfl | rfl | rfl | rfl | rfl | rfl | rfl | rfl | rfl
    · exact ab_ne c_1
    · exact ab_ne c_2
    · exact ab_ne c_3
    · exact ab_ne c_4
    · exact ab_ne c_5
    · exact ab_ne c_7
    · exact ab_ne c_8
    · exact ab_ne c_9
    · exact ab_ne c_10
    · exact ab_ne c_11
    · exact ab_ne c_12
  · skip
    refine ab_aload_n C 0 dX7_count_148 rfl rfl ?_
    refine ab_iconst C (v := (1 : Int32)) dX7_count_149 (by decide) ?_
    refine ab_callV C (k := 0) (n := 0) (rest := []) [.int (1 : Int32)] cl_X7_51 (mt_X7_error  hw f) rfl (by decide) kd_0 (wf_lt hw kd_0 rfl) ⟨rfl, rfl, Nat.le_of_ble_eq_true rfl, Nat.le_of_ble_eq_true rfl, Nat.zero_le _, Nat.zero_le _⟩ rfl rfl (Nat.le_of_ble_eq_true rfl) dX7_count_150 (ab_kh (k := 0) (n := 0) (fun v_13 h_14 hw_15 f => ?_))
    exact ab_iret C dX7_count_153 ⟨hw_15, _, rfl, f⟩
/-! X7_days -/
def rm_X7_days : Room := { frames := 8, cells := 0, slots := 0, locals := 242 }
def wp_X7_days_L41 (x1 : Int32) (Q : Int32 → hp_T → Prop) : Nat → Int32 → Int32 → hp_T → Prop
  | 0 => fun _ _ _ => False
  | nn + 1 => fun y2 y3 h => ((x1 ≤ y3 → (Q y2 h)) ∧ (¬ (x1 ≤ y3) → wp_X2_passDay 1 h (fun v_5 h_6 => (wp_X7_days_L41 x1 Q nn) (y2 + v_5) (y3 + (1 : Int32)) h_6)))
set_option maxRecDepth 100000 in
set_option maxHeartbeats 4000000 in
theorem bt_X7_days_L41 {l : Launch} {G : ab_G} {F : ab_F} {x1 : Int32} {Q : Int32 → hp_T → Prop}  (C : ab_C G F rm_X7_days cX7_days 4 RX7 (some .int) "days")   : ∀ (nn : Nat) (y2 : Int32) (y3 : Int32) (h : hp_T), wf h → wp_X7_days_L41 x1 Q nn y2 y3 h → ab_W l G F 4 (ab_MQ G F (po_h Q) 0 0) 0 0 h [(0, .ref (G.1 + 0)), (1, .int x1), (2, .int y2), (3, .int y3)] [] 41 := by
  intro nn
  induction nn with
  | zero =>
    intro y2 y3 h hw f
    exact absurd f id
  | succ nn ih =>
    intro y2 y3 h hw f
    unfold wp_X7_days_L41 at f
    refine ab_iload_n C 3 dX7_days_41 rfl rfl ?_
    refine ab_iload_n C 1 dX7_days_42 rfl rfl ?_
    refine ab_icmp_ge C (tgt := 62) dX7_days_43 (by decide) (fun c_4 => ?_) (fun c_4 => ?_)
    · have f := f.1 c_4
      refine ab_iload_n C 2 dX7_days_62 rfl rfl ?_
      exact ab_iret C dX7_days_63 ⟨hw, _, rfl, f⟩
    · have f := f.2 c_4
      refine ab_iload_n C 2 dX7_days_46 rfl rfl ?_
      refine ab_aload_n C 0 dX7_days_47 rfl rfl ?_
      refine ab_getR C (q := 1) fl_X7_10 rfl kd_0 (wf_lt hw kd_0 rfl) (wr_7_0 hw) dX7_days_48 ?_
      refine ab_callV C (k := 0) (n := 0) (rest := [.int y2]) [] cl_X7_160 (mt_X2_passDay kd_1 hw f) rfl (by decide) kd_1 (wf_lt hw kd_1 rfl) ⟨rfl, rfl, Nat.le_of_ble_eq_true rfl, Nat.le_of_ble_eq_true rfl, Nat.zero_le _, Nat.zero_le _⟩ rfl rfl (Nat.le_of_ble_eq_true rfl) dX7_days_51 (ab_kh (k := 0) (n := 0) (fun v_5 h_6 hw_7 f => ?_))
      refine ab_iadd C dX7_days_54 ?_
      refine ab_istore_n C (lv' := [(2, .int (y2 + v_5)), (0, .ref (G.1 + 0)), (1, .int x1), (3, .int y3)]) dX7_days_55 rfl (by decide) rfl ?_
      refine ab_iinc C (lv' := [(3, .int (y3 + (1 : Int32))), (2, .int (y2 + v_5)), (0, .ref (G.1 + 0)), (1, .int x1)]) 3 (v := (y3 + (1 : Int32))) dX7_days_56 rfl rfl (by decide) rfl ?_
      refine ab_goto C (tgt := 41) dX7_days_59 (by decide) ?_
      refine ab_sub (lv' := [(0, .ref (G.1 + 0)), (1, .int x1), (2, .int (y2 + v_5)), (3, .int (y3 + (1 : Int32)))]) [2, 3, 1, 0] rfl ?_
      exact ih (y2 + v_5) (y3 + (1 : Int32)) h_6  hw_7 f
def wp_X7_days (x1 : Int32) (h : hp_T) (Q : Int32 → hp_T → Prop) : Prop :=
  wp_X7_within x1 (1 : Int32) (90 : Int32) h (fun v_1 => ((v_1 = 0 → wp_X7_error (1 : Int32) h (fun v_11 h_12 => (Q v_11 h_12))) ∧ (¬ (v_1 = 0) → ((((hp_i h 1 8) + x1) ≤ (9999 : Int32) → (∃ n0, wp_X7_days_L41 x1 Q  n0 (0 : Int32) (0 : Int32) h)) ∧ (¬ (((hp_i h 1 8) + x1) ≤ (9999 : Int32)) → wp_X7_error (3 : Int32) h (fun v_8 h_9 => (Q v_8 h_9)))))))
set_option maxRecDepth 100000 in
set_option maxHeartbeats 4000000 in
theorem mt_X7_days {l : Launch} {G : ab_G} {x1 : Int32} {h : hp_T} {Q : Int32 → hp_T → Prop} (hw : wf h) (f : wp_X7_days x1 h Q) : ab_M l G yX7_days cX7_days 4 (some .int) rm_X7_days 0 0 [.ref (G.1 + 0), .int x1] h (po_h Q) := by
  refine ab_intro (own := RX7) (nm := "days") rfl rfl rfl (Nat.le_of_ble_eq_true rfl) (fun F C => ?_)
  show ab_W l G F 4 (ab_MQ G F (po_h Q) 0 0) 0 0 h [(0, .ref (G.1 + 0)), (1, .int x1)] [] 0
  unfold wp_X7_days at f
  refine ab_iload_n C 1 dX7_days_0 rfl rfl ?_
  refine ab_iconst C (v := (1 : Int32)) dX7_days_1 (by decide) ?_
  refine ab_bipush C (v := (90 : Int32)) dX7_days_2 (by decide) ?_
  refine ab_callS C (k := 0) (n := 0) (rest := []) [.int x1, .int (1 : Int32), .int (90 : Int32)] cl_X7_47 (mt_X7_within  hw f) ⟨rfl, rfl, Nat.le_of_ble_eq_true rfl, Nat.le_of_ble_eq_true rfl, Nat.zero_le _, Nat.zero_le _⟩ rfl rfl (Nat.le_of_ble_eq_true rfl) dX7_days_4 (ab_kp (k := 0) (n := 0) (fun v_1 f => ?_))
  refine ab_if_ne C (tgt := 16) dX7_days_7 (by decide) (fun c_2 => ?_) (fun c_2 => ?_)
  · have f := f.2 c_2
    refine ab_aload_n C 0 dX7_days_16 rfl rfl ?_
    refine ab_getR C (q := 1) fl_X7_10 rfl kd_0 (wf_lt hw kd_0 rfl) (wr_7_0 hw) dX7_days_17 ?_
    refine ab_getI C fl_X7_157 rfl kd_1 (wf_lt hw kd_1 rfl) dX7_days_20 ?_
    refine ab_iload_n C 1 dX7_days_23 rfl rfl ?_
    refine ab_iadd C dX7_days_24 ?_
    refine ab_sipush C (v := (9999 : Int32)) dX7_days_25 (by decide) ?_
    refine ab_icmp_le C (tgt := 37) dX7_days_28 (by decide) (fun c_3 => ?_) (fun c_3 => ?_)
    · have f := f.1 c_3
      refine ab_iconst C (v := (0 : Int32)) dX7_days_37 (by decide) ?_
      refine ab_istore_n C (lv' := [(2, .int (0 : Int32)), (0, .ref (G.1 + 0)), (1, .int x1)]) dX7_days_38 rfl (by decide) rfl ?_
      refine ab_iconst C (v := (0 : Int32)) dX7_days_39 (by decide) ?_
      refine ab_istore_n C (lv' := [(3, .int (0 : Int32)), (2, .int (0 : Int32)), (0, .ref (G.1 + 0)), (1, .int x1)]) dX7_days_40 rfl (by decide) rfl ?_
      obtain ⟨n0, f⟩ := f
      refine ab_sub (lv' := [(0, .ref (G.1 + 0)), (1, .int x1), (2, .int (0 : Int32)), (3, .int (0 : Int32))]) [2, 3, 1, 0] rfl ?_
      exact bt_X7_days_L41 C    n0 (0 : Int32) (0 : Int32) h  hw f
    · have f := f.2 c_3
      refine ab_aload_n C 0 dX7_days_31 rfl rfl ?_
      refine ab_iconst C (v := (3 : Int32)) dX7_days_32 (by decide) ?_
      refine ab_callV C (k := 0) (n := 0) (rest := []) [.int (3 : Int32)] cl_X7_51 (mt_X7_error  hw f) rfl (by decide) kd_0 (wf_lt hw kd_0 rfl) ⟨rfl, rfl, Nat.le_of_ble_eq_true rfl, Nat.le_of_ble_eq_true rfl, Nat.zero_le _, Nat.zero_le _⟩ rfl rfl (Nat.le_of_ble_eq_true rfl) dX7_days_33 (ab_kh (k := 0) (n := 0) (fun v_8 h_9 hw_10 f => ?_))
      exact ab_iret C dX7_days_36 ⟨hw_10, _, rfl, f⟩
  · have f := f.1 c_2
    refine ab_aload_n C 0 dX7_days_10 rfl rfl ?_
    refine ab_iconst C (v := (1 : Int32)) dX7_days_11 (by decide) ?_
    refine ab_callV C (k := 0) (n := 0) (rest := []) [.int (1 : Int32)] cl_X7_51 (mt_X7_error  hw f) rfl (by decide) kd_0 (wf_lt hw kd_0 rfl) ⟨rfl, rfl, Nat.le_of_ble_eq_true rfl, Nat.le_of_ble_eq_true rfl, Nat.zero_le _, Nat.zero_le _⟩ rfl rfl (Nat.le_of_ble_eq_true rfl) dX7_days_12 (ab_kh (k := 0) (n := 0) (fun v_11 h_12 hw_13 f => ?_))
    exact ab_iret C dX7_days_15 ⟨hw_13, _, rfl, f⟩
/-! X7_doneWithBook -/
def rm_X7_doneWithBook : Room := { frames := 8, cells := 0, slots := 0, locals := 242 }
def wp_X7_doneWithBook_L21 (x1 : Int32) (x2 : Int32) (Q : Int32 → hp_T → Prop) : Nat → Int32 → hp_T → Prop
  | 0 => fun _ _ => False
  | nn + 1 => fun y3 h => ((x2 ≤ y3 → wp_X2_doneOfAll 61 h (fun v_7 => (Q v_7 h))) ∧ (¬ (x2 ≤ y3) → wp_X2_passDay 61 h (fun v_8 h_9 => (wp_X7_doneWithBook_L21 x1 x2 Q nn) (y3 + (1 : Int32)) h_9)))
set_option maxRecDepth 100000 in
set_option maxHeartbeats 4000000 in
theorem bt_X7_doneWithBook_L21 {l : Launch} {G : ab_G} {F : ab_F} {x1 : Int32} {x2 : Int32} {Q : Int32 → hp_T → Prop}  (C : ab_C G F rm_X7_doneWithBook cX7_doneWithBook 4 RX7 (some .int) "doneWithBook")   : ∀ (nn : Nat) (y3 : Int32) (h : hp_T), wf h → wp_X7_doneWithBook_L21 x1 x2 Q nn y3 h → ab_W l G F 4 (ab_MQ G F (po_h Q) 0 0) 0 0 h [(0, .ref (G.1 + 0)), (2, .int x2), (3, .int y3)] [] 21 := by
  intro nn
  induction nn with
  | zero =>
    intro y3 h hw f
    exact absurd f id
  | succ nn ih =>
    intro y3 h hw f
    unfold wp_X7_doneWithBook_L21 at f
    refine ab_iload_n C 2 dX7_doneWithBook_21 rfl rfl ?_
    refine ab_iload_n C 1 dX7_doneWithBook_22 rfl rfl ?_
    refine ab_icmp_ge C (tgt := 40) dX7_doneWithBook_23 (by decide) (fun c_6 => ?_) (fun c_6 => ?_)
    · have f := f.1 c_6
      refine ab_aload_n C 0 dX7_doneWithBook_40 rfl rfl ?_
      refine ab_getR C (q := 61) fl_X7_19 rfl kd_0 (wf_lt hw kd_0 rfl) (wr_7_2 hw) dX7_doneWithBook_41 ?_
      refine ab_callV C (k := 0) (n := 0) (rest := []) [] cl_X7_272 (mt_X2_doneOfAll kd_61 hw f) rfl (by decide) kd_61 (wf_lt hw kd_61 rfl) ⟨rfl, rfl, Nat.le_of_ble_eq_true rfl, Nat.le_of_ble_eq_true rfl, Nat.zero_le _, Nat.zero_le _⟩ rfl rfl (Nat.le_of_ble_eq_true rfl) dX7_doneWithBook_44 (ab_kp (k := 0) (n := 0) (fun v_7 f => ?_))
      exact ab_iret C dX7_doneWithBook_47 ⟨hw, _, rfl, f⟩
    · have f := f.2 c_6
      refine ab_aload_n C 0 dX7_doneWithBook_26 rfl rfl ?_
      refine ab_getR C (q := 61) fl_X7_19 rfl kd_0 (wf_lt hw kd_0 rfl) (wr_7_2 hw) dX7_doneWithBook_27 ?_
      refine ab_callV C (k := 0) (n := 0) (rest := []) [] cl_X7_160 (mt_X2_passDay kd_61 hw f) rfl (by decide) kd_61 (wf_lt hw kd_61 rfl) ⟨rfl, rfl, Nat.le_of_ble_eq_true rfl, Nat.le_of_ble_eq_true rfl, Nat.zero_le _, Nat.zero_le _⟩ rfl rfl (Nat.le_of_ble_eq_true rfl) dX7_doneWithBook_30 (ab_kh (k := 0) (n := 0) (fun v_8 h_9 hw_10 f => ?_))
      refine ab_pop C dX7_doneWithBook_33 rfl ?_
      refine ab_iinc C (lv' := [(3, .int (y3 + (1 : Int32))), (0, .ref (G.1 + 0)), (2, .int x2)]) 2 (v := (y3 + (1 : Int32))) dX7_doneWithBook_34 rfl rfl (by decide) rfl ?_
      refine ab_goto C (tgt := 21) dX7_doneWithBook_37 (by decide) ?_
      refine ab_sub (lv' := [(0, .ref (G.1 + 0)), (2, .int x2), (3, .int (y3 + (1 : Int32)))]) [1, 2, 0] rfl ?_
      exact ih (y3 + (1 : Int32)) h_9  hw_10 f
def wp_X7_doneWithBook (x1 : Int32) (x2 : Int32) (h : hp_T) (Q : Int32 → hp_T → Prop) : Prop :=
  wp_X2_copyFrom 61 1 h (fun h_1 => (∀ h_3, h_3 = hp_si h_1 61 6 x1 → (∃ n0, wp_X7_doneWithBook_L21 x1 x2 Q  n0 (0 : Int32) h_3)))
set_option maxRecDepth 100000 in
set_option maxHeartbeats 4000000 in
theorem mt_X7_doneWithBook {l : Launch} {G : ab_G} {x1 : Int32} {x2 : Int32} {h : hp_T} {Q : Int32 → hp_T → Prop} (hw : wf h) (f : wp_X7_doneWithBook x1 x2 h Q) : ab_M l G yX7_doneWithBook cX7_doneWithBook 4 (some .int) rm_X7_doneWithBook 0 0 [.ref (G.1 + 0), .int x1, .int x2] h (po_h Q) := by
  refine ab_intro (own := RX7) (nm := "doneWithBook") rfl rfl rfl (Nat.le_of_ble_eq_true rfl) (fun F C => ?_)
  show ab_W l G F 4 (ab_MQ G F (po_h Q) 0 0) 0 0 h [(0, .ref (G.1 + 0)), (1, .int x1), (2, .int x2)] [] 0
  unfold wp_X7_doneWithBook at f
  refine ab_aload_n C 0 dX7_doneWithBook_0 rfl rfl ?_
  refine ab_getR C (q := 61) fl_X7_19 rfl kd_0 (wf_lt hw kd_0 rfl) (wr_7_2 hw) dX7_doneWithBook_1 ?_
  refine ab_aload_n C 0 dX7_doneWithBook_4 rfl rfl ?_
  refine ab_getR C (q := 1) fl_X7_10 rfl kd_0 (wf_lt hw kd_0 rfl) (wr_7_0 hw) dX7_doneWithBook_5 ?_
  refine ab_callV C (k := 0) (n := 0) (rest := []) [.ref (G.1 + 1)] cl_X7_249 (mt_X2_copyFrom kd_61 kd_1 hw f) rfl (by decide) kd_61 (wf_lt hw kd_61 rfl) ⟨rfl, rfl, Nat.le_of_ble_eq_true rfl, Nat.le_of_ble_eq_true rfl, Nat.zero_le _, Nat.zero_le _⟩ rfl rfl (Nat.le_of_ble_eq_true rfl) dX7_doneWithBook_8 (ab_kv (k := 0) (n := 0) (fun h_1 hw_2 f => ?_))
  refine ab_aload_n C 0 dX7_doneWithBook_11 rfl rfl ?_
  refine ab_getR C (q := 61) fl_X7_19 rfl kd_0 (wf_lt hw_2 kd_0 rfl) (wr_7_2 hw_2) dX7_doneWithBook_12 ?_
  refine ab_iload_n C 1 dX7_doneWithBook_15 rfl rfl ?_
  refine ab_putI C fl_X7_121 rfl kd_61 (wf_lt hw_2 kd_61 rfl) rfl rfl dX7_doneWithBook_16 (fun h_3 e_4 => ?_)
  have f := f h_3 e_4
  have hw_5 := wf_si e_4 hw_2
  refine ab_iconst C (v := (0 : Int32)) dX7_doneWithBook_19 (by decide) ?_
  refine ab_istore_n C (lv' := [(3, .int (0 : Int32)), (0, .ref (G.1 + 0)), (1, .int x1), (2, .int x2)]) dX7_doneWithBook_20 rfl (by decide) rfl ?_
  obtain ⟨n0, f⟩ := f
  refine ab_sub (lv' := [(0, .ref (G.1 + 0)), (2, .int x2), (3, .int (0 : Int32))]) [1, 3, 0] rfl ?_
  exact bt_X7_doneWithBook_L21 C    n0 (0 : Int32) h_3  hw_5 f
/-! X7_draws -/
def rm_X7_draws : Room := { frames := 8, cells := 0, slots := 0, locals := 242 }
def wp_X7_draws_L41 (x1 : Int32) (Q : Int32 → hp_T → Prop) : Nat → Int32 → Int32 → hp_T → Prop
  | 0 => fun _ _ _ => False
  | nn + 1 => fun y2 y3 h => ((x1 ≤ y3 → (Q y2 h)) ∧ (¬ (x1 ≤ y3) → wp_X2_passDayByDraws 1 h (fun v_5 h_6 => (wp_X7_draws_L41 x1 Q nn) (y2 + v_5) (y3 + (1 : Int32)) h_6)))
set_option maxRecDepth 100000 in
set_option maxHeartbeats 4000000 in
theorem bt_X7_draws_L41 {l : Launch} {G : ab_G} {F : ab_F} {x1 : Int32} {Q : Int32 → hp_T → Prop}  (C : ab_C G F rm_X7_draws cX7_draws 4 RX7 (some .int) "draws")   : ∀ (nn : Nat) (y2 : Int32) (y3 : Int32) (h : hp_T), wf h → wp_X7_draws_L41 x1 Q nn y2 y3 h → ab_W l G F 4 (ab_MQ G F (po_h Q) 0 0) 0 0 h [(0, .ref (G.1 + 0)), (1, .int x1), (2, .int y2), (3, .int y3)] [] 41 := by
  intro nn
  induction nn with
  | zero =>
    intro y2 y3 h hw f
    exact absurd f id
  | succ nn ih =>
    intro y2 y3 h hw f
    unfold wp_X7_draws_L41 at f
    refine ab_iload_n C 3 dX7_draws_41 rfl rfl ?_
    refine ab_iload_n C 1 dX7_draws_42 rfl rfl ?_
    refine ab_icmp_ge C (tgt := 62) dX7_draws_43 (by decide) (fun c_4 => ?_) (fun c_4 => ?_)
    · have f := f.1 c_4
      refine ab_iload_n C 2 dX7_draws_62 rfl rfl ?_
      exact ab_iret C dX7_draws_63 ⟨hw, _, rfl, f⟩
    · have f := f.2 c_4
      refine ab_iload_n C 2 dX7_draws_46 rfl rfl ?_
      refine ab_aload_n C 0 dX7_draws_47 rfl rfl ?_
      refine ab_getR C (q := 1) fl_X7_10 rfl kd_0 (wf_lt hw kd_0 rfl) (wr_7_0 hw) dX7_draws_48 ?_
      refine ab_callV C (k := 0) (n := 0) (rest := [.int y2]) [] cl_X7_164 (mt_X2_passDayByDraws kd_1 hw f) rfl (by decide) kd_1 (wf_lt hw kd_1 rfl) ⟨rfl, rfl, Nat.le_of_ble_eq_true rfl, Nat.le_of_ble_eq_true rfl, Nat.zero_le _, Nat.zero_le _⟩ rfl rfl (Nat.le_of_ble_eq_true rfl) dX7_draws_51 (ab_kh (k := 0) (n := 0) (fun v_5 h_6 hw_7 f => ?_))
      refine ab_iadd C dX7_draws_54 ?_
      refine ab_istore_n C (lv' := [(2, .int (y2 + v_5)), (0, .ref (G.1 + 0)), (1, .int x1), (3, .int y3)]) dX7_draws_55 rfl (by decide) rfl ?_
      refine ab_iinc C (lv' := [(3, .int (y3 + (1 : Int32))), (2, .int (y2 + v_5)), (0, .ref (G.1 + 0)), (1, .int x1)]) 3 (v := (y3 + (1 : Int32))) dX7_draws_56 rfl rfl (by decide) rfl ?_
      refine ab_goto C (tgt := 41) dX7_draws_59 (by decide) ?_
      refine ab_sub (lv' := [(0, .ref (G.1 + 0)), (1, .int x1), (2, .int (y2 + v_5)), (3, .int (y3 + (1 : Int32)))]) [2, 3, 1, 0] rfl ?_
      exact ih (y2 + v_5) (y3 + (1 : Int32)) h_6  hw_7 f
def wp_X7_draws (x1 : Int32) (h : hp_T) (Q : Int32 → hp_T → Prop) : Prop :=
  wp_X7_within x1 (1 : Int32) (90 : Int32) h (fun v_1 => ((v_1 = 0 → wp_X7_error (1 : Int32) h (fun v_11 h_12 => (Q v_11 h_12))) ∧ (¬ (v_1 = 0) → ((((hp_i h 1 8) + x1) ≤ (9999 : Int32) → (∃ n0, wp_X7_draws_L41 x1 Q  n0 (0 : Int32) (0 : Int32) h)) ∧ (¬ (((hp_i h 1 8) + x1) ≤ (9999 : Int32)) → wp_X7_error (3 : Int32) h (fun v_8 h_9 => (Q v_8 h_9)))))))
set_option maxRecDepth 100000 in
set_option maxHeartbeats 4000000 in
theorem mt_X7_draws {l : Launch} {G : ab_G} {x1 : Int32} {h : hp_T} {Q : Int32 → hp_T → Prop} (hw : wf h) (f : wp_X7_draws x1 h Q) : ab_M l G yX7_draws cX7_draws 4 (some .int) rm_X7_draws 0 0 [.ref (G.1 + 0), .int x1] h (po_h Q) := by
  refine ab_intro (own := RX7) (nm := "draws") rfl rfl rfl (Nat.le_of_ble_eq_true rfl) (fun F C => ?_)
  show ab_W l G F 4 (ab_MQ G F (po_h Q) 0 0) 0 0 h [(0, .ref (G.1 + 0)), (1, .int x1)] [] 0
  unfold wp_X7_draws at f
  refine ab_iload_n C 1 dX7_draws_0 rfl rfl ?_
  refine ab_iconst C (v := (1 : Int32)) dX7_draws_1 (by decide) ?_
  refine ab_bipush C (v := (90 : Int32)) dX7_draws_2 (by decide) ?_
  refine ab_callS C (k := 0) (n := 0) (rest := []) [.int x1, .int (1 : Int32), .int (90 : Int32)] cl_X7_47 (mt_X7_within  hw f) ⟨rfl, rfl, Nat.le_of_ble_eq_true rfl, Nat.le_of_ble_eq_true rfl, Nat.zero_le _, Nat.zero_le _⟩ rfl rfl (Nat.le_of_ble_eq_true rfl) dX7_draws_4 (ab_kp (k := 0) (n := 0) (fun v_1 f => ?_))
  refine ab_if_ne C (tgt := 16) dX7_draws_7 (by decide) (fun c_2 => ?_) (fun c_2 => ?_)
  · have f := f.2 c_2
    refine ab_aload_n C 0 dX7_draws_16 rfl rfl ?_
    refine ab_getR C (q := 1) fl_X7_10 rfl kd_0 (wf_lt hw kd_0 rfl) (wr_7_0 hw) dX7_draws_17 ?_
    refine ab_getI C fl_X7_157 rfl kd_1 (wf_lt hw kd_1 rfl) dX7_draws_20 ?_
    refine ab_iload_n C 1 dX7_draws_23 rfl rfl ?_
    refine ab_iadd C dX7_draws_24 ?_
    refine ab_sipush C (v := (9999 : Int32)) dX7_draws_25 (by decide) ?_
    refine ab_icmp_le C (tgt := 37) dX7_draws_28 (by decide) (fun c_3 => ?_) (fun c_3 => ?_)
    · have f := f.1 c_3
      refine ab_iconst C (v := (0 : Int32)) dX7_draws_37 (by decide) ?_
      refine ab_istore_n C (lv' := [(2, .int (0 : Int32)), (0, .ref (G.1 + 0)), (1, .int x1)]) dX7_draws_38 rfl (by decide) rfl ?_
      refine ab_iconst C (v := (0 : Int32)) dX7_draws_39 (by decide) ?_
      refine ab_istore_n C (lv' := [(3, .int (0 : Int32)), (2, .int (0 : Int32)), (0, .ref (G.1 + 0)), (1, .int x1)]) dX7_draws_40 rfl (by decide) rfl ?_
      obtain ⟨n0, f⟩ := f
      refine ab_sub (lv' := [(0, .ref (G.1 + 0)), (1, .int x1), (2, .int (0 : Int32)), (3, .int (0 : Int32))]) [2, 3, 1, 0] rfl ?_
      exact bt_X7_draws_L41 C    n0 (0 : Int32) (0 : Int32) h  hw f
    · have f := f.2 c_3
      refine ab_aload_n C 0 dX7_draws_31 rfl rfl ?_
      refine ab_iconst C (v := (3 : Int32)) dX7_draws_32 (by decide) ?_
      refine ab_callV C (k := 0) (n := 0) (rest := []) [.int (3 : Int32)] cl_X7_51 (mt_X7_error  hw f) rfl (by decide) kd_0 (wf_lt hw kd_0 rfl) ⟨rfl, rfl, Nat.le_of_ble_eq_true rfl, Nat.le_of_ble_eq_true rfl, Nat.zero_le _, Nat.zero_le _⟩ rfl rfl (Nat.le_of_ble_eq_true rfl) dX7_draws_33 (ab_kh (k := 0) (n := 0) (fun v_8 h_9 hw_10 f => ?_))
      exact ab_iret C dX7_draws_36 ⟨hw_10, _, rfl, f⟩
  · have f := f.1 c_2
    refine ab_aload_n C 0 dX7_draws_10 rfl rfl ?_
    refine ab_iconst C (v := (1 : Int32)) dX7_draws_11 (by decide) ?_
    refine ab_callV C (k := 0) (n := 0) (rest := []) [.int (1 : Int32)] cl_X7_51 (mt_X7_error  hw f) rfl (by decide) kd_0 (wf_lt hw kd_0 rfl) ⟨rfl, rfl, Nat.le_of_ble_eq_true rfl, Nat.le_of_ble_eq_true rfl, Nat.zero_le _, Nat.zero_le _⟩ rfl rfl (Nat.le_of_ble_eq_true rfl) dX7_draws_12 (ab_kh (k := 0) (n := 0) (fun v_11 h_12 hw_13 f => ?_))
    exact ab_iret C dX7_draws_15 ⟨hw_13, _, rfl, f⟩
/-! X7_feed -/
def rm_X7_feed : Room := { frames := 3, cells := 0, slots := 0, locals := 122 }
def wp_X7_feed_L39 (x1 : Int64) (x3 : Int32) (Q : Int32 → hp_T → Prop) : Nat → Int32 → hp_T → Prop
  | 0 => fun _ _ => False
  | nn + 1 => fun y4 h => ((x3 ≤ y4 → (Q (hp_i h 1 12) h)) ∧ (¬ (x3 ≤ y4) → (vp_in (hp_i h 1 12) 60) ∧ (∀ h_6, h_6 = hp_si h (1 + 5) ((hp_i h 1 12).toNatClampNeg) (vp_nar .byte (((ab_lush x1 ((8 : Int32) * y4)).toInt32).toInt8.toInt32)) → (∀ h_9, h_9 = hp_si h_6 1 12 ((hp_i h_6 1 12) + (1 : Int32)) → (wp_X7_feed_L39 x1 x3 Q nn) (y4 + (1 : Int32)) h_9))))
set_option maxRecDepth 100000 in
set_option maxHeartbeats 4000000 in
theorem bt_X7_feed_L39 {l : Launch} {G : ab_G} {F : ab_F} {x1 : Int64} {x3 : Int32} {Q : Int32 → hp_T → Prop}  (C : ab_C G F rm_X7_feed cX7_feed 5 RX7 (some .int) "feed")   : ∀ (nn : Nat) (y4 : Int32) (h : hp_T), wf h → wp_X7_feed_L39 x1 x3 Q nn y4 h → ab_W l G F 5 (ab_MQ G F (po_h Q) 0 0) 0 0 h [(0, .ref (G.1 + 0)), (1, .long x1), (3, .int x3), (4, .int y4)] [] 39 := by
  intro nn
  induction nn with
  | zero =>
    intro y4 h hw f
    exact absurd f id
  | succ nn ih =>
    intro y4 h hw f
    unfold wp_X7_feed_L39 at f
    refine ab_iload C 3 dX7_feed_39 rfl ?_
    refine ab_iload_n C 2 dX7_feed_41 rfl rfl ?_
    refine ab_icmp_ge C (tgt := 88) dX7_feed_42 (by decide) (fun c_4 => ?_) (fun c_4 => ?_)
    · have f := f.1 c_4
      refine ab_aload_n C 0 dX7_feed_88 rfl rfl ?_
      refine ab_getR C (q := 1) fl_X7_10 rfl kd_0 (wf_lt hw kd_0 rfl) (wr_7_0 hw) dX7_feed_89 ?_
      refine ab_getI C fl_X7_139 rfl kd_1 (wf_lt hw kd_1 rfl) dX7_feed_92 ?_
      exact ab_iret C dX7_feed_95 ⟨hw, _, rfl, f⟩
    · have f := f.2 c_4
      refine ab_aload_n C 0 dX7_feed_45 rfl rfl ?_
      refine ab_getR C (q := 1) fl_X7_10 rfl kd_0 (wf_lt hw kd_0 rfl) (wr_7_0 hw) dX7_feed_46 ?_
      refine ab_getR C (q := (1 + 5)) fl_X7_142 rfl kd_1 (wf_lt hw kd_1 rfl) (wr_2_11 hw kd_1) dX7_feed_49 ?_
      refine ab_aload_n C 0 dX7_feed_52 rfl rfl ?_
      refine ab_getR C (q := 1) fl_X7_10 rfl kd_0 (wf_lt hw kd_0 rfl) (wr_7_0 hw) dX7_feed_53 ?_
      refine ab_getI C fl_X7_139 rfl kd_1 (wf_lt hw kd_1 rfl) dX7_feed_56 ?_
      refine ab_lload_n C 1 dX7_feed_59 rfl rfl ?_
      refine ab_bipush C (v := (8 : Int32)) dX7_feed_60 (by decide) ?_
      refine ab_iload C 3 dX7_feed_62 rfl ?_
      refine ab_imul C dX7_feed_64 ?_
      refine ab_lushr C dX7_feed_65 ?_
      refine ab_l2i C dX7_feed_66 ?_
      refine ab_i2b C dX7_feed_67 ?_
      obtain ⟨c_5, f⟩ := f
      refine ab_bast C (kn_2_11 kd_1) (wf_lt hw (kn_2_11 kd_1) rfl) (wf_len hw (kn_2_11 kd_1) rfl rfl (by decide)) c_5 (j := (hp_i h 1 12).toNatClampNeg) rfl dX7_feed_68 (fun h_6 e_7 => ?_)
      have f := f h_6 e_7
      have hw_8 := wf_si e_7 hw
      refine ab_aload_n C 0 dX7_feed_69 rfl rfl ?_
      refine ab_getR C (q := 1) fl_X7_10 rfl kd_0 (wf_lt hw_8 kd_0 rfl) (wr_7_0 hw_8) dX7_feed_70 ?_
      refine ab_dup C dX7_feed_73 rfl ?_
      refine ab_getI C fl_X7_139 rfl kd_1 (wf_lt hw_8 kd_1 rfl) dX7_feed_74 ?_
      refine ab_iconst C (v := (1 : Int32)) dX7_feed_77 (by decide) ?_
      refine ab_iadd C dX7_feed_78 ?_
      refine ab_putI C fl_X7_139 rfl kd_1 (wf_lt hw_8 kd_1 rfl) rfl rfl dX7_feed_79 (fun h_9 e_10 => ?_)
      have f := f h_9 e_10
      have hw_11 := wf_si e_10 hw_8
      refine ab_iinc C (lv' := [(4, .int (y4 + (1 : Int32))), (0, .ref (G.1 + 0)), (1, .long x1), (3, .int x3)]) 3 (v := (y4 + (1 : Int32))) dX7_feed_82 rfl rfl (by decide) rfl ?_
      refine ab_goto C (tgt := 39) dX7_feed_85 (by decide) ?_
      refine ab_sub (lv' := [(0, .ref (G.1 + 0)), (1, .long x1), (3, .int x3), (4, .int (y4 + (1 : Int32)))]) [1, 2, 3, 0] rfl ?_
      exact ih (y4 + (1 : Int32)) h_9  hw_11 f
def wp_X7_feed (x1 : Int64) (x3 : Int32) (h : hp_T) (Q : Int32 → hp_T → Prop) : Prop :=
  wp_X7_within x3 (1 : Int32) (8 : Int32) h (fun v_1 => ((v_1 = 0 → wp_X7_error (1 : Int32) h (fun v_15 h_16 => (Q v_15 h_16))) ∧ (¬ (v_1 = 0) → ((((hp_i h 1 12) + x3) ≤ (60 : Int32) → (∃ n0, wp_X7_feed_L39 x1 x3 Q  n0 (0 : Int32) h)) ∧ (¬ (((hp_i h 1 12) + x3) ≤ (60 : Int32)) → wp_X7_error (4 : Int32) h (fun v_12 h_13 => (Q v_12 h_13)))))))
set_option maxRecDepth 100000 in
set_option maxHeartbeats 4000000 in
theorem mt_X7_feed {l : Launch} {G : ab_G} {x1 : Int64} {x3 : Int32} {h : hp_T} {Q : Int32 → hp_T → Prop} (hw : wf h) (f : wp_X7_feed x1 x3 h Q) : ab_M l G yX7_feed cX7_feed 5 (some .int) rm_X7_feed 0 0 [.ref (G.1 + 0), .long x1, .int x3] h (po_h Q) := by
  refine ab_intro (own := RX7) (nm := "feed") rfl rfl rfl (Nat.le_of_ble_eq_true rfl) (fun F C => ?_)
  show ab_W l G F 5 (ab_MQ G F (po_h Q) 0 0) 0 0 h [(0, .ref (G.1 + 0)), (1, .long x1), (3, .int x3)] [] 0
  unfold wp_X7_feed at f
  refine ab_iload_n C 2 dX7_feed_0 rfl rfl ?_
  refine ab_iconst C (v := (1 : Int32)) dX7_feed_1 (by decide) ?_
  refine ab_bipush C (v := (8 : Int32)) dX7_feed_2 (by decide) ?_
  refine ab_callS C (k := 0) (n := 0) (rest := []) [.int x3, .int (1 : Int32), .int (8 : Int32)] cl_X7_47 (mt_X7_within  hw f) ⟨rfl, rfl, Nat.le_of_ble_eq_true rfl, Nat.le_of_ble_eq_true rfl, Nat.zero_le _, Nat.zero_le _⟩ rfl rfl (Nat.le_of_ble_eq_true rfl) dX7_feed_4 (ab_kp (k := 0) (n := 0) (fun v_1 f => ?_))
  refine ab_if_ne C (tgt := 16) dX7_feed_7 (by decide) (fun c_2 => ?_) (fun c_2 => ?_)
  · have f := f.2 c_2
    refine ab_aload_n C 0 dX7_feed_16 rfl rfl ?_
    refine ab_getR C (q := 1) fl_X7_10 rfl kd_0 (wf_lt hw kd_0 rfl) (wr_7_0 hw) dX7_feed_17 ?_
    refine ab_getI C fl_X7_139 rfl kd_1 (wf_lt hw kd_1 rfl) dX7_feed_20 ?_
    refine ab_iload_n C 2 dX7_feed_23 rfl rfl ?_
    refine ab_iadd C dX7_feed_24 ?_
    refine ab_bipush C (v := (60 : Int32)) dX7_feed_25 (by decide) ?_
    refine ab_icmp_le C (tgt := 36) dX7_feed_27 (by decide) (fun c_3 => ?_) (fun c_3 => ?_)
    · have f := f.1 c_3
      refine ab_iconst C (v := (0 : Int32)) dX7_feed_36 (by decide) ?_
      refine ab_istore C (lv' := [(4, .int (0 : Int32)), (0, .ref (G.1 + 0)), (1, .long x1), (3, .int x3)]) dX7_feed_37 (by decide) rfl ?_
      obtain ⟨n0, f⟩ := f
      refine ab_sub (lv' := [(0, .ref (G.1 + 0)), (1, .long x1), (3, .int x3), (4, .int (0 : Int32))]) [1, 2, 3, 0] rfl ?_
      exact bt_X7_feed_L39 C    n0 (0 : Int32) h  hw f
    · have f := f.2 c_3
      refine ab_aload_n C 0 dX7_feed_30 rfl rfl ?_
      refine ab_iconst C (v := (4 : Int32)) dX7_feed_31 (by decide) ?_
      refine ab_callV C (k := 0) (n := 0) (rest := []) [.int (4 : Int32)] cl_X7_51 (mt_X7_error  hw f) rfl (by decide) kd_0 (wf_lt hw kd_0 rfl) ⟨rfl, rfl, Nat.le_of_ble_eq_true rfl, Nat.le_of_ble_eq_true rfl, Nat.zero_le _, Nat.zero_le _⟩ rfl rfl (Nat.le_of_ble_eq_true rfl) dX7_feed_32 (ab_kh (k := 0) (n := 0) (fun v_12 h_13 hw_14 f => ?_))
      exact ab_iret C dX7_feed_35 ⟨hw_14, _, rfl, f⟩
  · have f := f.1 c_2
    refine ab_aload_n C 0 dX7_feed_10 rfl rfl ?_
    refine ab_iconst C (v := (1 : Int32)) dX7_feed_11 (by decide) ?_
    refine ab_callV C (k := 0) (n := 0) (rest := []) [.int (1 : Int32)] cl_X7_51 (mt_X7_error  hw f) rfl (by decide) kd_0 (wf_lt hw kd_0 rfl) ⟨rfl, rfl, Nat.le_of_ble_eq_true rfl, Nat.le_of_ble_eq_true rfl, Nat.zero_le _, Nat.zero_le _⟩ rfl rfl (Nat.le_of_ble_eq_true rfl) dX7_feed_12 (ab_kh (k := 0) (n := 0) (fun v_15 h_16 hw_17 f => ?_))
    exact ab_iret C dX7_feed_15 ⟨hw_17, _, rfl, f⟩
/-! X7_handed -/
def rm_X7_handed : Room := { frames := 5, cells := 0, slots := 0, locals := 163 }
def wp_X7_handed_L45 (x1 : Int32) (x2 : Int32) (Q : Int32 → hp_T → Prop) : Nat → Int32 → hp_T → Prop
  | 0 => fun _ _ => False
  | nn + 1 => fun y3 h => ((((hp_i h 1 1) - (1 : Int32)) ≤ y3 → (Q y3 h)) ∧ (¬ (((hp_i h 1 1) - (1 : Int32)) ≤ y3) → (¬ (hp_i h 1 1) = 0) ∧ (vp_in ((x1 + y3) - (x1 + y3) / (hp_i h 1 1) * (hp_i h 1 1)) 6) ∧ wp_X0_isOf (1 + 8 + 3 * ((x1 + y3) - (x1 + y3) / (hp_i h 1 1) * (hp_i h 1 1)).toNatClampNeg) (2 : Int32) h (fun v_14 => ((v_14 = 0 → (wp_X7_handed_L45 x1 x2 Q nn) (y3 + (1 : Int32)) h) ∧ (¬ (v_14 = 0) → (Q y3 h))))))
set_option maxRecDepth 100000 in
set_option maxHeartbeats 4000000 in
theorem bt_X7_handed_L45 {l : Launch} {G : ab_G} {F : ab_F} {x1 : Int32} {x2 : Int32} {Q : Int32 → hp_T → Prop}  (C : ab_C G F rm_X7_handed cX7_handed 4 RX7 (some .int) "handed")   : ∀ (nn : Nat) (y3 : Int32) (h : hp_T), wf h → wp_X7_handed_L45 x1 x2 Q nn y3 h → ab_W l G F 4 (ab_MQ G F (po_h Q) 0 0) 0 0 h [(0, .ref (G.1 + 0)), (1, .int x1), (3, .int y3)] [] 45 := by
  intro nn
  induction nn with
  | zero =>
    intro y3 h hw f
    exact absurd f id
  | succ nn ih =>
    intro y3 h hw f
    unfold wp_X7_handed_L45 at f
    refine ab_iload_n C 2 dX7_handed_45 rfl rfl ?_
    refine ab_aload_n C 0 dX7_handed_46 rfl rfl ?_
    refine ab_getR C (q := 1) fl_X7_10 rfl kd_0 (wf_lt hw kd_0 rfl) (wr_7_0 hw) dX7_handed_47 ?_
    refine ab_getI C fl_X7_55 rfl kd_1 (wf_lt hw kd_1 rfl) dX7_handed_50 ?_
    refine ab_iconst C (v := (1 : Int32)) dX7_handed_53 (by decide) ?_
    refine ab_isub C dX7_handed_54 ?_
    refine ab_icmp_ge C (tgt := 90) dX7_handed_55 (by decide) (fun c_11 => ?_) (fun c_11 => ?_)
    · have f := f.1 c_11
      refine ab_iload_n C 2 dX7_handed_90 rfl rfl ?_
      exact ab_iret C dX7_handed_91 ⟨hw, _, rfl, f⟩
    · have f := f.2 c_11
      refine ab_aload_n C 0 dX7_handed_58 rfl rfl ?_
      refine ab_getR C (q := 1) fl_X7_10 rfl kd_0 (wf_lt hw kd_0 rfl) (wr_7_0 hw) dX7_handed_59 ?_
      refine ab_getR C (q := (1 + 1)) fl_X7_70 rfl kd_1 (wf_lt hw kd_1 rfl) (wr_2_0 hw kd_1) dX7_handed_62 ?_
      refine ab_iload_n C 1 dX7_handed_65 rfl rfl ?_
      refine ab_iload_n C 2 dX7_handed_66 rfl rfl ?_
      refine ab_iadd C dX7_handed_67 ?_
      refine ab_aload_n C 0 dX7_handed_68 rfl rfl ?_
      refine ab_getR C (q := 1) fl_X7_10 rfl kd_0 (wf_lt hw kd_0 rfl) (wr_7_0 hw) dX7_handed_69 ?_
      refine ab_getI C fl_X7_55 rfl kd_1 (wf_lt hw kd_1 rfl) dX7_handed_72 ?_
      obtain ⟨c_12, f⟩ := f
      refine ab_irem C dX7_handed_75 c_12 ?_
      obtain ⟨c_13, f⟩ := f
      refine ab_aaldR C (q := (1 + 8 + 3 * ((x1 + y3) - (x1 + y3) / (hp_i h 1 1) * (hp_i h 1 1)).toNatClampNeg)) (kn_2_0 kd_1) (Or.inl rfl) (wf_lt hw (kn_2_0 kd_1) rfl) (wf_len hw (kn_2_0 kd_1) rfl rfl (by decide)) c_13 (j := ((x1 + y3) - (x1 + y3) / (hp_i h 1 1) * (hp_i h 1 1)).toNatClampNeg) rfl (wx_bunk hw kd_1 (vp_in_lt c_13)) dX7_handed_76 ?_
      refine ab_iconst C (v := (2 : Int32)) dX7_handed_77 (by decide) ?_
      refine ab_callV C (k := 0) (n := 0) (rest := []) [.int (2 : Int32)] cl_X7_74 (mt_X0_isOf (kx_bunk kd_1 (vp_in_lt c_13)) hw f) rfl (by decide) (kx_bunk kd_1 (vp_in_lt c_13)) (wf_lt hw (kx_bunk kd_1 (vp_in_lt c_13)) rfl) ⟨rfl, rfl, Nat.le_of_ble_eq_true rfl, Nat.le_of_ble_eq_true rfl, Nat.zero_le _, Nat.zero_le _⟩ rfl rfl (Nat.le_of_ble_eq_true rfl) dX7_handed_78 (ab_kp (k := 0) (n := 0) (fun v_14 f => ?_))
      refine ab_if_ne C (tgt := 90) dX7_handed_81 (by decide) (fun c_15 => ?_) (fun c_15 => ?_)
      · have f := f.2 c_15
        refine ab_iload_n C 2 dX7_handed_90 rfl rfl ?_
        exact ab_iret C dX7_handed_91 ⟨hw, _, rfl, f⟩
      · have f := f.1 c_15
        refine ab_iinc C (lv' := [(3, .int (y3 + (1 : Int32))), (0, .ref (G.1 + 0)), (1, .int x1)]) 2 (v := (y3 + (1 : Int32))) dX7_handed_84 rfl rfl (by decide) rfl ?_
        refine ab_goto C (tgt := 45) dX7_handed_87 (by decide) ?_
        refine ab_sub (lv' := [(0, .ref (G.1 + 0)), (1, .int x1), (3, .int (y3 + (1 : Int32)))]) [1, 2, 0] rfl ?_
        exact ih (y3 + (1 : Int32)) h  hw f
def wp_X7_handed (x1 : Int32) (x2 : Int32) (h : hp_T) (Q : Int32 → hp_T → Prop) : Prop :=
  wp_X7_isBunk x1 h (fun v_1 => ((v_1 = 0 → wp_X7_error (1 : Int32) h (fun v_3 h_4 => (Q v_3 h_4))) ∧ (¬ (v_1 = 0) → wp_X7_isKnack x2 h (fun v_6 => ((v_6 = 0 → wp_X7_error (1 : Int32) h (fun v_19 h_20 => (Q v_19 h_20))) ∧ (¬ (v_6 = 0) → (vp_in x1 6) ∧ wp_X0_knows (1 + 8 + 3 * x1.toNatClampNeg) x2 h (fun v_9 => ((v_9 = 0 → wp_X7_error (3 : Int32) h (fun v_16 h_17 => (Q v_16 h_17))) ∧ (¬ (v_9 = 0) → (∃ n0, wp_X7_handed_L45 x1 x2 Q  n0 (0 : Int32) h))))))))))
set_option maxRecDepth 100000 in
set_option maxHeartbeats 4000000 in
theorem mt_X7_handed {l : Launch} {G : ab_G} {x1 : Int32} {x2 : Int32} {h : hp_T} {Q : Int32 → hp_T → Prop} (hw : wf h) (f : wp_X7_handed x1 x2 h Q) : ab_M l G yX7_handed cX7_handed 4 (some .int) rm_X7_handed 0 0 [.ref (G.1 + 0), .int x1, .int x2] h (po_h Q) := by
  refine ab_intro (own := RX7) (nm := "handed") rfl rfl rfl (Nat.le_of_ble_eq_true rfl) (fun F C => ?_)
  show ab_W l G F 4 (ab_MQ G F (po_h Q) 0 0) 0 0 h [(0, .ref (G.1 + 0)), (1, .int x1), (2, .int x2)] [] 0
  unfold wp_X7_handed at f
  refine ab_aload_n C 0 dX7_handed_0 rfl rfl ?_
  refine ab_iload_n C 1 dX7_handed_1 rfl rfl ?_
  refine ab_callV C (k := 0) (n := 0) (rest := []) [.int x1] cl_X7_62 (mt_X7_isBunk  hw f) rfl (by decide) kd_0 (wf_lt hw kd_0 rfl) ⟨rfl, rfl, Nat.le_of_ble_eq_true rfl, Nat.le_of_ble_eq_true rfl, Nat.zero_le _, Nat.zero_le _⟩ rfl rfl (Nat.le_of_ble_eq_true rfl) dX7_handed_2 (ab_kp (k := 0) (n := 0) (fun v_1 f => ?_))
  refine ab_if_eq C (tgt := 15) dX7_handed_5 (by decide) (fun c_2 => ?_) (fun c_2 => ?_)
  · have f := f.1 c_2
    refine ab_aload_n C 0 dX7_handed_15 rfl rfl ?_
    refine ab_iconst C (v := (1 : Int32)) dX7_handed_16 (by decide) ?_
    refine ab_callV C (k := 0) (n := 0) (rest := []) [.int (1 : Int32)] cl_X7_51 (mt_X7_error  hw f) rfl (by decide) kd_0 (wf_lt hw kd_0 rfl) ⟨rfl, rfl, Nat.le_of_ble_eq_true rfl, Nat.le_of_ble_eq_true rfl, Nat.zero_le _, Nat.zero_le _⟩ rfl rfl (Nat.le_of_ble_eq_true rfl) dX7_handed_17 (ab_kh (k := 0) (n := 0) (fun v_3 h_4 hw_5 f => ?_))
    exact ab_iret C dX7_handed_20 ⟨hw_5, _, rfl, f⟩
  · have f := f.2 c_2
    refine ab_iload_n C 2 dX7_handed_8 rfl rfl ?_
    refine ab_callS C (k := 0) (n := 0) (rest := []) [.int x2] cl_X7_95 (mt_X7_isKnack  hw f) ⟨rfl, rfl, Nat.le_of_ble_eq_true rfl, Nat.le_of_ble_eq_true rfl, Nat.zero_le _, Nat.zero_le _⟩ rfl rfl (Nat.le_of_ble_eq_true rfl) dX7_handed_9 (ab_kp (k := 0) (n := 0) (fun v_6 f => ?_))
    refine ab_if_ne C (tgt := 21) dX7_handed_12 (by decide) (fun c_7 => ?_) (fun c_7 => ?_)
    · have f := f.2 c_7
      refine ab_aload_n C 0 dX7_handed_21 rfl rfl ?_
      refine ab_getR C (q := 1) fl_X7_10 rfl kd_0 (wf_lt hw kd_0 rfl) (wr_7_0 hw) dX7_handed_22 ?_
      refine ab_getR C (q := (1 + 1)) fl_X7_70 rfl kd_1 (wf_lt hw kd_1 rfl) (wr_2_0 hw kd_1) dX7_handed_25 ?_
      refine ab_iload_n C 1 dX7_handed_28 rfl rfl ?_
      obtain ⟨c_8, f⟩ := f
      refine ab_aaldR C (q := (1 + 8 + 3 * x1.toNatClampNeg)) (kn_2_0 kd_1) (Or.inl rfl) (wf_lt hw (kn_2_0 kd_1) rfl) (wf_len hw (kn_2_0 kd_1) rfl rfl (by decide)) c_8 (j := x1.toNatClampNeg) rfl (wx_bunk hw kd_1 (vp_in_lt c_8)) dX7_handed_29 ?_
      refine ab_iload_n C 2 dX7_handed_30 rfl rfl ?_
      refine ab_callV C (k := 0) (n := 0) (rest := []) [.int x2] cl_X7_98 (mt_X0_knows (kx_bunk kd_1 (vp_in_lt c_8)) hw f) rfl (by decide) (kx_bunk kd_1 (vp_in_lt c_8)) (wf_lt hw (kx_bunk kd_1 (vp_in_lt c_8)) rfl) ⟨rfl, rfl, Nat.le_of_ble_eq_true rfl, Nat.le_of_ble_eq_true rfl, Nat.zero_le _, Nat.zero_le _⟩ rfl rfl (Nat.le_of_ble_eq_true rfl) dX7_handed_31 (ab_kp (k := 0) (n := 0) (fun v_9 f => ?_))
      refine ab_if_ne C (tgt := 43) dX7_handed_34 (by decide) (fun c_10 => ?_) (fun c_10 => ?_)
      · have f := f.2 c_10
        refine ab_iconst C (v := (0 : Int32)) dX7_handed_43 (by decide) ?_
        refine ab_istore_n C (lv' := [(3, .int (0 : Int32)), (0, .ref (G.1 + 0)), (1, .int x1), (2, .int x2)]) dX7_handed_44 rfl (by decide) rfl ?_
        obtain ⟨n0, f⟩ := f
        refine ab_sub (lv' := [(0, .ref (G.1 + 0)), (1, .int x1), (3, .int (0 : Int32))]) [1, 2, 0] rfl ?_
        exact bt_X7_handed_L45 C    n0 (0 : Int32) h  hw f
      · have f := f.1 c_10
        refine ab_aload_n C 0 dX7_handed_37 rfl rfl ?_
        refine ab_iconst C (v := (3 : Int32)) dX7_handed_38 (by decide) ?_
        refine ab_callV C (k := 0) (n := 0) (rest := []) [.int (3 : Int32)] cl_X7_51 (mt_X7_error  hw f) rfl (by decide) kd_0 (wf_lt hw kd_0 rfl) ⟨rfl, rfl, Nat.le_of_ble_eq_true rfl, Nat.le_of_ble_eq_true rfl, Nat.zero_le _, Nat.zero_le _⟩ rfl rfl (Nat.le_of_ble_eq_true rfl) dX7_handed_39 (ab_kh (k := 0) (n := 0) (fun v_16 h_17 hw_18 f => ?_))
        exact ab_iret C dX7_handed_42 ⟨hw_18, _, rfl, f⟩
    · have f := f.1 c_7
      refine ab_aload_n C 0 dX7_handed_15 rfl rfl ?_
      refine ab_iconst C (v := (1 : Int32)) dX7_handed_16 (by decide) ?_
      refine ab_callV C (k := 0) (n := 0) (rest := []) [.int (1 : Int32)] cl_X7_51 (mt_X7_error  hw f) rfl (by decide) kd_0 (wf_lt hw kd_0 rfl) ⟨rfl, rfl, Nat.le_of_ble_eq_true rfl, Nat.le_of_ble_eq_true rfl, Nat.zero_le _, Nat.zero_le _⟩ rfl rfl (Nat.le_of_ble_eq_true rfl) dX7_handed_17 (ab_kh (k := 0) (n := 0) (fun v_19 h_20 hw_21 f => ?_))
      exact ab_iret C dX7_handed_20 ⟨hw_21, _, rfl, f⟩
/-! X7_image -/
def rm_X7_image : Room := { frames := 4, cells := 0, slots := 0, locals := 143 }
def wp_X7_image (h : hp_T) (Q : Int32 → hp_T → Prop) : Prop :=
  wp_X2_copyFrom 31 1 h (fun h_1 => (∀ h_3, h_3 = hp_si h_1 0 7 ((hp_i h_1 0 7) + (1 : Int32)) → (Q (hp_i h_3 0 7) h_3)))
set_option maxRecDepth 100000 in
set_option maxHeartbeats 4000000 in
theorem mt_X7_image {l : Launch} {G : ab_G}  {h : hp_T} {Q : Int32 → hp_T → Prop} (hw : wf h) (f : wp_X7_image h Q) : ab_M l G yX7_image cX7_image 1 (some .int) rm_X7_image 0 0 [.ref (G.1 + 0)] h (po_h Q) := by
  refine ab_intro (own := RX7) (nm := "image") rfl rfl rfl (Nat.le_of_ble_eq_true rfl) (fun F C => ?_)
  show ab_W l G F 1 (ab_MQ G F (po_h Q) 0 0) 0 0 h [(0, .ref (G.1 + 0))] [] 0
  unfold wp_X7_image at f
  refine ab_aload_n C 0 dX7_image_0 rfl rfl ?_
  refine ab_getR C (q := 31) fl_X7_16 rfl kd_0 (wf_lt hw kd_0 rfl) (wr_7_1 hw) dX7_image_1 ?_
  refine ab_aload_n C 0 dX7_image_4 rfl rfl ?_
  refine ab_getR C (q := 1) fl_X7_10 rfl kd_0 (wf_lt hw kd_0 rfl) (wr_7_0 hw) dX7_image_5 ?_
  refine ab_callV C (k := 0) (n := 0) (rest := []) [.ref (G.1 + 1)] cl_X7_249 (mt_X2_copyFrom kd_31 kd_1 hw f) rfl (by decide) kd_31 (wf_lt hw kd_31 rfl) ⟨rfl, rfl, Nat.le_of_ble_eq_true rfl, Nat.le_of_ble_eq_true rfl, Nat.zero_le _, Nat.zero_le _⟩ rfl rfl (Nat.le_of_ble_eq_true rfl) dX7_image_8 (ab_kv (k := 0) (n := 0) (fun h_1 hw_2 f => ?_))
  refine ab_aload_n C 0 dX7_image_11 rfl rfl ?_
  refine ab_dup C dX7_image_12 rfl ?_
  refine ab_getI C fl_X7_253 rfl kd_0 (wf_lt hw_2 kd_0 rfl) dX7_image_13 ?_
  refine ab_iconst C (v := (1 : Int32)) dX7_image_16 (by decide) ?_
  refine ab_iadd C dX7_image_17 ?_
  refine ab_putI C fl_X7_253 rfl kd_0 (wf_lt hw_2 kd_0 rfl) rfl rfl dX7_image_18 (fun h_3 e_4 => ?_)
  have f := f h_3 e_4
  have hw_5 := wf_si e_4 hw_2
  refine ab_aload_n C 0 dX7_image_21 rfl rfl ?_
  refine ab_getI C fl_X7_253 rfl kd_0 (wf_lt hw_5 kd_0 rfl) dX7_image_22 ?_
  exact ab_iret C dX7_image_25 ⟨hw_5, _, rfl, f⟩
/-! X7_init -/
def rm_X7_init : Room := { frames := 4, cells := 104, slots := 1020, locals := 141 }
def wp_X7_init_L77 (Q : hp_T → Prop) : Nat → Int32 → Nat → Nat → hp_T → Prop
  | 0 => fun _ _ _ _ => False
  | nn + 1 => fun y1 kc nc h => (((4 : Int32) ≤ y1 → (kc ≤ 104) ∧ (nc ≤ 1020) ∧ (Q h)) ∧ (¬ ((4 : Int32) ≤ y1) → (0 < hp_n h) ∧ (∃ q_57, (hp_r h 0 5 = some q_57) ∧ (ab_k (hp_n h) = 1) ∧ ((kc + 1) ≤ 104) ∧ ((nc + 3) ≤ 1020) ∧ (∀ h_59, h_59 = hp_no h → ((hp_n h) < hp_n h_59) ∧ (((kc + 1) + 1) ≤ 104) ∧ (((nc + 3) + 24) ≤ 1020) ∧ wp_X1_init (hp_n h) h_59 (fun h_67 => (ab_k q_57 = 15) ∧ (q_57 < hp_n h_67) ∧ (vp_in y1 (hp_l h_67 q_57)) ∧ ((hp_n h) < hp_n h_67) ∧ (∀ h_71, h_71 = hp_sr h_67 q_57 y1.toNatClampNeg (some (hp_n h)) → (wp_X7_init_L77 Q nn) (y1 + (1 : Int32)) ((kc + 1) + 1) ((nc + 3) + 24) h_71))))))
set_option maxRecDepth 100000 in
set_option maxHeartbeats 4000000 in
theorem bt_X7_init_L77 {l : Launch} {G : ab_G} {F : ab_F}  {Q : hp_T → Prop}  (C : ab_C G F rm_X7_init cX7_init 2 RX7 none "<init>")   : ∀ (nn : Nat) (y1 : Int32) (kc : Nat) (nc : Nat) (h : hp_T), wp_X7_init_L77 Q nn y1 kc nc h → ab_W l G F 2 (ab_MQ G F (po_r Q) 104 1020) kc nc h [(0, .ref (G.1 + 0)), (1, .int y1)] [] 77 := by
  intro nn
  induction nn with
  | zero =>
    intro y1 kc nc h f
    exact absurd f id
  | succ nn ih =>
    intro y1 kc nc h f
    unfold wp_X7_init_L77 at f
    refine ab_iload_n C 1 dX7_init_77 rfl rfl ?_
    refine ab_iconst C (v := (4 : Int32)) dX7_init_78 (by decide) ?_
    refine ab_icmp_ge C (tgt := 101) dX7_init_79 (by decide) (fun c_53 => ?_) (fun c_53 => ?_)
    · have f := f.1 c_53
      obtain ⟨c_54, f⟩ := f
      obtain ⟨c_55, f⟩ := f
      refine ab_widen (k' := 104) (n' := 1020) (c_54) (c_55) ?_
      exact ab_vret C dX7_init_101 ⟨rfl, f⟩
    · have f := f.2 c_53
      refine ab_aload_n C 0 dX7_init_82 rfl rfl ?_
      obtain ⟨c_56, f⟩ := f
      obtain ⟨q_57, c_58, f⟩ := f
      refine ab_getR C (q := q_57) fl_X7_38 rfl kd_0 c_56 c_58 dX7_init_83 ?_
      refine ab_iload_n C 1 dX7_init_86 rfl rfl ?_
      obtain ⟨c_61, f⟩ := f
      obtain ⟨c_62, f⟩ := f
      obtain ⟨c_63, f⟩ := f
      refine ab_new C (k := kc) (n := nc) ac_1 cn_X7_36 c_61 (c_62) (c_63) dX7_init_87 (fun h_59 e_60 => ?_)
      have f := f h_59 e_60
      refine ab_dup C dX7_init_90 rfl ?_
      obtain ⟨c_64, f⟩ := f
      obtain ⟨c_65, f⟩ := f
      obtain ⟨c_66, f⟩ := f
      refine ab_callJ C (k := (kc + 1)) (n := (nc + 3)) (rest := [.ref (G.1 + (hp_n h)), .int y1, .ref (G.1 + q_57)]) [] cl_X7_46 (mt_X1_init c_61  f) ⟨rfl, rfl, Nat.le_of_ble_eq_true rfl, Nat.le_of_ble_eq_true rfl, c_65, c_66⟩ rfl rfl (Nat.le_of_ble_eq_true rfl) dX7_init_91 (ab_kr (k := ((kc + 1) + 1)) (n := ((nc + 3) + 24)) (fun h_67 f => ?_))
      obtain ⟨c_68, c_69, f⟩ := f
      obtain ⟨c_70, f⟩ := f
      obtain ⟨c_73, f⟩ := f
      refine ab_aast C (t0 := 5) (ci := 1) (v := (hp_n h)) c_68 (by decide) (by decide) (fun _ => rfl) rfl c_69 rfl c_70 (j := y1.toNatClampNeg) rfl c_61 (by decide) c_73 dX7_init_94 (fun h_71 e_72 => ?_)
      have f := f h_71 e_72
      refine ab_iinc C (lv' := [(1, .int (y1 + (1 : Int32))), (0, .ref (G.1 + 0))]) 1 (v := (y1 + (1 : Int32))) dX7_init_95 rfl rfl (by decide) rfl ?_
      refine ab_goto C (tgt := 77) dX7_init_98 (by decide) ?_
      refine ab_sub (lv' := [(0, .ref (G.1 + 0)), (1, .int (y1 + (1 : Int32)))]) [1, 0] rfl ?_
      exact ih (y1 + (1 : Int32)) ((kc + 1) + 1) ((nc + 3) + 24) h_71   f
def wp_X7_init (h : hp_T) (Q : hp_T → Prop) : Prop :=
  (ab_k (hp_n h) = 2) ∧ (∀ h_1, h_1 = hp_no h → ((hp_n h) < hp_n h_1) ∧ wp_X2_init (hp_n h) h_1 (fun h_5 => (0 < hp_n h_5) ∧ (∀ h_7, h_7 = hp_sr h_5 0 0 (some (hp_n h)) → (ab_k (hp_n h_7) = 2) ∧ (∀ h_9, h_9 = hp_no h_7 → ((hp_n h_7) < hp_n h_9) ∧ wp_X2_init (hp_n h_7) h_9 (fun h_13 => (0 < hp_n h_13) ∧ (∀ h_15, h_15 = hp_sr h_13 0 1 (some (hp_n h_7)) → (ab_k (hp_n h_15) = 2) ∧ (∀ h_17, h_17 = hp_no h_15 → ((hp_n h_15) < hp_n h_17) ∧ wp_X2_init (hp_n h_15) h_17 (fun h_21 => (0 < hp_n h_21) ∧ (∀ h_23, h_23 = hp_sr h_21 0 2 (some (hp_n h_15)) → (hp_n h_23 = 91) ∧ (∀ h_25, h_25 = hp_no h_23 → (91 < hp_n h_25) ∧ wp_X5_init h_25 (fun h_29 => (0 < hp_n h_29) ∧ (∀ h_31, h_31 = hp_sr h_29 0 3 (some 91) → (hp_n h_31 = 93) ∧ (∀ h_33, h_33 = hp_no h_31 → (93 < hp_n h_33) ∧ wp_X6_init h_33 (fun h_37 => (0 < hp_n h_37) ∧ (∀ h_39, h_39 = hp_sr h_37 0 4 (some 93) → (ab_k (hp_n h_39) = 15) ∧ (∀ h_41, h_41 = hp_na h_39 4 → (0 < hp_n h_41) ∧ (∀ h_45, h_45 = hp_sr h_41 0 5 (some (hp_n h_39)) → (16 ≤ ab_k (hp_n h_45)) ∧ (∀ h_47, h_47 = hp_na h_45 7 → (0 < hp_n h_47) ∧ (∀ h_51, h_51 = hp_sr h_47 0 6 (some (hp_n h_45)) → (∃ n0, wp_X7_init_L77 Q  n0 (0 : Int32) 96 912 h_51))))))))))))))))))))
set_option maxRecDepth 100000 in
set_option maxHeartbeats 4000000 in
theorem mt_X7_init {l : Launch} {G : ab_G}  {h : hp_T} {Q : hp_T → Prop} (f : wp_X7_init h Q) : ab_M l G yX7_init cX7_init 2 none rm_X7_init 104 1020 [.ref (G.1 + 0)] h (po_r Q) := by
  refine ab_intro (own := RX7) (nm := "<init>") rfl rfl rfl (Nat.le_of_ble_eq_true rfl) (fun F C => ?_)
  show ab_W l G F 2 (ab_MQ G F (po_r Q) 104 1020) 0 0 h [(0, .ref (G.1 + 0))] [] 0
  unfold wp_X7_init at f
  refine ab_aload_n C 0 dX7_init_0 rfl rfl ?_
  refine ab_oinit C (b := 0) co_X7 (by decide) (by decide) (Nat.le_of_ble_eq_true rfl) dX7_init_1 ?_
  refine ab_aload_n C 0 dX7_init_4 rfl rfl ?_
  obtain ⟨c_3, f⟩ := f
  refine ab_new C (k := 0) (n := 0) ac_2 cn_X7_7 c_3 (Nat.le_of_ble_eq_true rfl) (Nat.le_of_ble_eq_true rfl) dX7_init_5 (fun h_1 e_2 => ?_)
  have f := f h_1 e_2
  refine ab_dup C dX7_init_8 rfl ?_
  obtain ⟨c_4, f⟩ := f
  refine ab_callI C (k := 1) (n := 16) (rest := [.ref (G.1 + (hp_n h)), .ref (G.1 + 0)]) [] cl_X7_9 (mt_X2_init c_3  f) ⟨rfl, rfl, Nat.le_of_ble_eq_true rfl, Nat.le_of_ble_eq_true rfl, Nat.le_of_ble_eq_true rfl, Nat.le_of_ble_eq_true rfl⟩ rfl rfl (Nat.le_of_ble_eq_true rfl) dX7_init_9 (ab_kr (k := 30) (n := 266) (fun h_5 f => ?_))
  obtain ⟨c_6, f⟩ := f
  refine ab_putR C (q := (hp_n h)) fl_X7_10 rfl (fun _ => rfl) kd_0 c_6 (fun _ => rfl) (fun _ => rfl) dX7_init_12 (fun h_7 e_8 => ?_)
  have f := f h_7 e_8
  refine ab_aload_n C 0 dX7_init_15 rfl rfl ?_
  obtain ⟨c_11, f⟩ := f
  refine ab_new C (k := 30) (n := 266) ac_2 cn_X7_7 c_11 (Nat.le_of_ble_eq_true rfl) (Nat.le_of_ble_eq_true rfl) dX7_init_16 (fun h_9 e_10 => ?_)
  have f := f h_9 e_10
  refine ab_dup C dX7_init_19 rfl ?_
  obtain ⟨c_12, f⟩ := f
  refine ab_callI C (k := 31) (n := 282) (rest := [.ref (G.1 + (hp_n h_7)), .ref (G.1 + 0)]) [] cl_X7_9 (mt_X2_init c_11  f) ⟨rfl, rfl, Nat.le_of_ble_eq_true rfl, Nat.le_of_ble_eq_true rfl, Nat.le_of_ble_eq_true rfl, Nat.le_of_ble_eq_true rfl⟩ rfl rfl (Nat.le_of_ble_eq_true rfl) dX7_init_20 (ab_kr (k := 60) (n := 532) (fun h_13 f => ?_))
  obtain ⟨c_14, f⟩ := f
  refine ab_putR C (q := (hp_n h_7)) fl_X7_16 rfl (fun _ => rfl) kd_0 c_14 (fun _ => rfl) (fun _ => rfl) dX7_init_23 (fun h_15 e_16 => ?_)
  have f := f h_15 e_16
  refine ab_aload_n C 0 dX7_init_26 rfl rfl ?_
  obtain ⟨c_19, f⟩ := f
  refine ab_new C (k := 60) (n := 532) ac_2 cn_X7_7 c_19 (Nat.le_of_ble_eq_true rfl) (Nat.le_of_ble_eq_true rfl) dX7_init_27 (fun h_17 e_18 => ?_)
  have f := f h_17 e_18
  refine ab_dup C dX7_init_30 rfl ?_
  obtain ⟨c_20, f⟩ := f
  refine ab_callI C (k := 61) (n := 548) (rest := [.ref (G.1 + (hp_n h_15)), .ref (G.1 + 0)]) [] cl_X7_9 (mt_X2_init c_19  f) ⟨rfl, rfl, Nat.le_of_ble_eq_true rfl, Nat.le_of_ble_eq_true rfl, Nat.le_of_ble_eq_true rfl, Nat.le_of_ble_eq_true rfl⟩ rfl rfl (Nat.le_of_ble_eq_true rfl) dX7_init_31 (ab_kr (k := 90) (n := 798) (fun h_21 f => ?_))
  obtain ⟨c_22, f⟩ := f
  refine ab_putR C (q := (hp_n h_15)) fl_X7_19 rfl (fun _ => rfl) kd_0 c_22 (fun _ => rfl) (fun _ => rfl) dX7_init_34 (fun h_23 e_24 => ?_)
  have f := f h_23 e_24
  refine ab_aload_n C 0 dX7_init_37 rfl rfl ?_
  obtain ⟨c_27, f⟩ := f
  refine ab_newF C (k := 90) (n := 798) ac_5 cn_X7_22 c_27 kd_91 (Nat.le_of_ble_eq_true rfl) (Nat.le_of_ble_eq_true rfl) dX7_init_38 (fun h_25 e_26 => ?_)
  have f := f h_25 e_26
  refine ab_dup C dX7_init_41 rfl ?_
  obtain ⟨c_28, f⟩ := f
  refine ab_callJ C (k := 91) (n := 805) (rest := [.ref (G.1 + 91), .ref (G.1 + 0)]) [] cl_X7_24 (mt_X5_init   f) ⟨rfl, rfl, Nat.le_of_ble_eq_true rfl, Nat.le_of_ble_eq_true rfl, Nat.le_of_ble_eq_true rfl, Nat.le_of_ble_eq_true rfl⟩ rfl rfl (Nat.le_of_ble_eq_true rfl) dX7_init_42 (ab_kr (k := 92) (n := 865) (fun h_29 f => ?_))
  obtain ⟨c_30, f⟩ := f
  refine ab_putR C (q := 91) fl_X7_25 rfl (fun _ => rfl) kd_0 c_30 (fun _ => rfl) (fun _ => rfl) dX7_init_45 (fun h_31 e_32 => ?_)
  have f := f h_31 e_32
  refine ab_aload_n C 0 dX7_init_48 rfl rfl ?_
  obtain ⟨c_35, f⟩ := f
  refine ab_newF C (k := 92) (n := 865) ac_6 cn_X7_29 c_35 kd_93 (Nat.le_of_ble_eq_true rfl) (Nat.le_of_ble_eq_true rfl) dX7_init_49 (fun h_33 e_34 => ?_)
  have f := f h_33 e_34
  refine ab_dup C dX7_init_52 rfl ?_
  obtain ⟨c_36, f⟩ := f
  refine ab_callJ C (k := 93) (n := 871) (rest := [.ref (G.1 + 93), .ref (G.1 + 0)]) [] cl_X7_31 (mt_X6_init   f) ⟨rfl, rfl, Nat.le_of_ble_eq_true rfl, Nat.le_of_ble_eq_true rfl, Nat.le_of_ble_eq_true rfl, Nat.le_of_ble_eq_true rfl⟩ rfl rfl (Nat.le_of_ble_eq_true rfl) dX7_init_53 (ab_kr (k := 94) (n := 901) (fun h_37 f => ?_))
  obtain ⟨c_38, f⟩ := f
  refine ab_putR C (q := 93) fl_X7_32 rfl (fun _ => rfl) kd_0 c_38 (fun _ => rfl) (fun _ => rfl) dX7_init_56 (fun h_39 e_40 => ?_)
  have f := f h_39 e_40
  refine ab_aload_n C 0 dX7_init_59 rfl rfl ?_
  refine ab_iconst C (v := (4 : Int32)) dX7_init_60 (by decide) ?_
  obtain ⟨c_43, f⟩ := f
  refine ab_newQ C (k := 94) (n := 901) (t0 := 5) (N := 4) kw_t219 (fun _ h => h.2.2.2.2.2.2.2.2.2.1) (fun _ => rfl) (by decide) (by decide) c_43 (by decide) (by decide) (by decide) (Nat.le_of_ble_eq_true rfl) (Nat.le_of_ble_eq_true rfl) dX7_init_61 (fun h_41 e_42 => ?_)
  have f := f h_41 e_42
  obtain ⟨c_44, f⟩ := f
  refine ab_putR C (q := (hp_n h_39)) fl_X7_38 rfl (fun _ => rfl) kd_0 c_44 (fun _ => rfl) (fun _ => rfl) dX7_init_64 (fun h_45 e_46 => ?_)
  have f := f h_45 e_46
  refine ab_aload_n C 0 dX7_init_67 rfl rfl ?_
  refine ab_bipush C (v := (7 : Int32)) dX7_init_68 (by decide) ?_
  obtain ⟨c_49, f⟩ := f
  refine ab_newI C (k := 95) (n := 905) (N := 7) kw_t73 c_49 (by decide) (by decide) (by decide) (Nat.le_of_ble_eq_true rfl) (Nat.le_of_ble_eq_true rfl) dX7_init_70 (fun h_47 e_48 => ?_)
  have f := f h_47 e_48
  obtain ⟨c_50, f⟩ := f
  refine ab_putR C (q := (hp_n h_45)) fl_X7_42 rfl (fun _ => rfl) kd_0 c_50 (fun _ => rfl) (fun _ => rfl) dX7_init_72 (fun h_51 e_52 => ?_)
  have f := f h_51 e_52
  refine ab_iconst C (v := (0 : Int32)) dX7_init_75 (by decide) ?_
  refine ab_istore_n C (lv' := [(1, .int (0 : Int32)), (0, .ref (G.1 + 0))]) dX7_init_76 rfl (by decide) rfl ?_
  obtain ⟨n0, f⟩ := f
  refine ab_sub (lv' := [(0, .ref (G.1 + 0)), (1, .int (0 : Int32))]) [1, 0] rfl ?_
  exact bt_X7_init_L77 C    n0 (0 : Int32) 96 912 h_51   f
/-! X7_isSheet -/
def rm_X7_isSheet : Room := { frames := 3, cells := 0, slots := 0, locals := 122 }
def wp_X7_isSheet (x0 : Int32) (h : hp_T) (Q : Int32 → Prop) : Prop :=
  wp_X7_within x0 (0 : Int32) (3 : Int32) h (fun v_1 => (bo_ok v_1) ∧ (Q v_1))
set_option maxRecDepth 100000 in
set_option maxHeartbeats 4000000 in
theorem mt_X7_isSheet {l : Launch} {G : ab_G} {x0 : Int32} {h : hp_T} {Q : Int32 → Prop} (hw : wf h) (f : wp_X7_isSheet x0 h Q) : ab_M l G yX7_isSheet cX7_isSheet 1 (some .boolean) rm_X7_isSheet 0 0 [.int x0] h (po_p h Q) := by
  refine ab_intro (own := RX7) (nm := "isSheet") rfl rfl rfl (Nat.le_of_ble_eq_true rfl) (fun F C => ?_)
  show ab_W l G F 1 (ab_MQ G F (po_p h Q) 0 0) 0 0 h [(0, .int x0)] [] 0
  unfold wp_X7_isSheet at f
  refine ab_iload_n C 0 dX7_isSheet_0 rfl rfl ?_
  refine ab_iconst C (v := (0 : Int32)) dX7_isSheet_1 (by decide) ?_
  refine ab_iconst C (v := (3 : Int32)) dX7_isSheet_2 (by decide) ?_
  refine ab_callS C (k := 0) (n := 0) (rest := []) [.int x0, .int (0 : Int32), .int (3 : Int32)] cl_X7_47 (mt_X7_within  hw f) ⟨rfl, rfl, Nat.le_of_ble_eq_true rfl, Nat.le_of_ble_eq_true rfl, Nat.zero_le _, Nat.zero_le _⟩ rfl rfl (Nat.le_of_ble_eq_true rfl) dX7_isSheet_3 (ab_kp (k := 0) (n := 0) (fun v_1 f => ?_))
  obtain ⟨c_2, f⟩ := f
  exact ab_zret C dX7_isSheet_6 (bo_nar c_2) ⟨rfl, _, rfl, f⟩
/-! X7_judge -/
def rm_X7_judge : Room := { frames := 4, cells := 0, slots := 0, locals := 142 }
def wp_X7_judge_L51 (x1 : Int32) (Q : Int32 → hp_T → Prop) : Nat → Nat → Int32 → Int32 → hp_T → Prop
  | 0 => fun _ _ _ _ => False
  | nn + 1 => fun y2 y3 y4 h => ((y3 ≤ y4 → (((hp_i h y2 1) = (hp_i h 1 1) → (Q (-1 : Int32) h)) ∧ (¬ ((hp_i h y2 1) = (hp_i h 1 1)) → (Q y3 h)))) ∧ (¬ (y3 ≤ y4) → (vp_in y4 24) ∧ (vp_in y4 6) ∧ (((hp_i h (y2 + 1) y4.toNatClampNeg) = (hp_i h (1 + 8 + 3 * y4.toNatClampNeg) 3) → (wp_X7_judge_L51 x1 Q nn) y2 y3 (y4 + (1 : Int32)) h) ∧ (¬ ((hp_i h (y2 + 1) y4.toNatClampNeg) = (hp_i h (1 + 8 + 3 * y4.toNatClampNeg) 3)) → (Q y4 h)))))
set_option maxRecDepth 100000 in
set_option maxHeartbeats 4000000 in
theorem bt_X7_judge_L51 {l : Launch} {G : ab_G} {F : ab_F} {x1 : Int32} {Q : Int32 → hp_T → Prop}  (C : ab_C G F rm_X7_judge cX7_judge 5 RX7 (some .int) "judge")   : ∀ (nn : Nat) (y2 : Nat) (y3 : Int32) (y4 : Int32) (h : hp_T), ab_k y2 = 1 → wf h → wp_X7_judge_L51 x1 Q nn y2 y3 y4 h → ab_W l G F 5 (ab_MQ G F (po_h Q) 0 0) 0 0 h [(0, .ref (G.1 + 0)), (2, .ref (G.1 + y2)), (3, .int y3), (4, .int y4)] [] 51 := by
  intro nn
  induction nn with
  | zero =>
    intro y2 y3 y4 h hy2 hw f
    exact absurd f id
  | succ nn ih =>
    intro y2 y3 y4 h hy2 hw f
    unfold wp_X7_judge_L51 at f
    refine ab_iload C 3 dX7_judge_51 rfl ?_
    refine ab_iload_n C 2 dX7_judge_53 rfl rfl ?_
    refine ab_icmp_ge C (tgt := 89) dX7_judge_54 (by decide) (fun c_6 => ?_) (fun c_6 => ?_)
    · have f := f.1 c_6
      refine ab_aload_n C 1 dX7_judge_89 rfl rfl ?_
      refine ab_getI C fl_X7_228 rfl hy2 (wf_lt hw hy2 rfl) dX7_judge_90 ?_
      refine ab_aload_n C 0 dX7_judge_93 rfl rfl ?_
      refine ab_getR C (q := 1) fl_X7_10 rfl kd_0 (wf_lt hw kd_0 rfl) (wr_7_0 hw) dX7_judge_94 ?_
      refine ab_getI C fl_X7_55 rfl kd_1 (wf_lt hw kd_1 rfl) dX7_judge_97 ?_
      refine ab_icmp_ne C (tgt := 107) dX7_judge_100 (by decide) (fun c_7 => ?_) (fun c_7 => ?_)
      · have f := f.2 c_7
        refine ab_iload_n C 2 dX7_judge_107 rfl rfl ?_
        exact ab_iret C dX7_judge_108 ⟨hw, _, rfl, f⟩
      · have f := f.1 c_7
        refine ab_iconst C (v := (-1 : Int32)) dX7_judge_103 (by decide) ?_
        refine ab_goto C (tgt := 108) dX7_judge_104 (by decide) ?_
        exact ab_iret C dX7_judge_108 ⟨hw, _, rfl, f⟩
    · have f := f.2 c_6
      refine ab_aload_n C 1 dX7_judge_57 rfl rfl ?_
      refine ab_getR C (q := (y2 + 1)) fl_X7_240 rfl hy2 (wf_lt hw hy2 rfl) (wr_1_2 hw hy2) dX7_judge_58 ?_
      refine ab_iload C 3 dX7_judge_61 rfl ?_
      obtain ⟨c_8, f⟩ := f
      refine ab_iald C (by rw [(kn_1_2 hy2)]; decide) (wf_lt hw (kn_1_2 hy2) rfl) (wf_len hw (kn_1_2 hy2) rfl rfl (by decide)) c_8 (j := y4.toNatClampNeg) rfl dX7_judge_63 ?_
      refine ab_aload_n C 0 dX7_judge_64 rfl rfl ?_
      refine ab_getR C (q := 1) fl_X7_10 rfl kd_0 (wf_lt hw kd_0 rfl) (wr_7_0 hw) dX7_judge_65 ?_
      refine ab_getR C (q := (1 + 1)) fl_X7_70 rfl kd_1 (wf_lt hw kd_1 rfl) (wr_2_0 hw kd_1) dX7_judge_68 ?_
      refine ab_iload C 3 dX7_judge_71 rfl ?_
      obtain ⟨c_9, f⟩ := f
      refine ab_aaldR C (q := (1 + 8 + 3 * y4.toNatClampNeg)) (kn_2_0 kd_1) (Or.inl rfl) (wf_lt hw (kn_2_0 kd_1) rfl) (wf_len hw (kn_2_0 kd_1) rfl rfl (by decide)) c_9 (j := y4.toNatClampNeg) rfl (wx_bunk hw kd_1 (vp_in_lt c_9)) dX7_judge_73 ?_
      refine ab_getI C fl_X7_79 rfl (kx_bunk kd_1 (vp_in_lt c_9)) (wf_lt hw (kx_bunk kd_1 (vp_in_lt c_9)) rfl) dX7_judge_74 ?_
      refine ab_icmp_eq C (tgt := 83) dX7_judge_77 (by decide) (fun c_10 => ?_) (fun c_10 => ?_)
      · have f := f.1 c_10
        refine ab_iinc C (lv' := [(4, .int (y4 + (1 : Int32))), (0, .ref (G.1 + 0)), (2, .ref (G.1 + y2)), (3, .int y3)]) 3 (v := (y4 + (1 : Int32))) dX7_judge_83 rfl rfl (by decide) rfl ?_
        refine ab_goto C (tgt := 51) dX7_judge_86 (by decide) ?_
        refine ab_sub (lv' := [(0, .ref (G.1 + 0)), (2, .ref (G.1 + y2)), (3, .int y3), (4, .int (y4 + (1 : Int32)))]) [1, 2, 3, 0] rfl ?_
        exact ih y2 y3 (y4 + (1 : Int32)) h hy2 hw f
      · have f := f.2 c_10
        refine ab_iload C 3 dX7_judge_80 rfl ?_
        exact ab_iret C dX7_judge_82 ⟨hw, _, rfl, f⟩
def wp_X7_judge (x1 : Int32) (h : hp_T) (Q : Int32 → hp_T → Prop) : Prop :=
  wp_X7_isSheet x1 h (fun v_1 => ((v_1 = 0 → wp_X7_error (1 : Int32) h (fun v_14 h_15 => (Q v_14 h_15))) ∧ (¬ (v_1 = 0) → (vp_in x1 4) ∧ wp_X1_isMissing (97 + 2 * x1.toNatClampNeg) h (fun v_4 => ((v_4 = 0 → (∃ n0, wp_X7_judge_L51 x1 Q  n0 (97 + 2 * x1.toNatClampNeg) (if (hp_i h 1 1) < (hp_i h (97 + 2 * x1.toNatClampNeg) 1) then (hp_i h 1 1) else (hp_i h (97 + 2 * x1.toNatClampNeg) 1)) (0 : Int32) h)) ∧ (¬ (v_4 = 0) → wp_X7_error (2 : Int32) h (fun v_11 h_12 => (Q v_11 h_12))))))))
set_option maxRecDepth 100000 in
set_option maxHeartbeats 4000000 in
theorem mt_X7_judge {l : Launch} {G : ab_G} {x1 : Int32} {h : hp_T} {Q : Int32 → hp_T → Prop} (hw : wf h) (f : wp_X7_judge x1 h Q) : ab_M l G yX7_judge cX7_judge 5 (some .int) rm_X7_judge 0 0 [.ref (G.1 + 0), .int x1] h (po_h Q) := by
  refine ab_intro (own := RX7) (nm := "judge") rfl rfl rfl (Nat.le_of_ble_eq_true rfl) (fun F C => ?_)
  show ab_W l G F 5 (ab_MQ G F (po_h Q) 0 0) 0 0 h [(0, .ref (G.1 + 0)), (1, .int x1)] [] 0
  unfold wp_X7_judge at f
  refine ab_iload_n C 1 dX7_judge_0 rfl rfl ?_
  refine ab_callS C (k := 0) (n := 0) (rest := []) [.int x1] cl_X7_218 (mt_X7_isSheet  hw f) ⟨rfl, rfl, Nat.le_of_ble_eq_true rfl, Nat.le_of_ble_eq_true rfl, Nat.zero_le _, Nat.zero_le _⟩ rfl rfl (Nat.le_of_ble_eq_true rfl) dX7_judge_1 (ab_kp (k := 0) (n := 0) (fun v_1 f => ?_))
  refine ab_if_ne C (tgt := 13) dX7_judge_4 (by decide) (fun c_2 => ?_) (fun c_2 => ?_)
  · have f := f.2 c_2
    refine ab_aload_n C 0 dX7_judge_13 rfl rfl ?_
    refine ab_getR C (q := 95) fl_X7_38 rfl kd_0 (wf_lt hw kd_0 rfl) (wr_7_5 hw) dX7_judge_14 ?_
    refine ab_iload_n C 1 dX7_judge_17 rfl rfl ?_
    obtain ⟨c_3, f⟩ := f
    refine ab_aaldR C (q := (97 + 2 * x1.toNatClampNeg)) kd_95 (Or.inr (Or.inr (Or.inr rfl))) (wf_lt hw kd_95 rfl) (wf_len hw kd_95 rfl rfl (by decide)) c_3 (j := x1.toNatClampNeg) rfl (wx_sheet hw (vp_in_lt c_3)) dX7_judge_18 ?_
    refine ab_astore_n C (lv' := [(2, .ref (G.1 + (97 + 2 * x1.toNatClampNeg))), (0, .ref (G.1 + 0)), (1, .int x1)]) dX7_judge_19 rfl (by decide) rfl ?_
    refine ab_aload_n C 0 dX7_judge_20 rfl rfl ?_
    refine ab_callV C (k := 0) (n := 0) (rest := []) [] cl_X7_224 (mt_X1_isMissing (kx_sheet (vp_in_lt c_3)) hw f) rfl (by decide) (kx_sheet (vp_in_lt c_3)) (wf_lt hw (kx_sheet (vp_in_lt c_3)) rfl) ⟨rfl, rfl, Nat.le_of_ble_eq_true rfl, Nat.le_of_ble_eq_true rfl, Nat.zero_le _, Nat.zero_le _⟩ rfl rfl (Nat.le_of_ble_eq_true rfl) dX7_judge_21 (ab_kp (k := 0) (n := 0) (fun v_4 f => ?_))
    refine ab_if_eq C (tgt := 33) dX7_judge_24 (by decide) (fun c_5 => ?_) (fun c_5 => ?_)
    · have f := f.1 c_5
      refine ab_aload_n C 0 dX7_judge_33 rfl rfl ?_
      refine ab_getI C fl_X7_228 rfl (kx_sheet (vp_in_lt c_3)) (wf_lt hw (kx_sheet (vp_in_lt c_3)) rfl) dX7_judge_34 ?_
      refine ab_aload_n C 1 dX7_judge_37 rfl rfl ?_
      refine ab_getR C (q := 1) fl_X7_10 rfl kd_0 (wf_lt hw kd_0 rfl) (wr_7_0 hw) dX7_judge_38 ?_
      refine ab_getI C fl_X7_55 rfl kd_1 (wf_lt hw kd_1 rfl) dX7_judge_41 ?_
      refine ab_mmin C cm_X7_196 (by decide) (by decide) (by decide) (by decide) (Nat.le_of_ble_eq_true rfl) dX7_judge_44 ?_
      refine ab_istore_n C (lv' := [(3, .int (if (hp_i h 1 1) < (hp_i h (97 + 2 * x1.toNatClampNeg) 1) then (hp_i h 1 1) else (hp_i h (97 + 2 * x1.toNatClampNeg) 1))), (2, .ref (G.1 + (97 + 2 * x1.toNatClampNeg))), (0, .ref (G.1 + 0)), (1, .int x1)]) dX7_judge_47 rfl (by decide) rfl ?_
      refine ab_iconst C (v := (0 : Int32)) dX7_judge_48 (by decide) ?_
      refine ab_istore C (lv' := [(4, .int (0 : Int32)), (3, .int (if (hp_i h 1 1) < (hp_i h (97 + 2 * x1.toNatClampNeg) 1) then (hp_i h 1 1) else (hp_i h (97 + 2 * x1.toNatClampNeg) 1))), (2, .ref (G.1 + (97 + 2 * x1.toNatClampNeg))), (0, .ref (G.1 + 0)), (1, .int x1)]) dX7_judge_49 (by decide) rfl ?_
      obtain ⟨n0, f⟩ := f
      refine ab_sub (lv' := [(0, .ref (G.1 + 0)), (2, .ref (G.1 + (97 + 2 * x1.toNatClampNeg))), (3, .int (if (hp_i h 1 1) < (hp_i h (97 + 2 * x1.toNatClampNeg) 1) then (hp_i h 1 1) else (hp_i h (97 + 2 * x1.toNatClampNeg) 1))), (4, .int (0 : Int32))]) [3, 2, 1, 0] rfl ?_
      exact bt_X7_judge_L51 C    n0 (97 + 2 * x1.toNatClampNeg) (if (hp_i h 1 1) < (hp_i h (97 + 2 * x1.toNatClampNeg) 1) then (hp_i h 1 1) else (hp_i h (97 + 2 * x1.toNatClampNeg) 1)) (0 : Int32) h (kx_sheet (vp_in_lt c_3)) hw f
    · have f := f.2 c_5
      refine ab_aload_n C 1 dX7_judge_27 rfl rfl ?_
      refine ab_iconst C (v := (2 : Int32)) dX7_judge_28 (by decide) ?_
      refine ab_callV C (k := 0) (n := 0) (rest := []) [.int (2 : Int32)] cl_X7_51 (mt_X7_error  hw f) rfl (by decide) kd_0 (wf_lt hw kd_0 rfl) ⟨rfl, rfl, Nat.le_of_ble_eq_true rfl, Nat.le_of_ble_eq_true rfl, Nat.zero_le _, Nat.zero_le _⟩ rfl rfl (Nat.le_of_ble_eq_true rfl) dX7_judge_29 (ab_kh (k := 0) (n := 0) (fun v_11 h_12 hw_13 f => ?_))
      exact ab_iret C dX7_judge_32 ⟨hw_13, _, rfl, f⟩
  · have f := f.1 c_2
    refine ab_aload_n C 0 dX7_judge_7 rfl rfl ?_
    refine ab_iconst C (v := (1 : Int32)) dX7_judge_8 (by decide) ?_
    refine ab_callV C (k := 0) (n := 0) (rest := []) [.int (1 : Int32)] cl_X7_51 (mt_X7_error  hw f) rfl (by decide) kd_0 (wf_lt hw kd_0 rfl) ⟨rfl, rfl, Nat.le_of_ble_eq_true rfl, Nat.le_of_ble_eq_true rfl, Nat.zero_le _, Nat.zero_le _⟩ rfl rfl (Nat.le_of_ble_eq_true rfl) dX7_judge_9 (ab_kh (k := 0) (n := 0) (fun v_14 h_15 hw_16 f => ?_))
    exact ab_iret C dX7_judge_12 ⟨hw_16, _, rfl, f⟩
/-! X7_know -/
def rm_X7_know : Room := { frames := 5, cells := 0, slots := 0, locals := 163 }
def wp_X7_know (x1 : Int32) (x2 : Int32) (x3 : Int32) (h : hp_T) (Q : Int32 → hp_T → Prop) : Prop :=
  wp_X7_isBunk x1 h (fun v_1 => ((v_1 = 0 → wp_X7_error (1 : Int32) h (fun v_3 h_4 => (Q v_3 h_4))) ∧ (¬ (v_1 = 0) → wp_X7_isKnack x2 h (fun v_6 => ((v_6 = 0 → wp_X7_error (1 : Int32) h (fun v_8 h_9 => (Q v_8 h_9))) ∧ (¬ (v_6 = 0) → wp_X7_within x3 (-1 : Int32) (999 : Int32) h (fun v_11 => ((v_11 = 0 → wp_X7_error (1 : Int32) h (fun v_27 h_28 => (Q v_27 h_28))) ∧ (¬ (v_11 = 0) → (vp_in x1 6) ∧ wp_X0_knows (1 + 8 + 3 * x1.toNatClampNeg) x2 h (fun v_14 => ((v_14 = 0 → ((0 ≤ x3 → wp_X0_learn (1 + 8 + 3 * x1.toNatClampNeg) x2 x3 h (fun h_17 => (Q (-1 : Int32) h_17))) ∧ (¬ (0 ≤ x3) → wp_X0_forget (1 + 8 + 3 * x1.toNatClampNeg) x2 h (fun h_19 => (Q (-1 : Int32) h_19))))) ∧ (¬ (v_14 = 0) → (vp_in x2 6) ∧ ((0 ≤ x3 → wp_X0_learn (1 + 8 + 3 * x1.toNatClampNeg) x2 x3 h (fun h_23 => (Q (hp_i h ((1 + 8 + 3 * x1.toNatClampNeg) + 1) x2.toNatClampNeg) h_23))) ∧ (¬ (0 ≤ x3) → wp_X0_forget (1 + 8 + 3 * x1.toNatClampNeg) x2 h (fun h_25 => (Q (hp_i h ((1 + 8 + 3 * x1.toNatClampNeg) + 1) x2.toNatClampNeg) h_25))))))))))))))))
set_option maxRecDepth 100000 in
set_option maxHeartbeats 4000000 in
theorem mt_X7_know {l : Launch} {G : ab_G} {x1 : Int32} {x2 : Int32} {x3 : Int32} {h : hp_T} {Q : Int32 → hp_T → Prop} (hw : wf h) (f : wp_X7_know x1 x2 x3 h Q) : ab_M l G yX7_know cX7_know 6 (some .int) rm_X7_know 0 0 [.ref (G.1 + 0), .int x1, .int x2, .int x3] h (po_h Q) := by
  refine ab_intro (own := RX7) (nm := "know") rfl rfl rfl (Nat.le_of_ble_eq_true rfl) (fun F C => ?_)
  show ab_W l G F 6 (ab_MQ G F (po_h Q) 0 0) 0 0 h [(0, .ref (G.1 + 0)), (1, .int x1), (2, .int x2), (3, .int x3)] [] 0
  unfold wp_X7_know at f
  refine ab_aload_n C 0 dX7_know_0 rfl rfl ?_
  refine ab_iload_n C 1 dX7_know_1 rfl rfl ?_
  refine ab_callV C (k := 0) (n := 0) (rest := []) [.int x1] cl_X7_62 (mt_X7_isBunk  hw f) rfl (by decide) kd_0 (wf_lt hw kd_0 rfl) ⟨rfl, rfl, Nat.le_of_ble_eq_true rfl, Nat.le_of_ble_eq_true rfl, Nat.zero_le _, Nat.zero_le _⟩ rfl rfl (Nat.le_of_ble_eq_true rfl) dX7_know_2 (ab_kp (k := 0) (n := 0) (fun v_1 f => ?_))
  refine ab_if_eq C (tgt := 26) dX7_know_5 (by decide) (fun c_2 => ?_) (fun c_2 => ?_)
  · have f := f.1 c_2
    refine ab_aload_n C 0 dX7_know_26 rfl rfl ?_
    refine ab_iconst C (v := (1 : Int32)) dX7_know_27 (by decide) ?_
    refine ab_callV C (k := 0) (n := 0) (rest := []) [.int (1 : Int32)] cl_X7_51 (mt_X7_error  hw f) rfl (by decide) kd_0 (wf_lt hw kd_0 rfl) ⟨rfl, rfl, Nat.le_of_ble_eq_true rfl, Nat.le_of_ble_eq_true rfl, Nat.zero_le _, Nat.zero_le _⟩ rfl rfl (Nat.le_of_ble_eq_true rfl) dX7_know_28 (ab_kh (k := 0) (n := 0) (fun v_3 h_4 hw_5 f => ?_))
    exact ab_iret C dX7_know_31 ⟨hw_5, _, rfl, f⟩
  · have f := f.2 c_2
    refine ab_iload_n C 2 dX7_know_8 rfl rfl ?_
    refine ab_callS C (k := 0) (n := 0) (rest := []) [.int x2] cl_X7_95 (mt_X7_isKnack  hw f) ⟨rfl, rfl, Nat.le_of_ble_eq_true rfl, Nat.le_of_ble_eq_true rfl, Nat.zero_le _, Nat.zero_le _⟩ rfl rfl (Nat.le_of_ble_eq_true rfl) dX7_know_9 (ab_kp (k := 0) (n := 0) (fun v_6 f => ?_))
    refine ab_if_eq C (tgt := 26) dX7_know_12 (by decide) (fun c_7 => ?_) (fun c_7 => ?_)
    · have f := f.1 c_7
      refine ab_aload_n C 0 dX7_know_26 rfl rfl ?_
      refine ab_iconst C (v := (1 : Int32)) dX7_know_27 (by decide) ?_
      refine ab_callV C (k := 0) (n := 0) (rest := []) [.int (1 : Int32)] cl_X7_51 (mt_X7_error  hw f) rfl (by decide) kd_0 (wf_lt hw kd_0 rfl) ⟨rfl, rfl, Nat.le_of_ble_eq_true rfl, Nat.le_of_ble_eq_true rfl, Nat.zero_le _, Nat.zero_le _⟩ rfl rfl (Nat.le_of_ble_eq_true rfl) dX7_know_28 (ab_kh (k := 0) (n := 0) (fun v_8 h_9 hw_10 f => ?_))
      exact ab_iret C dX7_know_31 ⟨hw_10, _, rfl, f⟩
    · have f := f.2 c_7
      refine ab_iload_n C 3 dX7_know_15 rfl rfl ?_
      refine ab_iconst C (v := (-1 : Int32)) dX7_know_16 (by decide) ?_
      refine ab_sipush C (v := (999 : Int32)) dX7_know_17 (by decide) ?_
      refine ab_callS C (k := 0) (n := 0) (rest := []) [.int x3, .int (-1 : Int32), .int (999 : Int32)] cl_X7_47 (mt_X7_within  hw f) ⟨rfl, rfl, Nat.le_of_ble_eq_true rfl, Nat.le_of_ble_eq_true rfl, Nat.zero_le _, Nat.zero_le _⟩ rfl rfl (Nat.le_of_ble_eq_true rfl) dX7_know_20 (ab_kp (k := 0) (n := 0) (fun v_11 f => ?_))
      refine ab_if_ne C (tgt := 32) dX7_know_23 (by decide) (fun c_12 => ?_) (fun c_12 => ?_)
      · have f := f.2 c_12
        refine ab_aload_n C 0 dX7_know_32 rfl rfl ?_
        refine ab_getR C (q := 1) fl_X7_10 rfl kd_0 (wf_lt hw kd_0 rfl) (wr_7_0 hw) dX7_know_33 ?_
        refine ab_getR C (q := (1 + 1)) fl_X7_70 rfl kd_1 (wf_lt hw kd_1 rfl) (wr_2_0 hw kd_1) dX7_know_36 ?_
        refine ab_iload_n C 1 dX7_know_39 rfl rfl ?_
        obtain ⟨c_13, f⟩ := f
        refine ab_aaldR C (q := (1 + 8 + 3 * x1.toNatClampNeg)) (kn_2_0 kd_1) (Or.inl rfl) (wf_lt hw (kn_2_0 kd_1) rfl) (wf_len hw (kn_2_0 kd_1) rfl rfl (by decide)) c_13 (j := x1.toNatClampNeg) rfl (wx_bunk hw kd_1 (vp_in_lt c_13)) dX7_know_40 ?_
        refine ab_astore C (lv' := [(4, .ref (G.1 + (1 + 8 + 3 * x1.toNatClampNeg))), (0, .ref (G.1 + 0)), (1, .int x1), (2, .int x2), (3, .int x3)]) dX7_know_41 (by decide) rfl ?_
        refine ab_aload C 0 dX7_know_43 rfl ?_
        refine ab_iload_n C 3 dX7_know_45 rfl rfl ?_
        refine ab_callV C (k := 0) (n := 0) (rest := []) [.int x2] cl_X7_98 (mt_X0_knows (kx_bunk kd_1 (vp_in_lt c_13)) hw f) rfl (by decide) (kx_bunk kd_1 (vp_in_lt c_13)) (wf_lt hw (kx_bunk kd_1 (vp_in_lt c_13)) rfl) ⟨rfl, rfl, Nat.le_of_ble_eq_true rfl, Nat.le_of_ble_eq_true rfl, Nat.zero_le _, Nat.zero_le _⟩ rfl rfl (Nat.le_of_ble_eq_true rfl) dX7_know_46 (ab_kp (k := 0) (n := 0) (fun v_14 f => ?_))
        refine ab_if_eq C (tgt := 62) dX7_know_49 (by decide) (fun c_15 => ?_) (fun c_15 => ?_)
        · have f := f.1 c_15
          refine ab_iconst C (v := (-1 : Int32)) dX7_know_62 (by decide) ?_
          refine ab_istore C (lv' := [(5, .int (-1 : Int32)), (4, .ref (G.1 + (1 + 8 + 3 * x1.toNatClampNeg))), (0, .ref (G.1 + 0)), (1, .int x1), (2, .int x2), (3, .int x3)]) dX7_know_63 (by decide) rfl ?_
          refine ab_iload_n C 5 dX7_know_65 rfl rfl ?_
          refine ab_if_ge C (tgt := 78) dX7_know_66 (by decide) (fun c_16 => ?_) (fun c_16 => ?_)
          · have f := f.1 c_16
            refine ab_aload C 1 dX7_know_78 rfl ?_
            refine ab_iload_n C 4 dX7_know_80 rfl rfl ?_
            refine ab_iload_n C 5 dX7_know_81 rfl rfl ?_
            refine ab_callV C (k := 0) (n := 0) (rest := []) [.int x2, .int x3] cl_X7_108 (mt_X0_learn (kx_bunk kd_1 (vp_in_lt c_13)) hw f) rfl (by decide) (kx_bunk kd_1 (vp_in_lt c_13)) (wf_lt hw (kx_bunk kd_1 (vp_in_lt c_13)) rfl) ⟨rfl, rfl, Nat.le_of_ble_eq_true rfl, Nat.le_of_ble_eq_true rfl, Nat.zero_le _, Nat.zero_le _⟩ rfl rfl (Nat.le_of_ble_eq_true rfl) dX7_know_82 (ab_kv (k := 0) (n := 0) (fun h_17 hw_18 f => ?_))
            refine ab_iload C 0 dX7_know_85 rfl ?_
            exact ab_iret C dX7_know_87 ⟨hw_18, _, rfl, f⟩
          · have f := f.2 c_16
            refine ab_aload C 1 dX7_know_69 rfl ?_
            refine ab_iload_n C 4 dX7_know_71 rfl rfl ?_
            refine ab_callV C (k := 0) (n := 0) (rest := []) [.int x2] cl_X7_104 (mt_X0_forget (kx_bunk kd_1 (vp_in_lt c_13)) hw f) rfl (by decide) (kx_bunk kd_1 (vp_in_lt c_13)) (wf_lt hw (kx_bunk kd_1 (vp_in_lt c_13)) rfl) ⟨rfl, rfl, Nat.le_of_ble_eq_true rfl, Nat.le_of_ble_eq_true rfl, Nat.zero_le _, Nat.zero_le _⟩ rfl rfl (Nat.le_of_ble_eq_true rfl) dX7_know_72 (ab_kv (k := 0) (n := 0) (fun h_19 hw_20 f => ?_))
            refine ab_goto C (tgt := 85) dX7_know_75 (by decide) ?_
            refine ab_iload C 0 dX7_know_85 rfl ?_
            exact ab_iret C dX7_know_87 ⟨hw_20, _, rfl, f⟩
        · have f := f.2 c_15
          refine ab_aload C 0 dX7_know_52 rfl ?_
          refine ab_getR C (q := ((1 + 8 + 3 * x1.toNatClampNeg) + 1)) fl_X7_101 rfl (kx_bunk kd_1 (vp_in_lt c_13)) (wf_lt hw (kx_bunk kd_1 (vp_in_lt c_13)) rfl) (wr_0_5 hw (kx_bunk kd_1 (vp_in_lt c_13))) dX7_know_54 ?_
          refine ab_iload_n C 3 dX7_know_57 rfl rfl ?_
          obtain ⟨c_21, f⟩ := f
          refine ab_iald C (by rw [(kn_0_5 (kx_bunk kd_1 (vp_in_lt c_13)))]; decide) (wf_lt hw (kn_0_5 (kx_bunk kd_1 (vp_in_lt c_13))) rfl) (wf_len hw (kn_0_5 (kx_bunk kd_1 (vp_in_lt c_13))) rfl rfl (by decide)) c_21 (j := x2.toNatClampNeg) rfl dX7_know_58 ?_
          refine ab_goto C (tgt := 63) dX7_know_59 (by decide) ?_
          refine ab_istore C (lv' := [(5, .int (hp_i h ((1 + 8 + 3 * x1.toNatClampNeg) + 1) x2.toNatClampNeg)), (4, .ref (G.1 + (1 + 8 + 3 * x1.toNatClampNeg))), (0, .ref (G.1 + 0)), (1, .int x1), (2, .int x2), (3, .int x3)]) dX7_know_63 (by decide) rfl ?_
          refine ab_iload_n C 5 dX7_know_65 rfl rfl ?_
          refine ab_if_ge C (tgt := 78) dX7_know_66 (by decide) (fun c_22 => ?_) (fun c_22 => ?_)
          · have f := f.1 c_22
            refine ab_aload C 1 dX7_know_78 rfl ?_
            refine ab_iload_n C 4 dX7_know_80 rfl rfl ?_
            refine ab_iload_n C 5 dX7_know_81 rfl rfl ?_
            refine ab_callV C (k := 0) (n := 0) (rest := []) [.int x2, .int x3] cl_X7_108 (mt_X0_learn (kx_bunk kd_1 (vp_in_lt c_13)) hw f) rfl (by decide) (kx_bunk kd_1 (vp_in_lt c_13)) (wf_lt hw (kx_bunk kd_1 (vp_in_lt c_13)) rfl) ⟨rfl, rfl, Nat.le_of_ble_eq_true rfl, Nat.le_of_ble_eq_true rfl, Nat.zero_le _, Nat.zero_le _⟩ rfl rfl (Nat.le_of_ble_eq_true rfl) dX7_know_82 (ab_kv (k := 0) (n := 0) (fun h_23 hw_24 f => ?_))
            refine ab_iload C 0 dX7_know_85 rfl ?_
            exact ab_iret C dX7_know_87 ⟨hw_24, _, rfl, f⟩
          · have f := f.2 c_22
            refine ab_aload C 1 dX7_know_69 rfl ?_
            refine ab_iload_n C 4 dX7_know_71 rfl rfl ?_
            refine ab_callV C (k := 0) (n := 0) (rest := []) [.int x2] cl_X7_104 (mt_X0_forget (kx_bunk kd_1 (vp_in_lt c_13)) hw f) rfl (by decide) (kx_bunk kd_1 (vp_in_lt c_13)) (wf_lt hw (kx_bunk kd_1 (vp_in_lt c_13)) rfl) ⟨rfl, rfl, Nat.le_of_ble_eq_true rfl, Nat.le_of_ble_eq_true rfl, Nat.zero_le _, Nat.zero_le _⟩ rfl rfl (Nat.le_of_ble_eq_true rfl) dX7_know_72 (ab_kv (k := 0) (n := 0) (fun h_25 hw_26 f => ?_))
            refine ab_goto C (tgt := 85) dX7_know_75 (by decide) ?_
            refine ab_iload C 0 dX7_know_85 rfl ?_
            exact ab_iret C dX7_know_87 ⟨hw_26, _, rfl, f⟩
      · have f := f.1 c_12
        refine ab_aload_n C 0 dX7_know_26 rfl rfl ?_
        refine ab_iconst C (v := (1 : Int32)) dX7_know_27 (by decide) ?_
        refine ab_callV C (k := 0) (n := 0) (rest := []) [.int (1 : Int32)] cl_X7_51 (mt_X7_error  hw f) rfl (by decide) kd_0 (wf_lt hw kd_0 rfl) ⟨rfl, rfl, Nat.le_of_ble_eq_true rfl, Nat.le_of_ble_eq_true rfl, Nat.zero_le _, Nat.zero_le _⟩ rfl rfl (Nat.le_of_ble_eq_true rfl) dX7_know_28 (ab_kh (k := 0) (n := 0) (fun v_27 h_28 hw_29 f => ?_))
        exact ab_iret C dX7_know_31 ⟨hw_29, _, rfl, f⟩
/-! X7_lost -/
def rm_X7_lost : Room := { frames := 9, cells := 0, slots := 0, locals := 264 }
def wp_X7_lost_L30 (x1 : Int32) (x2 : Int32) (Q : Int32 → hp_T → Prop) : Nat → Int32 → hp_T → Prop
  | 0 => fun _ _ => False
  | nn + 1 => fun y3 h => ((x2 < y3 → wp_X7_error (2 : Int32) h (fun v_11 h_12 => (Q v_11 h_12))) ∧ (¬ (x2 < y3) → wp_X2_knowers 61 x1 h (fun v_14 => ((v_14 = 0 → (Q y3 h)) ∧ (¬ (v_14 = 0) → wp_X2_passDay 61 h (fun v_16 h_17 => (wp_X7_lost_L30 x1 x2 Q nn) (y3 + (1 : Int32)) h_17))))))
set_option maxRecDepth 100000 in
set_option maxHeartbeats 4000000 in
theorem bt_X7_lost_L30 {l : Launch} {G : ab_G} {F : ab_F} {x1 : Int32} {x2 : Int32} {Q : Int32 → hp_T → Prop}  (C : ab_C G F rm_X7_lost cX7_lost 4 RX7 (some .int) "lost")   : ∀ (nn : Nat) (y3 : Int32) (h : hp_T), wf h → wp_X7_lost_L30 x1 x2 Q nn y3 h → ab_W l G F 4 (ab_MQ G F (po_h Q) 0 0) 0 0 h [(0, .ref (G.1 + 0)), (1, .int x1), (2, .int x2), (3, .int y3)] [] 30 := by
  intro nn
  induction nn with
  | zero =>
    intro y3 h hw f
    exact absurd f id
  | succ nn ih =>
    intro y3 h hw f
    unfold wp_X7_lost_L30 at f
    refine ab_iload_n C 3 dX7_lost_30 rfl rfl ?_
    refine ab_iload_n C 2 dX7_lost_31 rfl rfl ?_
    refine ab_icmp_gt C (tgt := 62) dX7_lost_32 (by decide) (fun c_10 => ?_) (fun c_10 => ?_)
    · have f := f.1 c_10
      refine ab_aload_n C 0 dX7_lost_62 rfl rfl ?_
      refine ab_iconst C (v := (2 : Int32)) dX7_lost_63 (by decide) ?_
      refine ab_callV C (k := 0) (n := 0) (rest := []) [.int (2 : Int32)] cl_X7_51 (mt_X7_error  hw f) rfl (by decide) kd_0 (wf_lt hw kd_0 rfl) ⟨rfl, rfl, Nat.le_of_ble_eq_true rfl, Nat.le_of_ble_eq_true rfl, Nat.zero_le _, Nat.zero_le _⟩ rfl rfl (Nat.le_of_ble_eq_true rfl) dX7_lost_64 (ab_kh (k := 0) (n := 0) (fun v_11 h_12 hw_13 f => ?_))
      exact ab_iret C dX7_lost_67 ⟨hw_13, _, rfl, f⟩
    · have f := f.2 c_10
      refine ab_aload_n C 0 dX7_lost_35 rfl rfl ?_
      refine ab_getR C (q := 61) fl_X7_19 rfl kd_0 (wf_lt hw kd_0 rfl) (wr_7_2 hw) dX7_lost_36 ?_
      refine ab_iload_n C 1 dX7_lost_39 rfl rfl ?_
      refine ab_callV C (k := 0) (n := 0) (rest := []) [.int x1] cl_X7_176 (mt_X2_knowers kd_61 hw f) rfl (by decide) kd_61 (wf_lt hw kd_61 rfl) ⟨rfl, rfl, Nat.le_of_ble_eq_true rfl, Nat.le_of_ble_eq_true rfl, Nat.zero_le _, Nat.zero_le _⟩ rfl rfl (Nat.le_of_ble_eq_true rfl) dX7_lost_40 (ab_kp (k := 0) (n := 0) (fun v_14 f => ?_))
      refine ab_if_ne C (tgt := 48) dX7_lost_43 (by decide) (fun c_15 => ?_) (fun c_15 => ?_)
      · have f := f.2 c_15
        refine ab_aload_n C 0 dX7_lost_48 rfl rfl ?_
        refine ab_getR C (q := 61) fl_X7_19 rfl kd_0 (wf_lt hw kd_0 rfl) (wr_7_2 hw) dX7_lost_49 ?_
        refine ab_callV C (k := 0) (n := 0) (rest := []) [] cl_X7_160 (mt_X2_passDay kd_61 hw f) rfl (by decide) kd_61 (wf_lt hw kd_61 rfl) ⟨rfl, rfl, Nat.le_of_ble_eq_true rfl, Nat.le_of_ble_eq_true rfl, Nat.zero_le _, Nat.zero_le _⟩ rfl rfl (Nat.le_of_ble_eq_true rfl) dX7_lost_52 (ab_kh (k := 0) (n := 0) (fun v_16 h_17 hw_18 f => ?_))
        refine ab_pop C dX7_lost_55 rfl ?_
        refine ab_iinc C (lv' := [(3, .int (y3 + (1 : Int32))), (0, .ref (G.1 + 0)), (1, .int x1), (2, .int x2)]) 3 (v := (y3 + (1 : Int32))) dX7_lost_56 rfl rfl (by decide) rfl ?_
        refine ab_goto C (tgt := 30) dX7_lost_59 (by decide) ?_
        refine ab_sub (lv' := [(0, .ref (G.1 + 0)), (1, .int x1), (2, .int x2), (3, .int (y3 + (1 : Int32)))]) [1, 2, 3, 0] rfl ?_
        exact ih (y3 + (1 : Int32)) h_17  hw_18 f
      · have f := f.1 c_15
        refine ab_iload_n C 3 dX7_lost_46 rfl rfl ?_
        exact ab_iret C dX7_lost_47 ⟨hw, _, rfl, f⟩
def wp_X7_lost (x1 : Int32) (x2 : Int32) (h : hp_T) (Q : Int32 → hp_T → Prop) : Prop :=
  wp_X7_isKnack x1 h (fun v_1 => ((v_1 = 0 → wp_X7_error (1 : Int32) h (fun v_3 h_4 => (Q v_3 h_4))) ∧ (¬ (v_1 = 0) → wp_X7_within x2 (0 : Int32) (90 : Int32) h (fun v_6 => ((v_6 = 0 → wp_X7_error (1 : Int32) h (fun v_19 h_20 => (Q v_19 h_20))) ∧ (¬ (v_6 = 0) → wp_X7_goAhead (0 : Int32) h (fun h_8 => (∃ n0, wp_X7_lost_L30 x1 x2 Q  n0 (0 : Int32) h_8))))))))
set_option maxRecDepth 100000 in
set_option maxHeartbeats 4000000 in
theorem mt_X7_lost {l : Launch} {G : ab_G} {x1 : Int32} {x2 : Int32} {h : hp_T} {Q : Int32 → hp_T → Prop} (hw : wf h) (f : wp_X7_lost x1 x2 h Q) : ab_M l G yX7_lost cX7_lost 4 (some .int) rm_X7_lost 0 0 [.ref (G.1 + 0), .int x1, .int x2] h (po_h Q) := by
  refine ab_intro (own := RX7) (nm := "lost") rfl rfl rfl (Nat.le_of_ble_eq_true rfl) (fun F C => ?_)
  show ab_W l G F 4 (ab_MQ G F (po_h Q) 0 0) 0 0 h [(0, .ref (G.1 + 0)), (1, .int x1), (2, .int x2)] [] 0
  unfold wp_X7_lost at f
  refine ab_iload_n C 1 dX7_lost_0 rfl rfl ?_
  refine ab_callS C (k := 0) (n := 0) (rest := []) [.int x1] cl_X7_95 (mt_X7_isKnack  hw f) ⟨rfl, rfl, Nat.le_of_ble_eq_true rfl, Nat.le_of_ble_eq_true rfl, Nat.zero_le _, Nat.zero_le _⟩ rfl rfl (Nat.le_of_ble_eq_true rfl) dX7_lost_1 (ab_kp (k := 0) (n := 0) (fun v_1 f => ?_))
  refine ab_if_eq C (tgt := 17) dX7_lost_4 (by decide) (fun c_2 => ?_) (fun c_2 => ?_)
  · have f := f.1 c_2
    refine ab_aload_n C 0 dX7_lost_17 rfl rfl ?_
    refine ab_iconst C (v := (1 : Int32)) dX7_lost_18 (by decide) ?_
    refine ab_callV C (k := 0) (n := 0) (rest := []) [.int (1 : Int32)] cl_X7_51 (mt_X7_error  hw f) rfl (by decide) kd_0 (wf_lt hw kd_0 rfl) ⟨rfl, rfl, Nat.le_of_ble_eq_true rfl, Nat.le_of_ble_eq_true rfl, Nat.zero_le _, Nat.zero_le _⟩ rfl rfl (Nat.le_of_ble_eq_true rfl) dX7_lost_19 (ab_kh (k := 0) (n := 0) (fun v_3 h_4 hw_5 f => ?_))
    exact ab_iret C dX7_lost_22 ⟨hw_5, _, rfl, f⟩
  · have f := f.2 c_2
    refine ab_iload_n C 2 dX7_lost_7 rfl rfl ?_
    refine ab_iconst C (v := (0 : Int32)) dX7_lost_8 (by decide) ?_
    refine ab_bipush C (v := (90 : Int32)) dX7_lost_9 (by decide) ?_
    refine ab_callS C (k := 0) (n := 0) (rest := []) [.int x2, .int (0 : Int32), .int (90 : Int32)] cl_X7_47 (mt_X7_within  hw f) ⟨rfl, rfl, Nat.le_of_ble_eq_true rfl, Nat.le_of_ble_eq_true rfl, Nat.zero_le _, Nat.zero_le _⟩ rfl rfl (Nat.le_of_ble_eq_true rfl) dX7_lost_11 (ab_kp (k := 0) (n := 0) (fun v_6 f => ?_))
    refine ab_if_ne C (tgt := 23) dX7_lost_14 (by decide) (fun c_7 => ?_) (fun c_7 => ?_)
    · have f := f.2 c_7
      refine ab_aload_n C 0 dX7_lost_23 rfl rfl ?_
      refine ab_iconst C (v := (0 : Int32)) dX7_lost_24 (by decide) ?_
      refine ab_callV C (k := 0) (n := 0) (rest := []) [.int (0 : Int32)] cl_X7_173 (mt_X7_goAhead  hw f) rfl (by decide) kd_0 (wf_lt hw kd_0 rfl) ⟨rfl, rfl, Nat.le_of_ble_eq_true rfl, Nat.le_of_ble_eq_true rfl, Nat.zero_le _, Nat.zero_le _⟩ rfl rfl (Nat.le_of_ble_eq_true rfl) dX7_lost_25 (ab_kv (k := 0) (n := 0) (fun h_8 hw_9 f => ?_))
      refine ab_iconst C (v := (0 : Int32)) dX7_lost_28 (by decide) ?_
      refine ab_istore_n C (lv' := [(3, .int (0 : Int32)), (0, .ref (G.1 + 0)), (1, .int x1), (2, .int x2)]) dX7_lost_29 rfl (by decide) rfl ?_
      obtain ⟨n0, f⟩ := f
      refine ab_sub (lv' := [(0, .ref (G.1 + 0)), (1, .int x1), (2, .int x2), (3, .int (0 : Int32))]) [1, 2, 3, 0] rfl ?_
      exact bt_X7_lost_L30 C    n0 (0 : Int32) h_8  hw_9 f
    · have f := f.1 c_7
      refine ab_aload_n C 0 dX7_lost_17 rfl rfl ?_
      refine ab_iconst C (v := (1 : Int32)) dX7_lost_18 (by decide) ?_
      refine ab_callV C (k := 0) (n := 0) (rest := []) [.int (1 : Int32)] cl_X7_51 (mt_X7_error  hw f) rfl (by decide) kd_0 (wf_lt hw kd_0 rfl) ⟨rfl, rfl, Nat.le_of_ble_eq_true rfl, Nat.le_of_ble_eq_true rfl, Nat.zero_le _, Nat.zero_le _⟩ rfl rfl (Nat.le_of_ble_eq_true rfl) dX7_lost_19 (ab_kh (k := 0) (n := 0) (fun v_19 h_20 hw_21 f => ?_))
      exact ab_iret C dX7_lost_22 ⟨hw_21, _, rfl, f⟩
/-! X7_mayEnlist -/
def rm_X7_mayEnlist : Room := { frames := 3, cells := 0, slots := 0, locals := 122 }
def wp_X7_mayEnlist (x0 : Int32) (x1 : Int32) (h : hp_T) (Q : Int32 → Prop) : Prop :=
  wp_X7_within x0 (0 : Int32) (69 : Int32) h (fun v_1 => ((v_1 = 0 → (Q (0 : Int32))) ∧ (¬ (v_1 = 0) → wp_X7_within x1 (0 : Int32) (63 : Int32) h (fun v_3 => ((v_3 = 0 → (Q (0 : Int32))) ∧ (¬ (v_3 = 0) → (Q (1 : Int32))))))))
set_option maxRecDepth 100000 in
set_option maxHeartbeats 4000000 in
theorem mt_X7_mayEnlist {l : Launch} {G : ab_G} {x0 : Int32} {x1 : Int32} {h : hp_T} {Q : Int32 → Prop} (hw : wf h) (f : wp_X7_mayEnlist x0 x1 h Q) : ab_M l G yX7_mayEnlist cX7_mayEnlist 2 (some .boolean) rm_X7_mayEnlist 0 0 [.int x0, .int x1] h (po_p h Q) := by
  refine ab_intro (own := RX7) (nm := "mayEnlist") rfl rfl rfl (Nat.le_of_ble_eq_true rfl) (fun F C => ?_)
  show ab_W l G F 2 (ab_MQ G F (po_p h Q) 0 0) 0 0 h [(0, .int x0), (1, .int x1)] [] 0
  unfold wp_X7_mayEnlist at f
  refine ab_iload_n C 0 dX7_mayEnlist_0 rfl rfl ?_
  refine ab_iconst C (v := (0 : Int32)) dX7_mayEnlist_1 (by decide) ?_
  refine ab_bipush C (v := (69 : Int32)) dX7_mayEnlist_2 (by decide) ?_
  refine ab_callS C (k := 0) (n := 0) (rest := []) [.int x0, .int (0 : Int32), .int (69 : Int32)] cl_X7_47 (mt_X7_within  hw f) ⟨rfl, rfl, Nat.le_of_ble_eq_true rfl, Nat.le_of_ble_eq_true rfl, Nat.zero_le _, Nat.zero_le _⟩ rfl rfl (Nat.le_of_ble_eq_true rfl) dX7_mayEnlist_4 (ab_kp (k := 0) (n := 0) (fun v_1 f => ?_))
  refine ab_if_eq C (tgt := 24) dX7_mayEnlist_7 (by decide) (fun c_2 => ?_) (fun c_2 => ?_)
  · have f := f.1 c_2
    refine ab_iconst C (v := (0 : Int32)) dX7_mayEnlist_24 (by decide) ?_
    exact ab_zret C dX7_mayEnlist_25 rfl ⟨rfl, _, rfl, f⟩
  · have f := f.2 c_2
    refine ab_iload_n C 1 dX7_mayEnlist_10 rfl rfl ?_
    refine ab_iconst C (v := (0 : Int32)) dX7_mayEnlist_11 (by decide) ?_
    refine ab_bipush C (v := (63 : Int32)) dX7_mayEnlist_12 (by decide) ?_
    refine ab_callS C (k := 0) (n := 0) (rest := []) [.int x1, .int (0 : Int32), .int (63 : Int32)] cl_X7_47 (mt_X7_within  hw f) ⟨rfl, rfl, Nat.le_of_ble_eq_true rfl, Nat.le_of_ble_eq_true rfl, Nat.zero_le _, Nat.zero_le _⟩ rfl rfl (Nat.le_of_ble_eq_true rfl) dX7_mayEnlist_14 (ab_kp (k := 0) (n := 0) (fun v_3 f => ?_))
    refine ab_if_eq C (tgt := 24) dX7_mayEnlist_17 (by decide) (fun c_4 => ?_) (fun c_4 => ?_)
    · have f := f.1 c_4
      refine ab_iconst C (v := (0 : Int32)) dX7_mayEnlist_24 (by decide) ?_
      exact ab_zret C dX7_mayEnlist_25 rfl ⟨rfl, _, rfl, f⟩
    · have f := f.2 c_4
      refine ab_iconst C (v := (1 : Int32)) dX7_mayEnlist_20 (by decide) ?_
      refine ab_goto C (tgt := 25) dX7_mayEnlist_21 (by decide) ?_
      exact ab_zret C dX7_mayEnlist_25 rfl ⟨rfl, _, rfl, f⟩
/-! X7_maySet -/
def rm_X7_maySet : Room := { frames := 3, cells := 0, slots := 0, locals := 122 }
def wp_X7_maySet (x0 : Int32) (x1 : Int32) (h : hp_T) (Q : Int32 → Prop) : Prop :=
  ((x0 = (0 : Int32) → wp_X7_within x1 (0 : Int32) (6 : Int32) h (fun v_2 => (bo_ok v_2) ∧ (Q v_2))) ∧ (¬ (x0 = (0 : Int32)) → ((x0 = (1 : Int32) → wp_X7_within x1 (0 : Int32) (9 : Int32) h (fun v_5 => (bo_ok v_5) ∧ (Q v_5))) ∧ (¬ (x0 = (1 : Int32)) → ((x0 = (2 : Int32) → (Q (0 : Int32))) ∧ (¬ (x0 = (2 : Int32)) → ((x0 = (3 : Int32) → (Q (0 : Int32))) ∧ (¬ (x0 = (3 : Int32)) → ((x0 = (4 : Int32) → wp_X7_within x1 (-1 : Int32) (5 : Int32) h (fun v_10 => (bo_ok v_10) ∧ (Q v_10))) ∧ (¬ (x0 = (4 : Int32)) → (Q (0 : Int32))))))))))))
set_option maxRecDepth 100000 in
set_option maxHeartbeats 4000000 in
theorem mt_X7_maySet {l : Launch} {G : ab_G} {x0 : Int32} {x1 : Int32} {h : hp_T} {Q : Int32 → Prop} (hw : wf h) (f : wp_X7_maySet x0 x1 h Q) : ab_M l G yX7_maySet cX7_maySet 2 (some .boolean) rm_X7_maySet 0 0 [.int x0, .int x1] h (po_p h Q) := by
  refine ab_intro (own := RX7) (nm := "maySet") rfl rfl rfl (Nat.le_of_ble_eq_true rfl) (fun F C => ?_)
  show ab_W l G F 2 (ab_MQ G F (po_p h Q) 0 0) 0 0 h [(0, .int x0), (1, .int x1)] [] 0
  unfold wp_X7_maySet at f
  refine ab_iload_n C 0 dX7_maySet_0 rfl rfl ?_
  by_cases c_1 : x0 = (0 : Int32)
  · have f := f.1 c_1
    refine ab_tabC C (off := 35) (tgt := 36) dX7_maySet_1 c_1 (by decide) (by decide) (by decide) (by decide) ?_
    refine ab_iload_n C 1 dX7_maySet_36 rfl rfl ?_
    refine ab_iconst C (v := (0 : Int32)) dX7_maySet_37 (by decide) ?_
    refine ab_bipush C (v := (6 : Int32)) dX7_maySet_38 (by decide) ?_
    refine ab_callS C (k := 0) (n := 0) (rest := []) [.int x1, .int (0 : Int32), .int (6 : Int32)] cl_X7_47 (mt_X7_within  hw f) ⟨rfl, rfl, Nat.le_of_ble_eq_true rfl, Nat.le_of_ble_eq_true rfl, Nat.zero_le _, Nat.zero_le _⟩ rfl rfl (Nat.le_of_ble_eq_true rfl) dX7_maySet_40 (ab_kp (k := 0) (n := 0) (fun v_2 f => ?_))
    obtain ⟨c_3, f⟩ := f
    exact ab_zret C dX7_maySet_43 (bo_nar c_3) ⟨rfl, _, rfl, f⟩
  have f := f.2 c_1
  by_cases c_4 : x0 = (1 : Int32)
  · have f := f.1 c_4
    refine ab_tabC C (off := 43) (tgt := 44) dX7_maySet_1 c_4 (by decide) (by decide) (by decide) (by decide) ?_
    refine ab_iload_n C 1 dX7_maySet_44 rfl rfl ?_
    refine ab_iconst C (v := (0 : Int32)) dX7_maySet_45 (by decide) ?_
    refine ab_bipush C (v := (9 : Int32)) dX7_maySet_46 (by decide) ?_
    refine ab_callS C (k := 0) (n := 0) (rest := []) [.int x1, .int (0 : Int32), .int (9 : Int32)] cl_X7_47 (mt_X7_within  hw f) ⟨rfl, rfl, Nat.le_of_ble_eq_true rfl, Nat.le_of_ble_eq_true rfl, Nat.zero_le _, Nat.zero_le _⟩ rfl rfl (Nat.le_of_ble_eq_true rfl) dX7_maySet_48 (ab_kp (k := 0) (n := 0) (fun v_5 f => ?_))
    obtain ⟨c_6, f⟩ := f
    exact ab_zret C dX7_maySet_51 (bo_nar c_6) ⟨rfl, _, rfl, f⟩
  have f := f.2 c_4
  by_cases c_7 : x0 = (2 : Int32)
  · have f := f.1 c_7
    refine ab_tabC C (off := 58) (tgt := 59) dX7_maySet_1 c_7 (by decide) (by decide) (by decide) (by decide) ?_
    refine ab_iconst C (v := (0 : Int32)) dX7_maySet_59 (by decide) ?_
    exact ab_zret C dX7_maySet_60 rfl ⟨rfl, _, rfl, f⟩
  have f := f.2 c_7
  by_cases c_8 : x0 = (3 : Int32)
  · have f := f.1 c_8
    refine ab_tabC C (off := 58) (tgt := 59) dX7_maySet_1 c_8 (by decide) (by decide) (by decide) (by decide) ?_
    refine ab_iconst C (v := (0 : Int32)) dX7_maySet_59 (by decide) ?_
    exact ab_zret C dX7_maySet_60 rfl ⟨rfl, _, rfl, f⟩
  have f := f.2 c_8
  by_cases c_9 : x0 = (4 : Int32)
  · have f := f.1 c_9
    refine ab_tabC C (off := 51) (tgt := 52) dX7_maySet_1 c_9 (by decide) (by decide) (by decide) (by decide) ?_
    refine ab_iload_n C 1 dX7_maySet_52 rfl rfl ?_
    refine ab_iconst C (v := (-1 : Int32)) dX7_maySet_53 (by decide) ?_
    refine ab_iconst C (v := (5 : Int32)) dX7_maySet_54 (by decide) ?_
    refine ab_callS C (k := 0) (n := 0) (rest := []) [.int x1, .int (-1 : Int32), .int (5 : Int32)] cl_X7_47 (mt_X7_within  hw f) ⟨rfl, rfl, Nat.le_of_ble_eq_true rfl, Nat.le_of_ble_eq_true rfl, Nat.zero_le _, Nat.zero_le _⟩ rfl rfl (Nat.le_of_ble_eq_true rfl) dX7_maySet_55 (ab_kp (k := 0) (n := 0) (fun v_10 f => ?_))
    obtain ⟨c_11, f⟩ := f
    exact ab_zret C dX7_maySet_58 (bo_nar c_11) ⟨rfl, _, rfl, f⟩
  have f := f.2 c_9
  refine ab_tabOut C (tgt := 59) dX7_maySet_1 (ab_tout (fun j j1 j2 => ?_)) (by decide) ?_
  · have hh : j = 0 ∨ j = 1 ∨ j = 2 ∨ j = 3 ∨ j = 4 := by omega
    rcases hh with rfl | rfl | rfl | rfl | rfl
    · exact ab_ne c_1
    · exact ab_ne c_4
    · exact ab_ne c_7
    · exact ab_ne c_8
    · exact ab_ne c_9
  · skip
    refine ab_iconst C (v := (0 : Int32)) dX7_maySet_59 (by decide) ?_
    exact ab_zret C dX7_maySet_60 rfl ⟨rfl, _, rfl, f⟩
/-! X7_misheard -/
def rm_X7_misheard : Room := { frames := 3, cells := 0, slots := 0, locals := 122 }
def wp_X7_misheard (x1 : Int32) (h : hp_T) (Q : Int32 → hp_T → Prop) : Prop :=
  wp_X7_within x1 (0 : Int32) (16 : Int32) h (fun v_1 => ((v_1 = 0 → wp_X7_error (1 : Int32) h (fun v_6 h_7 => (Q v_6 h_7))) ∧ (¬ (v_1 = 0) → (∀ h_3, h_3 = hp_si h 1 9 x1 → (Q (hp_i h 1 9) h_3)))))
set_option maxRecDepth 100000 in
set_option maxHeartbeats 4000000 in
theorem mt_X7_misheard {l : Launch} {G : ab_G} {x1 : Int32} {h : hp_T} {Q : Int32 → hp_T → Prop} (hw : wf h) (f : wp_X7_misheard x1 h Q) : ab_M l G yX7_misheard cX7_misheard 3 (some .int) rm_X7_misheard 0 0 [.ref (G.1 + 0), .int x1] h (po_h Q) := by
  refine ab_intro (own := RX7) (nm := "misheard") rfl rfl rfl (Nat.le_of_ble_eq_true rfl) (fun F C => ?_)
  show ab_W l G F 3 (ab_MQ G F (po_h Q) 0 0) 0 0 h [(0, .ref (G.1 + 0)), (1, .int x1)] [] 0
  unfold wp_X7_misheard at f
  refine ab_iload_n C 1 dX7_misheard_0 rfl rfl ?_
  refine ab_iconst C (v := (0 : Int32)) dX7_misheard_1 (by decide) ?_
  refine ab_bipush C (v := (16 : Int32)) dX7_misheard_2 (by decide) ?_
  refine ab_callS C (k := 0) (n := 0) (rest := []) [.int x1, .int (0 : Int32), .int (16 : Int32)] cl_X7_47 (mt_X7_within  hw f) ⟨rfl, rfl, Nat.le_of_ble_eq_true rfl, Nat.le_of_ble_eq_true rfl, Nat.zero_le _, Nat.zero_le _⟩ rfl rfl (Nat.le_of_ble_eq_true rfl) dX7_misheard_4 (ab_kp (k := 0) (n := 0) (fun v_1 f => ?_))
  refine ab_if_ne C (tgt := 16) dX7_misheard_7 (by decide) (fun c_2 => ?_) (fun c_2 => ?_)
  · have f := f.2 c_2
    refine ab_aload_n C 0 dX7_misheard_16 rfl rfl ?_
    refine ab_getR C (q := 1) fl_X7_10 rfl kd_0 (wf_lt hw kd_0 rfl) (wr_7_0 hw) dX7_misheard_17 ?_
    refine ab_getI C fl_X7_167 rfl kd_1 (wf_lt hw kd_1 rfl) dX7_misheard_20 ?_
    refine ab_istore_n C (lv' := [(2, .int (hp_i h 1 9)), (0, .ref (G.1 + 0)), (1, .int x1)]) dX7_misheard_23 rfl (by decide) rfl ?_
    refine ab_aload_n C 1 dX7_misheard_24 rfl rfl ?_
    refine ab_getR C (q := 1) fl_X7_10 rfl kd_0 (wf_lt hw kd_0 rfl) (wr_7_0 hw) dX7_misheard_25 ?_
    refine ab_iload_n C 2 dX7_misheard_28 rfl rfl ?_
    refine ab_putI C fl_X7_167 rfl kd_1 (wf_lt hw kd_1 rfl) rfl rfl dX7_misheard_29 (fun h_3 e_4 => ?_)
    have f := f h_3 e_4
    have hw_5 := wf_si e_4 hw
    refine ab_iload_n C 0 dX7_misheard_32 rfl rfl ?_
    exact ab_iret C dX7_misheard_33 ⟨hw_5, _, rfl, f⟩
  · have f := f.1 c_2
    refine ab_aload_n C 0 dX7_misheard_10 rfl rfl ?_
    refine ab_iconst C (v := (1 : Int32)) dX7_misheard_11 (by decide) ?_
    refine ab_callV C (k := 0) (n := 0) (rest := []) [.int (1 : Int32)] cl_X7_51 (mt_X7_error  hw f) rfl (by decide) kd_0 (wf_lt hw kd_0 rfl) ⟨rfl, rfl, Nat.le_of_ble_eq_true rfl, Nat.le_of_ble_eq_true rfl, Nat.zero_le _, Nat.zero_le _⟩ rfl rfl (Nat.le_of_ble_eq_true rfl) dX7_misheard_12 (ab_kh (k := 0) (n := 0) (fun v_6 h_7 hw_8 f => ?_))
    exact ab_iret C dX7_misheard_15 ⟨hw_8, _, rfl, f⟩
/-! X7_move -/
def rm_X7_move : Room := { frames := 4, cells := 0, slots := 0, locals := 142 }
def wp_X7_move (x1 : Int32) (x2 : Int32) (x3 : Int32) (x4 : Int32) (x5 : Int32) (h : hp_T) (Q : Int32 → hp_T → Prop) : Prop :=
  wp_X7_isSheet x1 h (fun v_1 => ((v_1 = 0 → wp_X7_error (1 : Int32) h (fun v_3 h_4 => (Q v_3 h_4))) ∧ (¬ (v_1 = 0) → wp_X7_isSheet x3 h (fun v_6 => ((v_6 = 0 → wp_X7_error (1 : Int32) h (fun v_38 h_39 => (Q v_38 h_39))) ∧ (¬ (v_6 = 0) → (vp_in x1 4) ∧ (vp_in x3 4) ∧ wp_X1_isMissing (97 + 2 * x1.toNatClampNeg) h (fun v_10 => ((v_10 = 0 → wp_X1_isMissing (97 + 2 * x3.toNatClampNeg) h (fun v_15 => ((v_15 = 0 → (((hp_i h (97 + 2 * x1.toNatClampNeg) 0) = (hp_i h (97 + 2 * x3.toNatClampNeg) 0) → wp_X1_holds (97 + 2 * x1.toNatClampNeg) x2 x5 h (fun v_18 => ((v_18 = 0 → wp_X7_error (1 : Int32) h (fun v_20 h_21 => (Q v_20 h_21))) ∧ (¬ (v_18 = 0) → wp_X1_holds (97 + 2 * x3.toNatClampNeg) x4 x5 h (fun v_23 => ((v_23 = 0 → wp_X7_error (1 : Int32) h (fun v_29 h_30 => (Q v_29 h_30))) ∧ (¬ (v_23 = 0) → (cp_ok x2 x4 x5 24 24) ∧ (∀ h_26, h_26 = hp_cp h ((97 + 2 * x1.toNatClampNeg) + 1) x2.toNatClampNeg ((97 + 2 * x3.toNatClampNeg) + 1) x4.toNatClampNeg x5.toNatClampNeg → (Q x5 h_26))))))))) ∧ (¬ ((hp_i h (97 + 2 * x1.toNatClampNeg) 0) = (hp_i h (97 + 2 * x3.toNatClampNeg) 0)) → wp_X7_error (5 : Int32) h (fun v_32 h_33 => (Q v_32 h_33))))) ∧ (¬ (v_15 = 0) → wp_X7_error (2 : Int32) h (fun v_35 h_36 => (Q v_35 h_36)))))) ∧ (¬ (v_10 = 0) → wp_X7_error (2 : Int32) h (fun v_12 h_13 => (Q v_12 h_13)))))))))))
set_option maxRecDepth 100000 in
set_option maxHeartbeats 4000000 in
theorem mt_X7_move {l : Launch} {G : ab_G} {x1 : Int32} {x2 : Int32} {x3 : Int32} {x4 : Int32} {x5 : Int32} {h : hp_T} {Q : Int32 → hp_T → Prop} (hw : wf h) (f : wp_X7_move x1 x2 x3 x4 x5 h Q) : ab_M l G yX7_move cX7_move 8 (some .int) rm_X7_move 0 0 [.ref (G.1 + 0), .int x1, .int x2, .int x3, .int x4, .int x5] h (po_h Q) := by
  refine ab_intro (own := RX7) (nm := "move") rfl rfl rfl (Nat.le_of_ble_eq_true rfl) (fun F C => ?_)
  show ab_W l G F 8 (ab_MQ G F (po_h Q) 0 0) 0 0 h [(0, .ref (G.1 + 0)), (1, .int x1), (2, .int x2), (3, .int x3), (4, .int x4), (5, .int x5)] [] 0
  unfold wp_X7_move at f
  refine ab_iload_n C 1 dX7_move_0 rfl rfl ?_
  refine ab_callS C (k := 0) (n := 0) (rest := []) [.int x1] cl_X7_218 (mt_X7_isSheet  hw f) ⟨rfl, rfl, Nat.le_of_ble_eq_true rfl, Nat.le_of_ble_eq_true rfl, Nat.zero_le _, Nat.zero_le _⟩ rfl rfl (Nat.le_of_ble_eq_true rfl) dX7_move_1 (ab_kp (k := 0) (n := 0) (fun v_1 f => ?_))
  refine ab_if_eq C (tgt := 14) dX7_move_4 (by decide) (fun c_2 => ?_) (fun c_2 => ?_)
  · have f := f.1 c_2
    refine ab_aload_n C 0 dX7_move_14 rfl rfl ?_
    refine ab_iconst C (v := (1 : Int32)) dX7_move_15 (by decide) ?_
    refine ab_callV C (k := 0) (n := 0) (rest := []) [.int (1 : Int32)] cl_X7_51 (mt_X7_error  hw f) rfl (by decide) kd_0 (wf_lt hw kd_0 rfl) ⟨rfl, rfl, Nat.le_of_ble_eq_true rfl, Nat.le_of_ble_eq_true rfl, Nat.zero_le _, Nat.zero_le _⟩ rfl rfl (Nat.le_of_ble_eq_true rfl) dX7_move_16 (ab_kh (k := 0) (n := 0) (fun v_3 h_4 hw_5 f => ?_))
    exact ab_iret C dX7_move_19 ⟨hw_5, _, rfl, f⟩
  · have f := f.2 c_2
    refine ab_iload_n C 3 dX7_move_7 rfl rfl ?_
    refine ab_callS C (k := 0) (n := 0) (rest := []) [.int x3] cl_X7_218 (mt_X7_isSheet  hw f) ⟨rfl, rfl, Nat.le_of_ble_eq_true rfl, Nat.le_of_ble_eq_true rfl, Nat.zero_le _, Nat.zero_le _⟩ rfl rfl (Nat.le_of_ble_eq_true rfl) dX7_move_8 (ab_kp (k := 0) (n := 0) (fun v_6 f => ?_))
    refine ab_if_ne C (tgt := 20) dX7_move_11 (by decide) (fun c_7 => ?_) (fun c_7 => ?_)
    · have f := f.2 c_7
      refine ab_aload_n C 0 dX7_move_20 rfl rfl ?_
      refine ab_getR C (q := 95) fl_X7_38 rfl kd_0 (wf_lt hw kd_0 rfl) (wr_7_5 hw) dX7_move_21 ?_
      refine ab_iload_n C 1 dX7_move_24 rfl rfl ?_
      obtain ⟨c_8, f⟩ := f
      refine ab_aaldR C (q := (97 + 2 * x1.toNatClampNeg)) kd_95 (Or.inr (Or.inr (Or.inr rfl))) (wf_lt hw kd_95 rfl) (wf_len hw kd_95 rfl rfl (by decide)) c_8 (j := x1.toNatClampNeg) rfl (wx_sheet hw (vp_in_lt c_8)) dX7_move_25 ?_
      refine ab_astore C (lv' := [(6, .ref (G.1 + (97 + 2 * x1.toNatClampNeg))), (0, .ref (G.1 + 0)), (1, .int x1), (2, .int x2), (3, .int x3), (4, .int x4), (5, .int x5)]) dX7_move_26 (by decide) rfl ?_
      refine ab_aload_n C 1 dX7_move_28 rfl rfl ?_
      refine ab_getR C (q := 95) fl_X7_38 rfl kd_0 (wf_lt hw kd_0 rfl) (wr_7_5 hw) dX7_move_29 ?_
      refine ab_iload_n C 4 dX7_move_32 rfl rfl ?_
      obtain ⟨c_9, f⟩ := f
      refine ab_aaldR C (q := (97 + 2 * x3.toNatClampNeg)) kd_95 (Or.inr (Or.inr (Or.inr rfl))) (wf_lt hw kd_95 rfl) (wf_len hw kd_95 rfl rfl (by decide)) c_9 (j := x3.toNatClampNeg) rfl (wx_sheet hw (vp_in_lt c_9)) dX7_move_33 ?_
      refine ab_astore C (lv' := [(7, .ref (G.1 + (97 + 2 * x3.toNatClampNeg))), (6, .ref (G.1 + (97 + 2 * x1.toNatClampNeg))), (0, .ref (G.1 + 0)), (1, .int x1), (2, .int x2), (3, .int x3), (4, .int x4), (5, .int x5)]) dX7_move_34 (by decide) rfl ?_
      refine ab_aload C 1 dX7_move_36 rfl ?_
      refine ab_callV C (k := 0) (n := 0) (rest := []) [] cl_X7_224 (mt_X1_isMissing (kx_sheet (vp_in_lt c_8)) hw f) rfl (by decide) (kx_sheet (vp_in_lt c_8)) (wf_lt hw (kx_sheet (vp_in_lt c_8)) rfl) ⟨rfl, rfl, Nat.le_of_ble_eq_true rfl, Nat.le_of_ble_eq_true rfl, Nat.zero_le _, Nat.zero_le _⟩ rfl rfl (Nat.le_of_ble_eq_true rfl) dX7_move_38 (ab_kp (k := 0) (n := 0) (fun v_10 f => ?_))
      refine ab_if_ne C (tgt := 52) dX7_move_41 (by decide) (fun c_11 => ?_) (fun c_11 => ?_)
      · have f := f.2 c_11
        refine ab_aload_n C 2 dX7_move_52 rfl rfl ?_
        refine ab_iconst C (v := (2 : Int32)) dX7_move_53 (by decide) ?_
        refine ab_callV C (k := 0) (n := 0) (rest := []) [.int (2 : Int32)] cl_X7_51 (mt_X7_error  hw f) rfl (by decide) kd_0 (wf_lt hw kd_0 rfl) ⟨rfl, rfl, Nat.le_of_ble_eq_true rfl, Nat.le_of_ble_eq_true rfl, Nat.zero_le _, Nat.zero_le _⟩ rfl rfl (Nat.le_of_ble_eq_true rfl) dX7_move_54 (ab_kh (k := 0) (n := 0) (fun v_12 h_13 hw_14 f => ?_))
        exact ab_iret C dX7_move_57 ⟨hw_14, _, rfl, f⟩
      · have f := f.1 c_11
        refine ab_aload C 0 dX7_move_44 rfl ?_
        refine ab_callV C (k := 0) (n := 0) (rest := []) [] cl_X7_224 (mt_X1_isMissing (kx_sheet (vp_in_lt c_9)) hw f) rfl (by decide) (kx_sheet (vp_in_lt c_9)) (wf_lt hw (kx_sheet (vp_in_lt c_9)) rfl) ⟨rfl, rfl, Nat.le_of_ble_eq_true rfl, Nat.le_of_ble_eq_true rfl, Nat.zero_le _, Nat.zero_le _⟩ rfl rfl (Nat.le_of_ble_eq_true rfl) dX7_move_46 (ab_kp (k := 0) (n := 0) (fun v_15 f => ?_))
        refine ab_if_eq C (tgt := 58) dX7_move_49 (by decide) (fun c_16 => ?_) (fun c_16 => ?_)
        · have f := f.1 c_16
          refine ab_aload C 1 dX7_move_58 rfl ?_
          refine ab_getI C fl_X7_234 rfl (kx_sheet (vp_in_lt c_8)) (wf_lt hw (kx_sheet (vp_in_lt c_8)) rfl) dX7_move_60 ?_
          refine ab_aload C 0 dX7_move_63 rfl ?_
          refine ab_getI C fl_X7_234 rfl (kx_sheet (vp_in_lt c_9)) (wf_lt hw (kx_sheet (vp_in_lt c_9)) rfl) dX7_move_65 ?_
          refine ab_icmp_eq C (tgt := 77) dX7_move_68 (by decide) (fun c_17 => ?_) (fun c_17 => ?_)
          · have f := f.1 c_17
            refine ab_aload C 1 dX7_move_77 rfl ?_
            refine ab_iload_n C 4 dX7_move_79 rfl rfl ?_
            refine ab_iload C 7 dX7_move_80 rfl ?_
            refine ab_callV C (k := 0) (n := 0) (rest := []) [.int x2, .int x5] cl_X7_237 (mt_X1_holds (kx_sheet (vp_in_lt c_8)) hw f) rfl (by decide) (kx_sheet (vp_in_lt c_8)) (wf_lt hw (kx_sheet (vp_in_lt c_8)) rfl) ⟨rfl, rfl, Nat.le_of_ble_eq_true rfl, Nat.le_of_ble_eq_true rfl, Nat.zero_le _, Nat.zero_le _⟩ rfl rfl (Nat.le_of_ble_eq_true rfl) dX7_move_82 (ab_kp (k := 0) (n := 0) (fun v_18 f => ?_))
            refine ab_if_eq C (tgt := 100) dX7_move_85 (by decide) (fun c_19 => ?_) (fun c_19 => ?_)
            · have f := f.1 c_19
              refine ab_aload_n C 2 dX7_move_100 rfl rfl ?_
              refine ab_iconst C (v := (1 : Int32)) dX7_move_101 (by decide) ?_
              refine ab_callV C (k := 0) (n := 0) (rest := []) [.int (1 : Int32)] cl_X7_51 (mt_X7_error  hw f) rfl (by decide) kd_0 (wf_lt hw kd_0 rfl) ⟨rfl, rfl, Nat.le_of_ble_eq_true rfl, Nat.le_of_ble_eq_true rfl, Nat.zero_le _, Nat.zero_le _⟩ rfl rfl (Nat.le_of_ble_eq_true rfl) dX7_move_102 (ab_kh (k := 0) (n := 0) (fun v_20 h_21 hw_22 f => ?_))
              exact ab_iret C dX7_move_105 ⟨hw_22, _, rfl, f⟩
            · have f := f.2 c_19
              refine ab_aload C 0 dX7_move_88 rfl ?_
              refine ab_iload C 6 dX7_move_90 rfl ?_
              refine ab_iload C 7 dX7_move_92 rfl ?_
              refine ab_callV C (k := 0) (n := 0) (rest := []) [.int x4, .int x5] cl_X7_237 (mt_X1_holds (kx_sheet (vp_in_lt c_9)) hw f) rfl (by decide) (kx_sheet (vp_in_lt c_9)) (wf_lt hw (kx_sheet (vp_in_lt c_9)) rfl) ⟨rfl, rfl, Nat.le_of_ble_eq_true rfl, Nat.le_of_ble_eq_true rfl, Nat.zero_le _, Nat.zero_le _⟩ rfl rfl (Nat.le_of_ble_eq_true rfl) dX7_move_94 (ab_kp (k := 0) (n := 0) (fun v_23 f => ?_))
              refine ab_if_ne C (tgt := 106) dX7_move_97 (by decide) (fun c_24 => ?_) (fun c_24 => ?_)
              · have f := f.2 c_24
                refine ab_aload C 1 dX7_move_106 rfl ?_
                refine ab_getR C (q := ((97 + 2 * x1.toNatClampNeg) + 1)) fl_X7_240 rfl (kx_sheet (vp_in_lt c_8)) (wf_lt hw (kx_sheet (vp_in_lt c_8)) rfl) (wr_1_2 hw (kx_sheet (vp_in_lt c_8))) dX7_move_108 ?_
                refine ab_iload_n C 4 dX7_move_111 rfl rfl ?_
                refine ab_aload C 0 dX7_move_112 rfl ?_
                refine ab_getR C (q := ((97 + 2 * x3.toNatClampNeg) + 1)) fl_X7_240 rfl (kx_sheet (vp_in_lt c_9)) (wf_lt hw (kx_sheet (vp_in_lt c_9)) rfl) (wr_1_2 hw (kx_sheet (vp_in_lt c_9))) dX7_move_114 ?_
                refine ab_iload C 6 dX7_move_117 rfl ?_
                refine ab_iload C 7 dX7_move_119 rfl ?_
                obtain ⟨c_25, f⟩ := f
                refine ab_copy C (t0 := 0) (ty := .int) (s0 := x2.toNatClampNeg) (d0 := x4.toNatClampNeg) (z0 := x5.toNatClampNeg) cs_X7_243 (Or.inl ⟨by rw [(kn_1_2 (kx_sheet (vp_in_lt c_8)))]; decide, by rw [(kn_1_2 (kx_sheet (vp_in_lt c_9)))]; decide, rfl, rfl⟩) (wf_lt hw (kn_1_2 (kx_sheet (vp_in_lt c_8))) rfl) (wf_lt hw (kn_1_2 (kx_sheet (vp_in_lt c_9))) rfl) (wf_len hw (kn_1_2 (kx_sheet (vp_in_lt c_8))) rfl rfl (by decide)) (wf_len hw (kn_1_2 (kx_sheet (vp_in_lt c_9))) rfl rfl (by decide)) c_25.1 c_25.2.1 c_25.2.2.1 rfl rfl rfl c_25.2.2.2.1 c_25.2.2.2.2 (fun _ _ => rfl) (by decide) (by decide) (Nat.le_of_ble_eq_true rfl) dX7_move_121 (fun h_26 e_27 => ?_)
                have f := f h_26 e_27
                have hw_28 := wf_cp e_27 hw
                refine ab_iload C 7 dX7_move_124 rfl ?_
                exact ab_iret C dX7_move_126 ⟨hw_28, _, rfl, f⟩
              · have f := f.1 c_24
                refine ab_aload_n C 2 dX7_move_100 rfl rfl ?_
                refine ab_iconst C (v := (1 : Int32)) dX7_move_101 (by decide) ?_
                refine ab_callV C (k := 0) (n := 0) (rest := []) [.int (1 : Int32)] cl_X7_51 (mt_X7_error  hw f) rfl (by decide) kd_0 (wf_lt hw kd_0 rfl) ⟨rfl, rfl, Nat.le_of_ble_eq_true rfl, Nat.le_of_ble_eq_true rfl, Nat.zero_le _, Nat.zero_le _⟩ rfl rfl (Nat.le_of_ble_eq_true rfl) dX7_move_102 (ab_kh (k := 0) (n := 0) (fun v_29 h_30 hw_31 f => ?_))
                exact ab_iret C dX7_move_105 ⟨hw_31, _, rfl, f⟩
          · have f := f.2 c_17
            refine ab_aload_n C 2 dX7_move_71 rfl rfl ?_
            refine ab_iconst C (v := (5 : Int32)) dX7_move_72 (by decide) ?_
            refine ab_callV C (k := 0) (n := 0) (rest := []) [.int (5 : Int32)] cl_X7_51 (mt_X7_error  hw f) rfl (by decide) kd_0 (wf_lt hw kd_0 rfl) ⟨rfl, rfl, Nat.le_of_ble_eq_true rfl, Nat.le_of_ble_eq_true rfl, Nat.zero_le _, Nat.zero_le _⟩ rfl rfl (Nat.le_of_ble_eq_true rfl) dX7_move_73 (ab_kh (k := 0) (n := 0) (fun v_32 h_33 hw_34 f => ?_))
            exact ab_iret C dX7_move_76 ⟨hw_34, _, rfl, f⟩
        · have f := f.2 c_16
          refine ab_aload_n C 2 dX7_move_52 rfl rfl ?_
          refine ab_iconst C (v := (2 : Int32)) dX7_move_53 (by decide) ?_
          refine ab_callV C (k := 0) (n := 0) (rest := []) [.int (2 : Int32)] cl_X7_51 (mt_X7_error  hw f) rfl (by decide) kd_0 (wf_lt hw kd_0 rfl) ⟨rfl, rfl, Nat.le_of_ble_eq_true rfl, Nat.le_of_ble_eq_true rfl, Nat.zero_le _, Nat.zero_le _⟩ rfl rfl (Nat.le_of_ble_eq_true rfl) dX7_move_54 (ab_kh (k := 0) (n := 0) (fun v_35 h_36 hw_37 f => ?_))
          exact ab_iret C dX7_move_57 ⟨hw_37, _, rfl, f⟩
    · have f := f.1 c_7
      refine ab_aload_n C 0 dX7_move_14 rfl rfl ?_
      refine ab_iconst C (v := (1 : Int32)) dX7_move_15 (by decide) ?_
      refine ab_callV C (k := 0) (n := 0) (rest := []) [.int (1 : Int32)] cl_X7_51 (mt_X7_error  hw f) rfl (by decide) kd_0 (wf_lt hw kd_0 rfl) ⟨rfl, rfl, Nat.le_of_ble_eq_true rfl, Nat.le_of_ble_eq_true rfl, Nat.zero_le _, Nat.zero_le _⟩ rfl rfl (Nat.le_of_ble_eq_true rfl) dX7_move_16 (ab_kh (k := 0) (n := 0) (fun v_38 h_39 hw_40 f => ?_))
      exact ab_iret C dX7_move_19 ⟨hw_40, _, rfl, f⟩
/-! X7_put -/
def rm_X7_put : Room := { frames := 4, cells := 0, slots := 0, locals := 142 }
def wp_X7_put (x1 : Int32) (x2 : Int32) (x3 : Int32) (h : hp_T) (Q : Int32 → hp_T → Prop) : Prop :=
  wp_X7_isSheet x1 h (fun v_1 => ((v_1 = 0 → wp_X7_error (1 : Int32) h (fun v_16 h_17 => (Q v_16 h_17))) ∧ (¬ (v_1 = 0) → (vp_in x1 4) ∧ wp_X1_isMissing (97 + 2 * x1.toNatClampNeg) h (fun v_4 => ((v_4 = 0 → wp_X7_within x2 (0 : Int32) ((hp_i h (97 + 2 * x1.toNatClampNeg) 1) - (1 : Int32)) h (fun v_6 => ((v_6 = 0 → wp_X7_error (1 : Int32) h (fun v_10 h_11 => (Q v_10 h_11))) ∧ (¬ (v_6 = 0) → wp_X1_write (97 + 2 * x1.toNatClampNeg) x2 x3 h (fun h_8 => (Q (1 : Int32) h_8)))))) ∧ (¬ (v_4 = 0) → wp_X7_error (2 : Int32) h (fun v_13 h_14 => (Q v_13 h_14))))))))
set_option maxRecDepth 100000 in
set_option maxHeartbeats 4000000 in
theorem mt_X7_put {l : Launch} {G : ab_G} {x1 : Int32} {x2 : Int32} {x3 : Int32} {h : hp_T} {Q : Int32 → hp_T → Prop} (hw : wf h) (f : wp_X7_put x1 x2 x3 h Q) : ab_M l G yX7_put cX7_put 5 (some .int) rm_X7_put 0 0 [.ref (G.1 + 0), .int x1, .int x2, .int x3] h (po_h Q) := by
  refine ab_intro (own := RX7) (nm := "put") rfl rfl rfl (Nat.le_of_ble_eq_true rfl) (fun F C => ?_)
  show ab_W l G F 5 (ab_MQ G F (po_h Q) 0 0) 0 0 h [(0, .ref (G.1 + 0)), (1, .int x1), (2, .int x2), (3, .int x3)] [] 0
  unfold wp_X7_put at f
  refine ab_iload_n C 1 dX7_put_0 rfl rfl ?_
  refine ab_callS C (k := 0) (n := 0) (rest := []) [.int x1] cl_X7_218 (mt_X7_isSheet  hw f) ⟨rfl, rfl, Nat.le_of_ble_eq_true rfl, Nat.le_of_ble_eq_true rfl, Nat.zero_le _, Nat.zero_le _⟩ rfl rfl (Nat.le_of_ble_eq_true rfl) dX7_put_1 (ab_kp (k := 0) (n := 0) (fun v_1 f => ?_))
  refine ab_if_ne C (tgt := 13) dX7_put_4 (by decide) (fun c_2 => ?_) (fun c_2 => ?_)
  · have f := f.2 c_2
    refine ab_aload_n C 0 dX7_put_13 rfl rfl ?_
    refine ab_getR C (q := 95) fl_X7_38 rfl kd_0 (wf_lt hw kd_0 rfl) (wr_7_5 hw) dX7_put_14 ?_
    refine ab_iload_n C 1 dX7_put_17 rfl rfl ?_
    obtain ⟨c_3, f⟩ := f
    refine ab_aaldR C (q := (97 + 2 * x1.toNatClampNeg)) kd_95 (Or.inr (Or.inr (Or.inr rfl))) (wf_lt hw kd_95 rfl) (wf_len hw kd_95 rfl rfl (by decide)) c_3 (j := x1.toNatClampNeg) rfl (wx_sheet hw (vp_in_lt c_3)) dX7_put_18 ?_
    refine ab_astore C (lv' := [(4, .ref (G.1 + (97 + 2 * x1.toNatClampNeg))), (0, .ref (G.1 + 0)), (1, .int x1), (2, .int x2), (3, .int x3)]) dX7_put_19 (by decide) rfl ?_
    refine ab_aload C 0 dX7_put_21 rfl ?_
    refine ab_callV C (k := 0) (n := 0) (rest := []) [] cl_X7_224 (mt_X1_isMissing (kx_sheet (vp_in_lt c_3)) hw f) rfl (by decide) (kx_sheet (vp_in_lt c_3)) (wf_lt hw (kx_sheet (vp_in_lt c_3)) rfl) ⟨rfl, rfl, Nat.le_of_ble_eq_true rfl, Nat.le_of_ble_eq_true rfl, Nat.zero_le _, Nat.zero_le _⟩ rfl rfl (Nat.le_of_ble_eq_true rfl) dX7_put_23 (ab_kp (k := 0) (n := 0) (fun v_4 f => ?_))
    refine ab_if_eq C (tgt := 35) dX7_put_26 (by decide) (fun c_5 => ?_) (fun c_5 => ?_)
    · have f := f.1 c_5
      refine ab_iload_n C 3 dX7_put_35 rfl rfl ?_
      refine ab_iconst C (v := (0 : Int32)) dX7_put_36 (by decide) ?_
      refine ab_aload C 0 dX7_put_37 rfl ?_
      refine ab_getI C fl_X7_228 rfl (kx_sheet (vp_in_lt c_3)) (wf_lt hw (kx_sheet (vp_in_lt c_3)) rfl) dX7_put_39 ?_
      refine ab_iconst C (v := (1 : Int32)) dX7_put_42 (by decide) ?_
      refine ab_isub C dX7_put_43 ?_
      refine ab_callS C (k := 0) (n := 0) (rest := []) [.int x2, .int (0 : Int32), .int ((hp_i h (97 + 2 * x1.toNatClampNeg) 1) - (1 : Int32))] cl_X7_47 (mt_X7_within  hw f) ⟨rfl, rfl, Nat.le_of_ble_eq_true rfl, Nat.le_of_ble_eq_true rfl, Nat.zero_le _, Nat.zero_le _⟩ rfl rfl (Nat.le_of_ble_eq_true rfl) dX7_put_44 (ab_kp (k := 0) (n := 0) (fun v_6 f => ?_))
      refine ab_if_ne C (tgt := 56) dX7_put_47 (by decide) (fun c_7 => ?_) (fun c_7 => ?_)
      · have f := f.2 c_7
        refine ab_aload C 0 dX7_put_56 rfl ?_
        refine ab_iload_n C 3 dX7_put_58 rfl rfl ?_
        refine ab_iload_n C 4 dX7_put_59 rfl rfl ?_
        refine ab_callV C (k := 0) (n := 0) (rest := []) [.int x2, .int x3] cl_X7_231 (mt_X1_write (kx_sheet (vp_in_lt c_3)) hw f) rfl (by decide) (kx_sheet (vp_in_lt c_3)) (wf_lt hw (kx_sheet (vp_in_lt c_3)) rfl) ⟨rfl, rfl, Nat.le_of_ble_eq_true rfl, Nat.le_of_ble_eq_true rfl, Nat.zero_le _, Nat.zero_le _⟩ rfl rfl (Nat.le_of_ble_eq_true rfl) dX7_put_60 (ab_kv (k := 0) (n := 0) (fun h_8 hw_9 f => ?_))
        refine ab_iconst C (v := (1 : Int32)) dX7_put_63 (by decide) ?_
        exact ab_iret C dX7_put_64 ⟨hw_9, _, rfl, f⟩
      · have f := f.1 c_7
        refine ab_aload_n C 1 dX7_put_50 rfl rfl ?_
        refine ab_iconst C (v := (1 : Int32)) dX7_put_51 (by decide) ?_
        refine ab_callV C (k := 0) (n := 0) (rest := []) [.int (1 : Int32)] cl_X7_51 (mt_X7_error  hw f) rfl (by decide) kd_0 (wf_lt hw kd_0 rfl) ⟨rfl, rfl, Nat.le_of_ble_eq_true rfl, Nat.le_of_ble_eq_true rfl, Nat.zero_le _, Nat.zero_le _⟩ rfl rfl (Nat.le_of_ble_eq_true rfl) dX7_put_52 (ab_kh (k := 0) (n := 0) (fun v_10 h_11 hw_12 f => ?_))
        exact ab_iret C dX7_put_55 ⟨hw_12, _, rfl, f⟩
    · have f := f.2 c_5
      refine ab_aload_n C 1 dX7_put_29 rfl rfl ?_
      refine ab_iconst C (v := (2 : Int32)) dX7_put_30 (by decide) ?_
      refine ab_callV C (k := 0) (n := 0) (rest := []) [.int (2 : Int32)] cl_X7_51 (mt_X7_error  hw f) rfl (by decide) kd_0 (wf_lt hw kd_0 rfl) ⟨rfl, rfl, Nat.le_of_ble_eq_true rfl, Nat.le_of_ble_eq_true rfl, Nat.zero_le _, Nat.zero_le _⟩ rfl rfl (Nat.le_of_ble_eq_true rfl) dX7_put_31 (ab_kh (k := 0) (n := 0) (fun v_13 h_14 hw_15 f => ?_))
      exact ab_iret C dX7_put_34 ⟨hw_15, _, rfl, f⟩
  · have f := f.1 c_2
    refine ab_aload_n C 0 dX7_put_7 rfl rfl ?_
    refine ab_iconst C (v := (1 : Int32)) dX7_put_8 (by decide) ?_
    refine ab_callV C (k := 0) (n := 0) (rest := []) [.int (1 : Int32)] cl_X7_51 (mt_X7_error  hw f) rfl (by decide) kd_0 (wf_lt hw kd_0 rfl) ⟨rfl, rfl, Nat.le_of_ble_eq_true rfl, Nat.le_of_ble_eq_true rfl, Nat.zero_le _, Nat.zero_le _⟩ rfl rfl (Nat.le_of_ble_eq_true rfl) dX7_put_9 (ab_kh (k := 0) (n := 0) (fun v_16 h_17 hw_18 f => ?_))
    exact ab_iret C dX7_put_12 ⟨hw_18, _, rfl, f⟩
/-! X7_restore -/
def rm_X7_restore : Room := { frames := 4, cells := 0, slots := 0, locals := 143 }
def wp_X7_restore (h : hp_T) (Q : Int32 → hp_T → Prop) : Prop :=
  (((hp_i h 0 7) = 0 → wp_X7_error (2 : Int32) h (fun v_4 h_5 => (Q v_4 h_5))) ∧ (¬ ((hp_i h 0 7) = 0) → wp_X2_copyFrom 1 31 h (fun h_2 => (Q (hp_i h_2 1 8) h_2))))
set_option maxRecDepth 100000 in
set_option maxHeartbeats 4000000 in
theorem mt_X7_restore {l : Launch} {G : ab_G}  {h : hp_T} {Q : Int32 → hp_T → Prop} (hw : wf h) (f : wp_X7_restore h Q) : ab_M l G yX7_restore cX7_restore 1 (some .int) rm_X7_restore 0 0 [.ref (G.1 + 0)] h (po_h Q) := by
  refine ab_intro (own := RX7) (nm := "restore") rfl rfl rfl (Nat.le_of_ble_eq_true rfl) (fun F C => ?_)
  show ab_W l G F 1 (ab_MQ G F (po_h Q) 0 0) 0 0 h [(0, .ref (G.1 + 0))] [] 0
  unfold wp_X7_restore at f
  refine ab_aload_n C 0 dX7_restore_0 rfl rfl ?_
  refine ab_getI C fl_X7_253 rfl kd_0 (wf_lt hw kd_0 rfl) dX7_restore_1 ?_
  refine ab_if_ne C (tgt := 13) dX7_restore_4 (by decide) (fun c_1 => ?_) (fun c_1 => ?_)
  · have f := f.2 c_1
    refine ab_aload_n C 0 dX7_restore_13 rfl rfl ?_
    refine ab_getR C (q := 1) fl_X7_10 rfl kd_0 (wf_lt hw kd_0 rfl) (wr_7_0 hw) dX7_restore_14 ?_
    refine ab_aload_n C 0 dX7_restore_17 rfl rfl ?_
    refine ab_getR C (q := 31) fl_X7_16 rfl kd_0 (wf_lt hw kd_0 rfl) (wr_7_1 hw) dX7_restore_18 ?_
    refine ab_callV C (k := 0) (n := 0) (rest := []) [.ref (G.1 + 31)] cl_X7_249 (mt_X2_copyFrom kd_1 kd_31 hw f) rfl (by decide) kd_1 (wf_lt hw kd_1 rfl) ⟨rfl, rfl, Nat.le_of_ble_eq_true rfl, Nat.le_of_ble_eq_true rfl, Nat.zero_le _, Nat.zero_le _⟩ rfl rfl (Nat.le_of_ble_eq_true rfl) dX7_restore_21 (ab_kv (k := 0) (n := 0) (fun h_2 hw_3 f => ?_))
    refine ab_aload_n C 0 dX7_restore_24 rfl rfl ?_
    refine ab_getR C (q := 1) fl_X7_10 rfl kd_0 (wf_lt hw_3 kd_0 rfl) (wr_7_0 hw_3) dX7_restore_25 ?_
    refine ab_getI C fl_X7_157 rfl kd_1 (wf_lt hw_3 kd_1 rfl) dX7_restore_28 ?_
    exact ab_iret C dX7_restore_31 ⟨hw_3, _, rfl, f⟩
  · have f := f.1 c_1
    refine ab_aload_n C 0 dX7_restore_7 rfl rfl ?_
    refine ab_iconst C (v := (2 : Int32)) dX7_restore_8 (by decide) ?_
    refine ab_callV C (k := 0) (n := 0) (rest := []) [.int (2 : Int32)] cl_X7_51 (mt_X7_error  hw f) rfl (by decide) kd_0 (wf_lt hw kd_0 rfl) ⟨rfl, rfl, Nat.le_of_ble_eq_true rfl, Nat.le_of_ble_eq_true rfl, Nat.zero_le _, Nat.zero_le _⟩ rfl rfl (Nat.le_of_ble_eq_true rfl) dX7_restore_9 (ab_kh (k := 0) (n := 0) (fun v_4 h_5 hw_6 f => ?_))
    exact ab_iret C dX7_restore_12 ⟨hw_6, _, rfl, f⟩
/-! X7_roster -/
def rm_X7_roster : Room := { frames := 4, cells := 0, slots := 0, locals := 143 }
def wp_X7_roster (x1 : Int32) (x2 : Int32) (h : hp_T) (Q : Int32 → hp_T → Prop) : Prop :=
  wp_X7_mayEnlist x1 x2 h (fun v_1 => ((v_1 = 0 → wp_X7_error (1 : Int32) h (fun v_10 h_11 => (Q v_10 h_11))) ∧ (¬ (v_1 = 0) → (((hp_i h 1 4) < (12 : Int32) → wp_X2_enlist 1 x1 x2 h (fun v_4 h_5 => (Q v_4 h_5))) ∧ (¬ ((hp_i h 1 4) < (12 : Int32)) → wp_X7_error (4 : Int32) h (fun v_7 h_8 => (Q v_7 h_8)))))))
set_option maxRecDepth 100000 in
set_option maxHeartbeats 4000000 in
theorem mt_X7_roster {l : Launch} {G : ab_G} {x1 : Int32} {x2 : Int32} {h : hp_T} {Q : Int32 → hp_T → Prop} (hw : wf h) (f : wp_X7_roster x1 x2 h Q) : ab_M l G yX7_roster cX7_roster 3 (some .int) rm_X7_roster 0 0 [.ref (G.1 + 0), .int x1, .int x2] h (po_h Q) := by
  refine ab_intro (own := RX7) (nm := "roster") rfl rfl rfl (Nat.le_of_ble_eq_true rfl) (fun F C => ?_)
  show ab_W l G F 3 (ab_MQ G F (po_h Q) 0 0) 0 0 h [(0, .ref (G.1 + 0)), (1, .int x1), (2, .int x2)] [] 0
  unfold wp_X7_roster at f
  refine ab_iload_n C 1 dX7_roster_0 rfl rfl ?_
  refine ab_iload_n C 2 dX7_roster_1 rfl rfl ?_
  refine ab_callS C (k := 0) (n := 0) (rest := []) [.int x1, .int x2] cl_X7_112 (mt_X7_mayEnlist  hw f) ⟨rfl, rfl, Nat.le_of_ble_eq_true rfl, Nat.le_of_ble_eq_true rfl, Nat.zero_le _, Nat.zero_le _⟩ rfl rfl (Nat.le_of_ble_eq_true rfl) dX7_roster_2 (ab_kp (k := 0) (n := 0) (fun v_1 f => ?_))
  refine ab_if_ne C (tgt := 14) dX7_roster_5 (by decide) (fun c_2 => ?_) (fun c_2 => ?_)
  · have f := f.2 c_2
    refine ab_aload_n C 0 dX7_roster_14 rfl rfl ?_
    refine ab_getR C (q := 1) fl_X7_10 rfl kd_0 (wf_lt hw kd_0 rfl) (wr_7_0 hw) dX7_roster_15 ?_
    refine ab_getI C fl_X7_115 rfl kd_1 (wf_lt hw kd_1 rfl) dX7_roster_18 ?_
    refine ab_bipush C (v := (12 : Int32)) dX7_roster_21 (by decide) ?_
    refine ab_icmp_lt C (tgt := 32) dX7_roster_23 (by decide) (fun c_3 => ?_) (fun c_3 => ?_)
    · have f := f.1 c_3
      refine ab_aload_n C 0 dX7_roster_32 rfl rfl ?_
      refine ab_getR C (q := 1) fl_X7_10 rfl kd_0 (wf_lt hw kd_0 rfl) (wr_7_0 hw) dX7_roster_33 ?_
      refine ab_iload_n C 1 dX7_roster_36 rfl rfl ?_
      refine ab_iload_n C 2 dX7_roster_37 rfl rfl ?_
      refine ab_callV C (k := 0) (n := 0) (rest := []) [.int x1, .int x2] cl_X7_118 (mt_X2_enlist kd_1 hw f) rfl (by decide) kd_1 (wf_lt hw kd_1 rfl) ⟨rfl, rfl, Nat.le_of_ble_eq_true rfl, Nat.le_of_ble_eq_true rfl, Nat.zero_le _, Nat.zero_le _⟩ rfl rfl (Nat.le_of_ble_eq_true rfl) dX7_roster_38 (ab_kh (k := 0) (n := 0) (fun v_4 h_5 hw_6 f => ?_))
      exact ab_iret C dX7_roster_41 ⟨hw_6, _, rfl, f⟩
    · have f := f.2 c_3
      refine ab_aload_n C 0 dX7_roster_26 rfl rfl ?_
      refine ab_iconst C (v := (4 : Int32)) dX7_roster_27 (by decide) ?_
      refine ab_callV C (k := 0) (n := 0) (rest := []) [.int (4 : Int32)] cl_X7_51 (mt_X7_error  hw f) rfl (by decide) kd_0 (wf_lt hw kd_0 rfl) ⟨rfl, rfl, Nat.le_of_ble_eq_true rfl, Nat.le_of_ble_eq_true rfl, Nat.zero_le _, Nat.zero_le _⟩ rfl rfl (Nat.le_of_ble_eq_true rfl) dX7_roster_28 (ab_kh (k := 0) (n := 0) (fun v_7 h_8 hw_9 f => ?_))
      exact ab_iret C dX7_roster_31 ⟨hw_9, _, rfl, f⟩
  · have f := f.1 c_2
    refine ab_aload_n C 0 dX7_roster_8 rfl rfl ?_
    refine ab_iconst C (v := (1 : Int32)) dX7_roster_9 (by decide) ?_
    refine ab_callV C (k := 0) (n := 0) (rest := []) [.int (1 : Int32)] cl_X7_51 (mt_X7_error  hw f) rfl (by decide) kd_0 (wf_lt hw kd_0 rfl) ⟨rfl, rfl, Nat.le_of_ble_eq_true rfl, Nat.le_of_ble_eq_true rfl, Nat.zero_le _, Nat.zero_le _⟩ rfl rfl (Nat.le_of_ble_eq_true rfl) dX7_roster_10 (ab_kh (k := 0) (n := 0) (fun v_10 h_11 hw_12 f => ?_))
    exact ab_iret C dX7_roster_13 ⟨hw_12, _, rfl, f⟩
/-! X7_rosters -/
def rm_X7_rosters : Room := { frames := 4, cells := 0, slots := 0, locals := 143 }
def wp_X7_rosters_L38 (x1 : Int32) (Q : Int32 → hp_T → Prop) : Nat → Nat → Int32 → Int32 → hp_T → Prop
  | 0 => fun _ _ _ _ => False
  | nn + 1 => fun y2 y3 y4 h => (((hp_i h y2 1) ≤ (y4 + (1 : Int32)) → (Q y3 h)) ∧ (¬ ((hp_i h y2 1) ≤ (y4 + (1 : Int32))) → (vp_in y4 24) ∧ (vp_in (y4 + (1 : Int32)) 24) ∧ wp_X7_mayEnlist (hp_i h (y2 + 1) y4.toNatClampNeg) (hp_i h (y2 + 1) ((y4 + (1 : Int32)).toNatClampNeg)) h (fun v_9 => ((v_9 = 0 → (Q y3 h)) ∧ (¬ (v_9 = 0) → (((hp_i h 1 4) < (12 : Int32) → wp_X2_enlist 1 (hp_i h (y2 + 1) y4.toNatClampNeg) (hp_i h (y2 + 1) ((y4 + (1 : Int32)).toNatClampNeg)) h (fun v_12 h_13 => (wp_X7_rosters_L38 x1 Q nn) y2 (y3 + (1 : Int32)) (y4 + (2 : Int32)) h_13)) ∧ (¬ ((hp_i h 1 4) < (12 : Int32)) → (Q y3 h))))))))
set_option maxRecDepth 100000 in
set_option maxHeartbeats 4000000 in
theorem bt_X7_rosters_L38 {l : Launch} {G : ab_G} {F : ab_F} {x1 : Int32} {Q : Int32 → hp_T → Prop}  (C : ab_C G F rm_X7_rosters cX7_rosters 7 RX7 (some .int) "rosters")   : ∀ (nn : Nat) (y2 : Nat) (y3 : Int32) (y4 : Int32) (h : hp_T), ab_k y2 = 1 → wf h → wp_X7_rosters_L38 x1 Q nn y2 y3 y4 h → ab_W l G F 7 (ab_MQ G F (po_h Q) 0 0) 0 0 h [(0, .ref (G.1 + 0)), (2, .ref (G.1 + y2)), (3, .int y3), (4, .int y4)] [] 38 := by
  intro nn
  induction nn with
  | zero =>
    intro y2 y3 y4 h hy2 hw f
    exact absurd f id
  | succ nn ih =>
    intro y2 y3 y4 h hy2 hw f
    unfold wp_X7_rosters_L38 at f
    refine ab_iload C 3 dX7_rosters_38 rfl ?_
    refine ab_iconst C (v := (1 : Int32)) dX7_rosters_40 (by decide) ?_
    refine ab_iadd C dX7_rosters_41 ?_
    refine ab_aload_n C 1 dX7_rosters_42 rfl rfl ?_
    refine ab_getI C fl_X7_228 rfl hy2 (wf_lt hw hy2 rfl) dX7_rosters_43 ?_
    refine ab_icmp_ge C (tgt := 115) dX7_rosters_46 (by decide) (fun c_6 => ?_) (fun c_6 => ?_)
    · have f := f.1 c_6
      refine ab_iload_n C 2 dX7_rosters_115 rfl rfl ?_
      exact ab_iret C dX7_rosters_116 ⟨hw, _, rfl, f⟩
    · have f := f.2 c_6
      refine ab_aload_n C 1 dX7_rosters_49 rfl rfl ?_
      refine ab_getR C (q := (y2 + 1)) fl_X7_240 rfl hy2 (wf_lt hw hy2 rfl) (wr_1_2 hw hy2) dX7_rosters_50 ?_
      refine ab_iload C 3 dX7_rosters_53 rfl ?_
      obtain ⟨c_7, f⟩ := f
      refine ab_iald C (by rw [(kn_1_2 hy2)]; decide) (wf_lt hw (kn_1_2 hy2) rfl) (wf_len hw (kn_1_2 hy2) rfl rfl (by decide)) c_7 (j := y4.toNatClampNeg) rfl dX7_rosters_55 ?_
      refine ab_istore C (lv' := [(5, .int (hp_i h (y2 + 1) y4.toNatClampNeg)), (0, .ref (G.1 + 0)), (2, .ref (G.1 + y2)), (3, .int y3), (4, .int y4)]) dX7_rosters_56 (by decide) rfl ?_
      refine ab_aload_n C 2 dX7_rosters_58 rfl rfl ?_
      refine ab_getR C (q := (y2 + 1)) fl_X7_240 rfl hy2 (wf_lt hw hy2 rfl) (wr_1_2 hw hy2) dX7_rosters_59 ?_
      refine ab_iload C 4 dX7_rosters_62 rfl ?_
      refine ab_iconst C (v := (1 : Int32)) dX7_rosters_64 (by decide) ?_
      refine ab_iadd C dX7_rosters_65 ?_
      obtain ⟨c_8, f⟩ := f
      refine ab_iald C (by rw [(kn_1_2 hy2)]; decide) (wf_lt hw (kn_1_2 hy2) rfl) (wf_len hw (kn_1_2 hy2) rfl rfl (by decide)) c_8 (j := (y4 + (1 : Int32)).toNatClampNeg) rfl dX7_rosters_66 ?_
      refine ab_istore C (lv' := [(6, .int (hp_i h (y2 + 1) ((y4 + (1 : Int32)).toNatClampNeg))), (5, .int (hp_i h (y2 + 1) y4.toNatClampNeg)), (0, .ref (G.1 + 0)), (2, .ref (G.1 + y2)), (3, .int y3), (4, .int y4)]) dX7_rosters_67 (by decide) rfl ?_
      refine ab_iload C 1 dX7_rosters_69 rfl ?_
      refine ab_iload C 0 dX7_rosters_71 rfl ?_
      refine ab_callS C (k := 0) (n := 0) (rest := []) [.int (hp_i h (y2 + 1) y4.toNatClampNeg), .int (hp_i h (y2 + 1) ((y4 + (1 : Int32)).toNatClampNeg))] cl_X7_112 (mt_X7_mayEnlist  hw f) ⟨rfl, rfl, Nat.le_of_ble_eq_true rfl, Nat.le_of_ble_eq_true rfl, Nat.zero_le _, Nat.zero_le _⟩ rfl rfl (Nat.le_of_ble_eq_true rfl) dX7_rosters_73 (ab_kp (k := 0) (n := 0) (fun v_9 f => ?_))
      refine ab_if_eq C (tgt := 115) dX7_rosters_76 (by decide) (fun c_10 => ?_) (fun c_10 => ?_)
      · have f := f.1 c_10
        refine ab_iload_n C 4 dX7_rosters_115 rfl rfl ?_
        exact ab_iret C dX7_rosters_116 ⟨hw, _, rfl, f⟩
      · have f := f.2 c_10
        refine ab_aload_n C 2 dX7_rosters_79 rfl rfl ?_
        refine ab_getR C (q := 1) fl_X7_10 rfl kd_0 (wf_lt hw kd_0 rfl) (wr_7_0 hw) dX7_rosters_80 ?_
        refine ab_getI C fl_X7_115 rfl kd_1 (wf_lt hw kd_1 rfl) dX7_rosters_83 ?_
        refine ab_bipush C (v := (12 : Int32)) dX7_rosters_86 (by decide) ?_
        refine ab_icmp_lt C (tgt := 94) dX7_rosters_88 (by decide) (fun c_11 => ?_) (fun c_11 => ?_)
        · have f := f.1 c_11
          refine ab_aload_n C 2 dX7_rosters_94 rfl rfl ?_
          refine ab_getR C (q := 1) fl_X7_10 rfl kd_0 (wf_lt hw kd_0 rfl) (wr_7_0 hw) dX7_rosters_95 ?_
          refine ab_iload C 1 dX7_rosters_98 rfl ?_
          refine ab_iload C 0 dX7_rosters_100 rfl ?_
          refine ab_callV C (k := 0) (n := 0) (rest := []) [.int (hp_i h (y2 + 1) y4.toNatClampNeg), .int (hp_i h (y2 + 1) ((y4 + (1 : Int32)).toNatClampNeg))] cl_X7_118 (mt_X2_enlist kd_1 hw f) rfl (by decide) kd_1 (wf_lt hw kd_1 rfl) ⟨rfl, rfl, Nat.le_of_ble_eq_true rfl, Nat.le_of_ble_eq_true rfl, Nat.zero_le _, Nat.zero_le _⟩ rfl rfl (Nat.le_of_ble_eq_true rfl) dX7_rosters_102 (ab_kh (k := 0) (n := 0) (fun v_12 h_13 hw_14 f => ?_))
          refine ab_pop C dX7_rosters_105 rfl ?_
          refine ab_iinc C (lv' := [(3, .int (y3 + (1 : Int32))), (6, .int (hp_i h (y2 + 1) ((y4 + (1 : Int32)).toNatClampNeg))), (5, .int (hp_i h (y2 + 1) y4.toNatClampNeg)), (0, .ref (G.1 + 0)), (2, .ref (G.1 + y2)), (4, .int y4)]) 4 (v := (y3 + (1 : Int32))) dX7_rosters_106 rfl rfl (by decide) rfl ?_
          refine ab_iinc C (lv' := [(4, .int (y4 + (2 : Int32))), (3, .int (y3 + (1 : Int32))), (6, .int (hp_i h (y2 + 1) ((y4 + (1 : Int32)).toNatClampNeg))), (5, .int (hp_i h (y2 + 1) y4.toNatClampNeg)), (0, .ref (G.1 + 0)), (2, .ref (G.1 + y2))]) 5 (v := (y4 + (2 : Int32))) dX7_rosters_109 rfl rfl (by decide) rfl ?_
          refine ab_goto C (tgt := 38) dX7_rosters_112 (by decide) ?_
          refine ab_sub (lv' := [(0, .ref (G.1 + 0)), (2, .ref (G.1 + y2)), (3, .int (y3 + (1 : Int32))), (4, .int (y4 + (2 : Int32)))]) [4, 5, 1, 0] rfl ?_
          exact ih y2 (y3 + (1 : Int32)) (y4 + (2 : Int32)) h_13 hy2 hw_14 f
        · have f := f.2 c_11
          refine ab_goto C (tgt := 115) dX7_rosters_91 (by decide) ?_
          refine ab_iload_n C 4 dX7_rosters_115 rfl rfl ?_
          exact ab_iret C dX7_rosters_116 ⟨hw, _, rfl, f⟩
def wp_X7_rosters (x1 : Int32) (h : hp_T) (Q : Int32 → hp_T → Prop) : Prop :=
  wp_X7_isSheet x1 h (fun v_1 => ((v_1 = 0 → wp_X7_error (1 : Int32) h (fun v_18 h_19 => (Q v_18 h_19))) ∧ (¬ (v_1 = 0) → (vp_in x1 4) ∧ wp_X1_isMissing (97 + 2 * x1.toNatClampNeg) h (fun v_4 => ((v_4 = 0 → (∃ n0, wp_X7_rosters_L38 x1 Q  n0 (97 + 2 * x1.toNatClampNeg) (0 : Int32) (0 : Int32) h)) ∧ (¬ (v_4 = 0) → wp_X7_error (2 : Int32) h (fun v_15 h_16 => (Q v_15 h_16))))))))
set_option maxRecDepth 100000 in
set_option maxHeartbeats 4000000 in
theorem mt_X7_rosters {l : Launch} {G : ab_G} {x1 : Int32} {h : hp_T} {Q : Int32 → hp_T → Prop} (hw : wf h) (f : wp_X7_rosters x1 h Q) : ab_M l G yX7_rosters cX7_rosters 7 (some .int) rm_X7_rosters 0 0 [.ref (G.1 + 0), .int x1] h (po_h Q) := by
  refine ab_intro (own := RX7) (nm := "rosters") rfl rfl rfl (Nat.le_of_ble_eq_true rfl) (fun F C => ?_)
  show ab_W l G F 7 (ab_MQ G F (po_h Q) 0 0) 0 0 h [(0, .ref (G.1 + 0)), (1, .int x1)] [] 0
  unfold wp_X7_rosters at f
  refine ab_iload_n C 1 dX7_rosters_0 rfl rfl ?_
  refine ab_callS C (k := 0) (n := 0) (rest := []) [.int x1] cl_X7_218 (mt_X7_isSheet  hw f) ⟨rfl, rfl, Nat.le_of_ble_eq_true rfl, Nat.le_of_ble_eq_true rfl, Nat.zero_le _, Nat.zero_le _⟩ rfl rfl (Nat.le_of_ble_eq_true rfl) dX7_rosters_1 (ab_kp (k := 0) (n := 0) (fun v_1 f => ?_))
  refine ab_if_ne C (tgt := 13) dX7_rosters_4 (by decide) (fun c_2 => ?_) (fun c_2 => ?_)
  · have f := f.2 c_2
    refine ab_aload_n C 0 dX7_rosters_13 rfl rfl ?_
    refine ab_getR C (q := 95) fl_X7_38 rfl kd_0 (wf_lt hw kd_0 rfl) (wr_7_5 hw) dX7_rosters_14 ?_
    refine ab_iload_n C 1 dX7_rosters_17 rfl rfl ?_
    obtain ⟨c_3, f⟩ := f
    refine ab_aaldR C (q := (97 + 2 * x1.toNatClampNeg)) kd_95 (Or.inr (Or.inr (Or.inr rfl))) (wf_lt hw kd_95 rfl) (wf_len hw kd_95 rfl rfl (by decide)) c_3 (j := x1.toNatClampNeg) rfl (wx_sheet hw (vp_in_lt c_3)) dX7_rosters_18 ?_
    refine ab_astore_n C (lv' := [(2, .ref (G.1 + (97 + 2 * x1.toNatClampNeg))), (0, .ref (G.1 + 0)), (1, .int x1)]) dX7_rosters_19 rfl (by decide) rfl ?_
    refine ab_aload_n C 0 dX7_rosters_20 rfl rfl ?_
    refine ab_callV C (k := 0) (n := 0) (rest := []) [] cl_X7_224 (mt_X1_isMissing (kx_sheet (vp_in_lt c_3)) hw f) rfl (by decide) (kx_sheet (vp_in_lt c_3)) (wf_lt hw (kx_sheet (vp_in_lt c_3)) rfl) ⟨rfl, rfl, Nat.le_of_ble_eq_true rfl, Nat.le_of_ble_eq_true rfl, Nat.zero_le _, Nat.zero_le _⟩ rfl rfl (Nat.le_of_ble_eq_true rfl) dX7_rosters_21 (ab_kp (k := 0) (n := 0) (fun v_4 f => ?_))
    refine ab_if_eq C (tgt := 33) dX7_rosters_24 (by decide) (fun c_5 => ?_) (fun c_5 => ?_)
    · have f := f.1 c_5
      refine ab_iconst C (v := (0 : Int32)) dX7_rosters_33 (by decide) ?_
      refine ab_istore_n C (lv' := [(3, .int (0 : Int32)), (2, .ref (G.1 + (97 + 2 * x1.toNatClampNeg))), (0, .ref (G.1 + 0)), (1, .int x1)]) dX7_rosters_34 rfl (by decide) rfl ?_
      refine ab_iconst C (v := (0 : Int32)) dX7_rosters_35 (by decide) ?_
      refine ab_istore C (lv' := [(4, .int (0 : Int32)), (3, .int (0 : Int32)), (2, .ref (G.1 + (97 + 2 * x1.toNatClampNeg))), (0, .ref (G.1 + 0)), (1, .int x1)]) dX7_rosters_36 (by decide) rfl ?_
      obtain ⟨n0, f⟩ := f
      refine ab_sub (lv' := [(0, .ref (G.1 + 0)), (2, .ref (G.1 + (97 + 2 * x1.toNatClampNeg))), (3, .int (0 : Int32)), (4, .int (0 : Int32))]) [3, 2, 1, 0] rfl ?_
      exact bt_X7_rosters_L38 C    n0 (97 + 2 * x1.toNatClampNeg) (0 : Int32) (0 : Int32) h (kx_sheet (vp_in_lt c_3)) hw f
    · have f := f.2 c_5
      refine ab_aload_n C 1 dX7_rosters_27 rfl rfl ?_
      refine ab_iconst C (v := (2 : Int32)) dX7_rosters_28 (by decide) ?_
      refine ab_callV C (k := 0) (n := 0) (rest := []) [.int (2 : Int32)] cl_X7_51 (mt_X7_error  hw f) rfl (by decide) kd_0 (wf_lt hw kd_0 rfl) ⟨rfl, rfl, Nat.le_of_ble_eq_true rfl, Nat.le_of_ble_eq_true rfl, Nat.zero_le _, Nat.zero_le _⟩ rfl rfl (Nat.le_of_ble_eq_true rfl) dX7_rosters_29 (ab_kh (k := 0) (n := 0) (fun v_15 h_16 hw_17 f => ?_))
      exact ab_iret C dX7_rosters_32 ⟨hw_17, _, rfl, f⟩
  · have f := f.1 c_2
    refine ab_aload_n C 0 dX7_rosters_7 rfl rfl ?_
    refine ab_iconst C (v := (1 : Int32)) dX7_rosters_8 (by decide) ?_
    refine ab_callV C (k := 0) (n := 0) (rest := []) [.int (1 : Int32)] cl_X7_51 (mt_X7_error  hw f) rfl (by decide) kd_0 (wf_lt hw kd_0 rfl) ⟨rfl, rfl, Nat.le_of_ble_eq_true rfl, Nat.le_of_ble_eq_true rfl, Nat.zero_le _, Nat.zero_le _⟩ rfl rfl (Nat.le_of_ble_eq_true rfl) dX7_rosters_9 (ab_kh (k := 0) (n := 0) (fun v_18 h_19 hw_20 f => ?_))
    exact ab_iret C dX7_rosters_12 ⟨hw_20, _, rfl, f⟩
/-! X7_saves -/
def rm_X7_saves : Room := { frames := 9, cells := 0, slots := 0, locals := 265 }
def wp_X7_saves (x1 : Int32) (x2 : Int32) (h : hp_T) (Q : Int32 → hp_T → Prop) : Prop :=
  wp_X7_isKnack x1 h (fun v_1 => ((v_1 = 0 → wp_X7_error (1 : Int32) h (fun v_3 h_4 => (Q v_3 h_4))) ∧ (¬ (v_1 = 0) → wp_X7_within x2 (0 : Int32) (90 : Int32) h (fun v_6 => ((v_6 = 0 → wp_X7_error (1 : Int32) h (fun v_14 h_15 => (Q v_14 h_15))) ∧ (¬ (v_6 = 0) → wp_X7_doneWithBook ((hp_i h 1 6) ||| ((1 : Int32) <<< (x1 &&& 31))) x2 h (fun v_8 h_9 => wp_X7_doneWithBook ((hp_i h_9 1 6) &&& (((1 : Int32) <<< (x1 &&& 31)) ^^^ (-1 : Int32))) x2 h_9 (fun v_11 h_12 => (Q (v_8 - v_11) h_12)))))))))
set_option maxRecDepth 100000 in
set_option maxHeartbeats 4000000 in
theorem mt_X7_saves {l : Launch} {G : ab_G} {x1 : Int32} {x2 : Int32} {h : hp_T} {Q : Int32 → hp_T → Prop} (hw : wf h) (f : wp_X7_saves x1 x2 h Q) : ab_M l G yX7_saves cX7_saves 4 (some .int) rm_X7_saves 0 0 [.ref (G.1 + 0), .int x1, .int x2] h (po_h Q) := by
  refine ab_intro (own := RX7) (nm := "saves") rfl rfl rfl (Nat.le_of_ble_eq_true rfl) (fun F C => ?_)
  show ab_W l G F 4 (ab_MQ G F (po_h Q) 0 0) 0 0 h [(0, .ref (G.1 + 0)), (1, .int x1), (2, .int x2)] [] 0
  unfold wp_X7_saves at f
  refine ab_iload_n C 1 dX7_saves_0 rfl rfl ?_
  refine ab_callS C (k := 0) (n := 0) (rest := []) [.int x1] cl_X7_95 (mt_X7_isKnack  hw f) ⟨rfl, rfl, Nat.le_of_ble_eq_true rfl, Nat.le_of_ble_eq_true rfl, Nat.zero_le _, Nat.zero_le _⟩ rfl rfl (Nat.le_of_ble_eq_true rfl) dX7_saves_1 (ab_kp (k := 0) (n := 0) (fun v_1 f => ?_))
  refine ab_if_eq C (tgt := 17) dX7_saves_4 (by decide) (fun c_2 => ?_) (fun c_2 => ?_)
  · have f := f.1 c_2
    refine ab_aload_n C 0 dX7_saves_17 rfl rfl ?_
    refine ab_iconst C (v := (1 : Int32)) dX7_saves_18 (by decide) ?_
    refine ab_callV C (k := 0) (n := 0) (rest := []) [.int (1 : Int32)] cl_X7_51 (mt_X7_error  hw f) rfl (by decide) kd_0 (wf_lt hw kd_0 rfl) ⟨rfl, rfl, Nat.le_of_ble_eq_true rfl, Nat.le_of_ble_eq_true rfl, Nat.zero_le _, Nat.zero_le _⟩ rfl rfl (Nat.le_of_ble_eq_true rfl) dX7_saves_19 (ab_kh (k := 0) (n := 0) (fun v_3 h_4 hw_5 f => ?_))
    exact ab_iret C dX7_saves_22 ⟨hw_5, _, rfl, f⟩
  · have f := f.2 c_2
    refine ab_iload_n C 2 dX7_saves_7 rfl rfl ?_
    refine ab_iconst C (v := (0 : Int32)) dX7_saves_8 (by decide) ?_
    refine ab_bipush C (v := (90 : Int32)) dX7_saves_9 (by decide) ?_
    refine ab_callS C (k := 0) (n := 0) (rest := []) [.int x2, .int (0 : Int32), .int (90 : Int32)] cl_X7_47 (mt_X7_within  hw f) ⟨rfl, rfl, Nat.le_of_ble_eq_true rfl, Nat.le_of_ble_eq_true rfl, Nat.zero_le _, Nat.zero_le _⟩ rfl rfl (Nat.le_of_ble_eq_true rfl) dX7_saves_11 (ab_kp (k := 0) (n := 0) (fun v_6 f => ?_))
    refine ab_if_ne C (tgt := 23) dX7_saves_14 (by decide) (fun c_7 => ?_) (fun c_7 => ?_)
    · have f := f.2 c_7
      refine ab_iconst C (v := (1 : Int32)) dX7_saves_23 (by decide) ?_
      refine ab_iload_n C 1 dX7_saves_24 rfl rfl ?_
      refine ab_ishl C dX7_saves_25 ?_
      refine ab_istore_n C (lv' := [(3, .int ((1 : Int32) <<< (x1 &&& 31))), (0, .ref (G.1 + 0)), (1, .int x1), (2, .int x2)]) dX7_saves_26 rfl (by decide) rfl ?_
      refine ab_aload_n C 1 dX7_saves_27 rfl rfl ?_
      refine ab_aload_n C 1 dX7_saves_28 rfl rfl ?_
      refine ab_getR C (q := 1) fl_X7_10 rfl kd_0 (wf_lt hw kd_0 rfl) (wr_7_0 hw) dX7_saves_29 ?_
      refine ab_getI C fl_X7_121 rfl kd_1 (wf_lt hw kd_1 rfl) dX7_saves_32 ?_
      refine ab_iload_n C 0 dX7_saves_35 rfl rfl ?_
      refine ab_ior C dX7_saves_36 ?_
      refine ab_iload_n C 3 dX7_saves_37 rfl rfl ?_
      refine ab_callV C (k := 0) (n := 0) (rest := []) [.int ((hp_i h 1 6) ||| ((1 : Int32) <<< (x1 &&& 31))), .int x2] cl_X7_190 (mt_X7_doneWithBook  hw f) rfl (by decide) kd_0 (wf_lt hw kd_0 rfl) ⟨rfl, rfl, Nat.le_of_ble_eq_true rfl, Nat.le_of_ble_eq_true rfl, Nat.zero_le _, Nat.zero_le _⟩ rfl rfl (Nat.le_of_ble_eq_true rfl) dX7_saves_38 (ab_kh (k := 0) (n := 0) (fun v_8 h_9 hw_10 f => ?_))
      refine ab_aload_n C 1 dX7_saves_41 rfl rfl ?_
      refine ab_aload_n C 1 dX7_saves_42 rfl rfl ?_
      refine ab_getR C (q := 1) fl_X7_10 rfl kd_0 (wf_lt hw_10 kd_0 rfl) (wr_7_0 hw_10) dX7_saves_43 ?_
      refine ab_getI C fl_X7_121 rfl kd_1 (wf_lt hw_10 kd_1 rfl) dX7_saves_46 ?_
      refine ab_iload_n C 0 dX7_saves_49 rfl rfl ?_
      refine ab_iconst C (v := (-1 : Int32)) dX7_saves_50 (by decide) ?_
      refine ab_ixor C dX7_saves_51 ?_
      refine ab_iand C dX7_saves_52 ?_
      refine ab_iload_n C 3 dX7_saves_53 rfl rfl ?_
      refine ab_callV C (k := 0) (n := 0) (rest := [.int v_8]) [.int ((hp_i h_9 1 6) &&& (((1 : Int32) <<< (x1 &&& 31)) ^^^ (-1 : Int32))), .int x2] cl_X7_190 (mt_X7_doneWithBook  hw_10 f) rfl (by decide) kd_0 (wf_lt hw_10 kd_0 rfl) ⟨rfl, rfl, Nat.le_of_ble_eq_true rfl, Nat.le_of_ble_eq_true rfl, Nat.zero_le _, Nat.zero_le _⟩ rfl rfl (Nat.le_of_ble_eq_true rfl) dX7_saves_54 (ab_kh (k := 0) (n := 0) (fun v_11 h_12 hw_13 f => ?_))
      refine ab_isub C dX7_saves_57 ?_
      exact ab_iret C dX7_saves_58 ⟨hw_13, _, rfl, f⟩
    · have f := f.1 c_7
      refine ab_aload_n C 0 dX7_saves_17 rfl rfl ?_
      refine ab_iconst C (v := (1 : Int32)) dX7_saves_18 (by decide) ?_
      refine ab_callV C (k := 0) (n := 0) (rest := []) [.int (1 : Int32)] cl_X7_51 (mt_X7_error  hw f) rfl (by decide) kd_0 (wf_lt hw kd_0 rfl) ⟨rfl, rfl, Nat.le_of_ble_eq_true rfl, Nat.le_of_ble_eq_true rfl, Nat.zero_le _, Nat.zero_le _⟩ rfl rfl (Nat.le_of_ble_eq_true rfl) dX7_saves_19 (ab_kh (k := 0) (n := 0) (fun v_14 h_15 hw_16 f => ?_))
      exact ab_iret C dX7_saves_22 ⟨hw_16, _, rfl, f⟩
/-! X7_seed -/
def rm_X7_seed : Room := { frames := 2, cells := 0, slots := 0, locals := 100 }
def wp_X7_seed (x1 : Int32) (h : hp_T) (Q : Int32 → hp_T → Prop) : Prop :=
  (∀ h_1, h_1 = hp_si h 1 10 x1 → (Q (hp_i h 1 10) h_1))
set_option maxRecDepth 100000 in
set_option maxHeartbeats 4000000 in
theorem mt_X7_seed {l : Launch} {G : ab_G} {x1 : Int32} {h : hp_T} {Q : Int32 → hp_T → Prop} (hw : wf h) (f : wp_X7_seed x1 h Q) : ab_M l G yX7_seed cX7_seed 3 (some .int) rm_X7_seed 0 0 [.ref (G.1 + 0), .int x1] h (po_h Q) := by
  refine ab_intro (own := RX7) (nm := "seed") rfl rfl rfl (Nat.le_of_ble_eq_true rfl) (fun F C => ?_)
  show ab_W l G F 3 (ab_MQ G F (po_h Q) 0 0) 0 0 h [(0, .ref (G.1 + 0)), (1, .int x1)] [] 0
  unfold wp_X7_seed at f
  refine ab_aload_n C 0 dX7_seed_0 rfl rfl ?_
  refine ab_getR C (q := 1) fl_X7_10 rfl kd_0 (wf_lt hw kd_0 rfl) (wr_7_0 hw) dX7_seed_1 ?_
  refine ab_getI C fl_X7_170 rfl kd_1 (wf_lt hw kd_1 rfl) dX7_seed_4 ?_
  refine ab_istore_n C (lv' := [(2, .int (hp_i h 1 10)), (0, .ref (G.1 + 0)), (1, .int x1)]) dX7_seed_7 rfl (by decide) rfl ?_
  refine ab_aload_n C 1 dX7_seed_8 rfl rfl ?_
  refine ab_getR C (q := 1) fl_X7_10 rfl kd_0 (wf_lt hw kd_0 rfl) (wr_7_0 hw) dX7_seed_9 ?_
  refine ab_iload_n C 2 dX7_seed_12 rfl rfl ?_
  refine ab_putI C fl_X7_170 rfl kd_1 (wf_lt hw kd_1 rfl) rfl rfl dX7_seed_13 (fun h_1 e_2 => ?_)
  have f := f h_1 e_2
  have hw_3 := wf_si e_2 hw
  refine ab_iload_n C 0 dX7_seed_16 rfl rfl ?_
  exact ab_iret C dX7_seed_17 ⟨hw_3, _, rfl, f⟩
/-! X7_set -/
def rm_X7_set : Room := { frames := 7, cells := 0, slots := 0, locals := 219 }
def wp_X7_set (x1 : Int32) (x2 : Int32) (x3 : Int32) (h : hp_T) (Q : Int32 → hp_T → Prop) : Prop :=
  wp_X7_isBunk x1 h (fun v_1 => ((v_1 = 0 → wp_X7_error (1 : Int32) h (fun v_3 h_4 => (Q v_3 h_4))) ∧ (¬ (v_1 = 0) → wp_X7_maySet x2 x3 h (fun v_6 => ((v_6 = 0 → wp_X7_error (1 : Int32) h (fun v_23 h_24 => (Q v_23 h_24))) ∧ (¬ (v_6 = 0) → (vp_in x1 6) ∧ wp_X2_ofMan 1 x1 x2 h (fun v_9 h_10 => ((x2 = 0 → (∀ h_20, h_20 = hp_si h_10 (1 + 8 + 3 * x1.toNatClampNeg) 0 x3 → (Q v_9 h_20))) ∧ (¬ (x2 = 0) → ((x2 = (1 : Int32) → (∀ h_17, h_17 = hp_si h_10 (1 + 8 + 3 * x1.toNatClampNeg) 1 x3 → (Q v_9 h_17))) ∧ (¬ (x2 = (1 : Int32)) → (∀ h_14, h_14 = hp_si h_10 (1 + 8 + 3 * x1.toNatClampNeg) 4 x3 → (Q v_9 h_14)))))))))))))
set_option maxRecDepth 100000 in
set_option maxHeartbeats 4000000 in
theorem mt_X7_set {l : Launch} {G : ab_G} {x1 : Int32} {x2 : Int32} {x3 : Int32} {h : hp_T} {Q : Int32 → hp_T → Prop} (hw : wf h) (f : wp_X7_set x1 x2 x3 h Q) : ab_M l G yX7_set cX7_set 6 (some .int) rm_X7_set 0 0 [.ref (G.1 + 0), .int x1, .int x2, .int x3] h (po_h Q) := by
  refine ab_intro (own := RX7) (nm := "set") rfl rfl rfl (Nat.le_of_ble_eq_true rfl) (fun F C => ?_)
  show ab_W l G F 6 (ab_MQ G F (po_h Q) 0 0) 0 0 h [(0, .ref (G.1 + 0)), (1, .int x1), (2, .int x2), (3, .int x3)] [] 0
  unfold wp_X7_set at f
  refine ab_aload_n C 0 dX7_set_0 rfl rfl ?_
  refine ab_iload_n C 1 dX7_set_1 rfl rfl ?_
  refine ab_callV C (k := 0) (n := 0) (rest := []) [.int x1] cl_X7_62 (mt_X7_isBunk  hw f) rfl (by decide) kd_0 (wf_lt hw kd_0 rfl) ⟨rfl, rfl, Nat.le_of_ble_eq_true rfl, Nat.le_of_ble_eq_true rfl, Nat.zero_le _, Nat.zero_le _⟩ rfl rfl (Nat.le_of_ble_eq_true rfl) dX7_set_2 (ab_kp (k := 0) (n := 0) (fun v_1 f => ?_))
  refine ab_if_eq C (tgt := 16) dX7_set_5 (by decide) (fun c_2 => ?_) (fun c_2 => ?_)
  · have f := f.1 c_2
    refine ab_aload_n C 0 dX7_set_16 rfl rfl ?_
    refine ab_iconst C (v := (1 : Int32)) dX7_set_17 (by decide) ?_
    refine ab_callV C (k := 0) (n := 0) (rest := []) [.int (1 : Int32)] cl_X7_51 (mt_X7_error  hw f) rfl (by decide) kd_0 (wf_lt hw kd_0 rfl) ⟨rfl, rfl, Nat.le_of_ble_eq_true rfl, Nat.le_of_ble_eq_true rfl, Nat.zero_le _, Nat.zero_le _⟩ rfl rfl (Nat.le_of_ble_eq_true rfl) dX7_set_18 (ab_kh (k := 0) (n := 0) (fun v_3 h_4 hw_5 f => ?_))
    exact ab_iret C dX7_set_21 ⟨hw_5, _, rfl, f⟩
  · have f := f.2 c_2
    refine ab_iload_n C 2 dX7_set_8 rfl rfl ?_
    refine ab_iload_n C 3 dX7_set_9 rfl rfl ?_
    refine ab_callS C (k := 0) (n := 0) (rest := []) [.int x2, .int x3] cl_X7_82 (mt_X7_maySet  hw f) ⟨rfl, rfl, Nat.le_of_ble_eq_true rfl, Nat.le_of_ble_eq_true rfl, Nat.zero_le _, Nat.zero_le _⟩ rfl rfl (Nat.le_of_ble_eq_true rfl) dX7_set_10 (ab_kp (k := 0) (n := 0) (fun v_6 f => ?_))
    refine ab_if_ne C (tgt := 22) dX7_set_13 (by decide) (fun c_7 => ?_) (fun c_7 => ?_)
    · have f := f.2 c_7
      refine ab_aload_n C 0 dX7_set_22 rfl rfl ?_
      refine ab_getR C (q := 1) fl_X7_10 rfl kd_0 (wf_lt hw kd_0 rfl) (wr_7_0 hw) dX7_set_23 ?_
      refine ab_getR C (q := (1 + 1)) fl_X7_70 rfl kd_1 (wf_lt hw kd_1 rfl) (wr_2_0 hw kd_1) dX7_set_26 ?_
      refine ab_iload_n C 1 dX7_set_29 rfl rfl ?_
      obtain ⟨c_8, f⟩ := f
      refine ab_aaldR C (q := (1 + 8 + 3 * x1.toNatClampNeg)) (kn_2_0 kd_1) (Or.inl rfl) (wf_lt hw (kn_2_0 kd_1) rfl) (wf_len hw (kn_2_0 kd_1) rfl rfl (by decide)) c_8 (j := x1.toNatClampNeg) rfl (wx_bunk hw kd_1 (vp_in_lt c_8)) dX7_set_30 ?_
      refine ab_astore C (lv' := [(4, .ref (G.1 + (1 + 8 + 3 * x1.toNatClampNeg))), (0, .ref (G.1 + 0)), (1, .int x1), (2, .int x2), (3, .int x3)]) dX7_set_31 (by decide) rfl ?_
      refine ab_aload_n C 1 dX7_set_33 rfl rfl ?_
      refine ab_getR C (q := 1) fl_X7_10 rfl kd_0 (wf_lt hw kd_0 rfl) (wr_7_0 hw) dX7_set_34 ?_
      refine ab_iload_n C 2 dX7_set_37 rfl rfl ?_
      refine ab_iload_n C 3 dX7_set_38 rfl rfl ?_
      refine ab_callV C (k := 0) (n := 0) (rest := []) [.int x1, .int x2] cl_X7_66 (mt_X2_ofMan kd_1 hw f) rfl (by decide) kd_1 (wf_lt hw kd_1 rfl) ⟨rfl, rfl, Nat.le_of_ble_eq_true rfl, Nat.le_of_ble_eq_true rfl, Nat.zero_le _, Nat.zero_le _⟩ rfl rfl (Nat.le_of_ble_eq_true rfl) dX7_set_39 (ab_kh (k := 0) (n := 0) (fun v_9 h_10 hw_11 f => ?_))
      refine ab_istore C (lv' := [(5, .int v_9), (4, .ref (G.1 + (1 + 8 + 3 * x1.toNatClampNeg))), (0, .ref (G.1 + 0)), (1, .int x1), (2, .int x2), (3, .int x3)]) dX7_set_42 (by decide) rfl ?_
      refine ab_iload_n C 4 dX7_set_44 rfl rfl ?_
      refine ab_if_ne C (tgt := 57) dX7_set_45 (by decide) (fun c_12 => ?_) (fun c_12 => ?_)
      · have f := f.2 c_12
        refine ab_iload_n C 4 dX7_set_57 rfl rfl ?_
        refine ab_iconst C (v := (1 : Int32)) dX7_set_58 (by decide) ?_
        refine ab_icmp_ne C (tgt := 71) dX7_set_59 (by decide) (fun c_13 => ?_) (fun c_13 => ?_)
        · have f := f.2 c_13
          refine ab_aload C 1 dX7_set_71 rfl ?_
          refine ab_iload_n C 5 dX7_set_73 rfl rfl ?_
          refine ab_putI C fl_X7_92 rfl (kx_bunk kd_1 (vp_in_lt c_8)) (wf_lt hw_11 (kx_bunk kd_1 (vp_in_lt c_8)) rfl) rfl rfl dX7_set_74 (fun h_14 e_15 => ?_)
          have f := f h_14 e_15
          have hw_16 := wf_si e_15 hw_11
          refine ab_iload C 0 dX7_set_77 rfl ?_
          exact ab_iret C dX7_set_79 ⟨hw_16, _, rfl, f⟩
        · have f := f.1 c_13
          refine ab_aload C 1 dX7_set_62 rfl ?_
          refine ab_iload_n C 5 dX7_set_64 rfl rfl ?_
          refine ab_putI C fl_X7_89 rfl (kx_bunk kd_1 (vp_in_lt c_8)) (wf_lt hw_11 (kx_bunk kd_1 (vp_in_lt c_8)) rfl) rfl rfl dX7_set_65 (fun h_17 e_18 => ?_)
          have f := f h_17 e_18
          have hw_19 := wf_si e_18 hw_11
          refine ab_goto C (tgt := 77) dX7_set_68 (by decide) ?_
          refine ab_iload C 0 dX7_set_77 rfl ?_
          exact ab_iret C dX7_set_79 ⟨hw_19, _, rfl, f⟩
      · have f := f.1 c_12
        refine ab_aload C 1 dX7_set_48 rfl ?_
        refine ab_iload_n C 5 dX7_set_50 rfl rfl ?_
        refine ab_putI C fl_X7_86 rfl (kx_bunk kd_1 (vp_in_lt c_8)) (wf_lt hw_11 (kx_bunk kd_1 (vp_in_lt c_8)) rfl) rfl rfl dX7_set_51 (fun h_20 e_21 => ?_)
        have f := f h_20 e_21
        have hw_22 := wf_si e_21 hw_11
        refine ab_goto C (tgt := 77) dX7_set_54 (by decide) ?_
        refine ab_iload C 0 dX7_set_77 rfl ?_
        exact ab_iret C dX7_set_79 ⟨hw_22, _, rfl, f⟩
    · have f := f.1 c_7
      refine ab_aload_n C 0 dX7_set_16 rfl rfl ?_
      refine ab_iconst C (v := (1 : Int32)) dX7_set_17 (by decide) ?_
      refine ab_callV C (k := 0) (n := 0) (rest := []) [.int (1 : Int32)] cl_X7_51 (mt_X7_error  hw f) rfl (by decide) kd_0 (wf_lt hw kd_0 rfl) ⟨rfl, rfl, Nat.le_of_ble_eq_true rfl, Nat.le_of_ble_eq_true rfl, Nat.zero_le _, Nat.zero_le _⟩ rfl rfl (Nat.le_of_ble_eq_true rfl) dX7_set_18 (ab_kh (k := 0) (n := 0) (fun v_23 h_24 hw_25 f => ?_))
      exact ab_iret C dX7_set_21 ⟨hw_25, _, rfl, f⟩
/-! X7_sheet -/
def rm_X7_sheet : Room := { frames := 4, cells := 0, slots := 0, locals := 142 }
def wp_X7_sheet_b35 (x1 : Int32) (x2 : Int32) (x3 : Int32) (Q : Int32 → hp_T → Prop) (h : hp_T) : Prop :=
  ((x2 = 0 → ((x2 = 0 → (vp_in x1 4) ∧ ((x2 = 0 → wp_X1_lay (97 + 2 * x1.toNatClampNeg) x2 (0 : Int32) h (fun h_13 => (Q (1 : Int32) h_13))) ∧ (¬ (x2 = 0) → wp_X1_lay (97 + 2 * x1.toNatClampNeg) x2 x3 h (fun h_11 => (Q (1 : Int32) h_11))))) ∧ (¬ (x2 = 0) → ((x3 ≤ (24 : Int32) → (vp_in x1 4) ∧ ((x2 = 0 → wp_X1_lay (97 + 2 * x1.toNatClampNeg) x2 (0 : Int32) h (fun h_20 => (Q (1 : Int32) h_20))) ∧ (¬ (x2 = 0) → wp_X1_lay (97 + 2 * x1.toNatClampNeg) x2 x3 h (fun h_18 => (Q (1 : Int32) h_18))))) ∧ (¬ (x3 ≤ (24 : Int32)) → wp_X7_error (1 : Int32) h (fun v_22 h_23 => (Q v_22 h_23))))))) ∧ (¬ (x2 = 0) → ((0 ≤ x3 → ((x2 = 0 → (vp_in x1 4) ∧ ((x2 = 0 → wp_X1_lay (97 + 2 * x1.toNatClampNeg) x2 (0 : Int32) h (fun h_31 => (Q (1 : Int32) h_31))) ∧ (¬ (x2 = 0) → wp_X1_lay (97 + 2 * x1.toNatClampNeg) x2 x3 h (fun h_29 => (Q (1 : Int32) h_29))))) ∧ (¬ (x2 = 0) → ((x3 ≤ (24 : Int32) → (vp_in x1 4) ∧ ((x2 = 0 → wp_X1_lay (97 + 2 * x1.toNatClampNeg) x2 (0 : Int32) h (fun h_38 => (Q (1 : Int32) h_38))) ∧ (¬ (x2 = 0) → wp_X1_lay (97 + 2 * x1.toNatClampNeg) x2 x3 h (fun h_36 => (Q (1 : Int32) h_36))))) ∧ (¬ (x3 ≤ (24 : Int32)) → wp_X7_error (1 : Int32) h (fun v_40 h_41 => (Q v_40 h_41))))))) ∧ (¬ (0 ≤ x3) → wp_X7_error (3 : Int32) h (fun v_43 h_44 => (Q v_43 h_44))))))
set_option maxRecDepth 100000 in
set_option maxHeartbeats 4000000 in
theorem bt_X7_sheet_b35 {l : Launch} {G : ab_G} {F : ab_F} {x1 : Int32} {x2 : Int32} {x3 : Int32} {Q : Int32 → hp_T → Prop}  (C : ab_C G F rm_X7_sheet cX7_sheet 4 RX7 (some .int) "sheet")   : ∀ (h : hp_T), wf h → wp_X7_sheet_b35 x1 x2 x3 Q h → ab_W l G F 4 (ab_MQ G F (po_h Q) 0 0) 0 0 h [(0, .ref (G.1 + 0)), (1, .int x1), (2, .int x2), (3, .int x3)] [] 35 := by
  intro h hw f
  unfold wp_X7_sheet_b35 at f
  refine ab_iload_n C 2 dX7_sheet_35 rfl rfl ?_
  refine ab_if_eq C (tgt := 49) dX7_sheet_36 (by decide) (fun c_7 => ?_) (fun c_7 => ?_)
  · have f := f.1 c_7
    refine ab_iload_n C 2 dX7_sheet_49 rfl rfl ?_
    refine ab_if_eq C (tgt := 65) dX7_sheet_50 (by decide) (fun c_8 => ?_) (fun c_8 => ?_)
    · have f := f.1 c_8
      refine ab_aload_n C 0 dX7_sheet_65 rfl rfl ?_
      refine ab_getR C (q := 95) fl_X7_38 rfl kd_0 (wf_lt hw kd_0 rfl) (wr_7_5 hw) dX7_sheet_66 ?_
      refine ab_iload_n C 1 dX7_sheet_69 rfl rfl ?_
      obtain ⟨c_9, f⟩ := f
      refine ab_aaldR C (q := (97 + 2 * x1.toNatClampNeg)) kd_95 (Or.inr (Or.inr (Or.inr rfl))) (wf_lt hw kd_95 rfl) (wf_len hw kd_95 rfl rfl (by decide)) c_9 (j := x1.toNatClampNeg) rfl (wx_sheet hw (vp_in_lt c_9)) dX7_sheet_70 ?_
      refine ab_iload_n C 2 dX7_sheet_71 rfl rfl ?_
      refine ab_iload_n C 2 dX7_sheet_72 rfl rfl ?_
      refine ab_if_ne C (tgt := 80) dX7_sheet_73 (by decide) (fun c_10 => ?_) (fun c_10 => ?_)
      · have f := f.2 c_10
        refine ab_iload_n C 3 dX7_sheet_80 rfl rfl ?_
        refine ab_callV C (k := 0) (n := 0) (rest := []) [.int x2, .int x3] cl_X7_221 (mt_X1_lay (kx_sheet (vp_in_lt c_9)) hw f) rfl (by decide) (kx_sheet (vp_in_lt c_9)) (wf_lt hw (kx_sheet (vp_in_lt c_9)) rfl) ⟨rfl, rfl, Nat.le_of_ble_eq_true rfl, Nat.le_of_ble_eq_true rfl, Nat.zero_le _, Nat.zero_le _⟩ rfl rfl (Nat.le_of_ble_eq_true rfl) dX7_sheet_81 (ab_kv (k := 0) (n := 0) (fun h_11 hw_12 f => ?_))
        refine ab_iconst C (v := (1 : Int32)) dX7_sheet_84 (by decide) ?_
        exact ab_iret C dX7_sheet_85 ⟨hw_12, _, rfl, f⟩
      · have f := f.1 c_10
        refine ab_iconst C (v := (0 : Int32)) dX7_sheet_76 (by decide) ?_
        refine ab_goto C (tgt := 81) dX7_sheet_77 (by decide) ?_
        refine ab_callV C (k := 0) (n := 0) (rest := []) [.int x2, .int (0 : Int32)] cl_X7_221 (mt_X1_lay (kx_sheet (vp_in_lt c_9)) hw f) rfl (by decide) (kx_sheet (vp_in_lt c_9)) (wf_lt hw (kx_sheet (vp_in_lt c_9)) rfl) ⟨rfl, rfl, Nat.le_of_ble_eq_true rfl, Nat.le_of_ble_eq_true rfl, Nat.zero_le _, Nat.zero_le _⟩ rfl rfl (Nat.le_of_ble_eq_true rfl) dX7_sheet_81 (ab_kv (k := 0) (n := 0) (fun h_13 hw_14 f => ?_))
        refine ab_iconst C (v := (1 : Int32)) dX7_sheet_84 (by decide) ?_
        exact ab_iret C dX7_sheet_85 ⟨hw_14, _, rfl, f⟩
    · have f := f.2 c_8
      refine ab_iload_n C 3 dX7_sheet_53 rfl rfl ?_
      refine ab_bipush C (v := (24 : Int32)) dX7_sheet_54 (by decide) ?_
      refine ab_icmp_le C (tgt := 65) dX7_sheet_56 (by decide) (fun c_15 => ?_) (fun c_15 => ?_)
      · have f := f.1 c_15
        refine ab_aload_n C 0 dX7_sheet_65 rfl rfl ?_
        refine ab_getR C (q := 95) fl_X7_38 rfl kd_0 (wf_lt hw kd_0 rfl) (wr_7_5 hw) dX7_sheet_66 ?_
        refine ab_iload_n C 1 dX7_sheet_69 rfl rfl ?_
        obtain ⟨c_16, f⟩ := f
        refine ab_aaldR C (q := (97 + 2 * x1.toNatClampNeg)) kd_95 (Or.inr (Or.inr (Or.inr rfl))) (wf_lt hw kd_95 rfl) (wf_len hw kd_95 rfl rfl (by decide)) c_16 (j := x1.toNatClampNeg) rfl (wx_sheet hw (vp_in_lt c_16)) dX7_sheet_70 ?_
        refine ab_iload_n C 2 dX7_sheet_71 rfl rfl ?_
        refine ab_iload_n C 2 dX7_sheet_72 rfl rfl ?_
        refine ab_if_ne C (tgt := 80) dX7_sheet_73 (by decide) (fun c_17 => ?_) (fun c_17 => ?_)
        · have f := f.2 c_17
          refine ab_iload_n C 3 dX7_sheet_80 rfl rfl ?_
          refine ab_callV C (k := 0) (n := 0) (rest := []) [.int x2, .int x3] cl_X7_221 (mt_X1_lay (kx_sheet (vp_in_lt c_16)) hw f) rfl (by decide) (kx_sheet (vp_in_lt c_16)) (wf_lt hw (kx_sheet (vp_in_lt c_16)) rfl) ⟨rfl, rfl, Nat.le_of_ble_eq_true rfl, Nat.le_of_ble_eq_true rfl, Nat.zero_le _, Nat.zero_le _⟩ rfl rfl (Nat.le_of_ble_eq_true rfl) dX7_sheet_81 (ab_kv (k := 0) (n := 0) (fun h_18 hw_19 f => ?_))
          refine ab_iconst C (v := (1 : Int32)) dX7_sheet_84 (by decide) ?_
          exact ab_iret C dX7_sheet_85 ⟨hw_19, _, rfl, f⟩
        · have f := f.1 c_17
          refine ab_iconst C (v := (0 : Int32)) dX7_sheet_76 (by decide) ?_
          refine ab_goto C (tgt := 81) dX7_sheet_77 (by decide) ?_
          refine ab_callV C (k := 0) (n := 0) (rest := []) [.int x2, .int (0 : Int32)] cl_X7_221 (mt_X1_lay (kx_sheet (vp_in_lt c_16)) hw f) rfl (by decide) (kx_sheet (vp_in_lt c_16)) (wf_lt hw (kx_sheet (vp_in_lt c_16)) rfl) ⟨rfl, rfl, Nat.le_of_ble_eq_true rfl, Nat.le_of_ble_eq_true rfl, Nat.zero_le _, Nat.zero_le _⟩ rfl rfl (Nat.le_of_ble_eq_true rfl) dX7_sheet_81 (ab_kv (k := 0) (n := 0) (fun h_20 hw_21 f => ?_))
          refine ab_iconst C (v := (1 : Int32)) dX7_sheet_84 (by decide) ?_
          exact ab_iret C dX7_sheet_85 ⟨hw_21, _, rfl, f⟩
      · have f := f.2 c_15
        refine ab_aload_n C 0 dX7_sheet_59 rfl rfl ?_
        refine ab_iconst C (v := (1 : Int32)) dX7_sheet_60 (by decide) ?_
        refine ab_callV C (k := 0) (n := 0) (rest := []) [.int (1 : Int32)] cl_X7_51 (mt_X7_error  hw f) rfl (by decide) kd_0 (wf_lt hw kd_0 rfl) ⟨rfl, rfl, Nat.le_of_ble_eq_true rfl, Nat.le_of_ble_eq_true rfl, Nat.zero_le _, Nat.zero_le _⟩ rfl rfl (Nat.le_of_ble_eq_true rfl) dX7_sheet_61 (ab_kh (k := 0) (n := 0) (fun v_22 h_23 hw_24 f => ?_))
        exact ab_iret C dX7_sheet_64 ⟨hw_24, _, rfl, f⟩
  · have f := f.2 c_7
    refine ab_iload_n C 3 dX7_sheet_39 rfl rfl ?_
    refine ab_if_ge C (tgt := 49) dX7_sheet_40 (by decide) (fun c_25 => ?_) (fun c_25 => ?_)
    · have f := f.1 c_25
      refine ab_iload_n C 2 dX7_sheet_49 rfl rfl ?_
      refine ab_if_eq C (tgt := 65) dX7_sheet_50 (by decide) (fun c_26 => ?_) (fun c_26 => ?_)
      · have f := f.1 c_26
        refine ab_aload_n C 0 dX7_sheet_65 rfl rfl ?_
        refine ab_getR C (q := 95) fl_X7_38 rfl kd_0 (wf_lt hw kd_0 rfl) (wr_7_5 hw) dX7_sheet_66 ?_
        refine ab_iload_n C 1 dX7_sheet_69 rfl rfl ?_
        obtain ⟨c_27, f⟩ := f
        refine ab_aaldR C (q := (97 + 2 * x1.toNatClampNeg)) kd_95 (Or.inr (Or.inr (Or.inr rfl))) (wf_lt hw kd_95 rfl) (wf_len hw kd_95 rfl rfl (by decide)) c_27 (j := x1.toNatClampNeg) rfl (wx_sheet hw (vp_in_lt c_27)) dX7_sheet_70 ?_
        refine ab_iload_n C 2 dX7_sheet_71 rfl rfl ?_
        refine ab_iload_n C 2 dX7_sheet_72 rfl rfl ?_
        refine ab_if_ne C (tgt := 80) dX7_sheet_73 (by decide) (fun c_28 => ?_) (fun c_28 => ?_)
        · have f := f.2 c_28
          refine ab_iload_n C 3 dX7_sheet_80 rfl rfl ?_
          refine ab_callV C (k := 0) (n := 0) (rest := []) [.int x2, .int x3] cl_X7_221 (mt_X1_lay (kx_sheet (vp_in_lt c_27)) hw f) rfl (by decide) (kx_sheet (vp_in_lt c_27)) (wf_lt hw (kx_sheet (vp_in_lt c_27)) rfl) ⟨rfl, rfl, Nat.le_of_ble_eq_true rfl, Nat.le_of_ble_eq_true rfl, Nat.zero_le _, Nat.zero_le _⟩ rfl rfl (Nat.le_of_ble_eq_true rfl) dX7_sheet_81 (ab_kv (k := 0) (n := 0) (fun h_29 hw_30 f => ?_))
          refine ab_iconst C (v := (1 : Int32)) dX7_sheet_84 (by decide) ?_
          exact ab_iret C dX7_sheet_85 ⟨hw_30, _, rfl, f⟩
        · have f := f.1 c_28
          refine ab_iconst C (v := (0 : Int32)) dX7_sheet_76 (by decide) ?_
          refine ab_goto C (tgt := 81) dX7_sheet_77 (by decide) ?_
          refine ab_callV C (k := 0) (n := 0) (rest := []) [.int x2, .int (0 : Int32)] cl_X7_221 (mt_X1_lay (kx_sheet (vp_in_lt c_27)) hw f) rfl (by decide) (kx_sheet (vp_in_lt c_27)) (wf_lt hw (kx_sheet (vp_in_lt c_27)) rfl) ⟨rfl, rfl, Nat.le_of_ble_eq_true rfl, Nat.le_of_ble_eq_true rfl, Nat.zero_le _, Nat.zero_le _⟩ rfl rfl (Nat.le_of_ble_eq_true rfl) dX7_sheet_81 (ab_kv (k := 0) (n := 0) (fun h_31 hw_32 f => ?_))
          refine ab_iconst C (v := (1 : Int32)) dX7_sheet_84 (by decide) ?_
          exact ab_iret C dX7_sheet_85 ⟨hw_32, _, rfl, f⟩
      · have f := f.2 c_26
        refine ab_iload_n C 3 dX7_sheet_53 rfl rfl ?_
        refine ab_bipush C (v := (24 : Int32)) dX7_sheet_54 (by decide) ?_
        refine ab_icmp_le C (tgt := 65) dX7_sheet_56 (by decide) (fun c_33 => ?_) (fun c_33 => ?_)
        · have f := f.1 c_33
          refine ab_aload_n C 0 dX7_sheet_65 rfl rfl ?_
          refine ab_getR C (q := 95) fl_X7_38 rfl kd_0 (wf_lt hw kd_0 rfl) (wr_7_5 hw) dX7_sheet_66 ?_
          refine ab_iload_n C 1 dX7_sheet_69 rfl rfl ?_
          obtain ⟨c_34, f⟩ := f
          refine ab_aaldR C (q := (97 + 2 * x1.toNatClampNeg)) kd_95 (Or.inr (Or.inr (Or.inr rfl))) (wf_lt hw kd_95 rfl) (wf_len hw kd_95 rfl rfl (by decide)) c_34 (j := x1.toNatClampNeg) rfl (wx_sheet hw (vp_in_lt c_34)) dX7_sheet_70 ?_
          refine ab_iload_n C 2 dX7_sheet_71 rfl rfl ?_
          refine ab_iload_n C 2 dX7_sheet_72 rfl rfl ?_
          refine ab_if_ne C (tgt := 80) dX7_sheet_73 (by decide) (fun c_35 => ?_) (fun c_35 => ?_)
          · have f := f.2 c_35
            refine ab_iload_n C 3 dX7_sheet_80 rfl rfl ?_
            refine ab_callV C (k := 0) (n := 0) (rest := []) [.int x2, .int x3] cl_X7_221 (mt_X1_lay (kx_sheet (vp_in_lt c_34)) hw f) rfl (by decide) (kx_sheet (vp_in_lt c_34)) (wf_lt hw (kx_sheet (vp_in_lt c_34)) rfl) ⟨rfl, rfl, Nat.le_of_ble_eq_true rfl, Nat.le_of_ble_eq_true rfl, Nat.zero_le _, Nat.zero_le _⟩ rfl rfl (Nat.le_of_ble_eq_true rfl) dX7_sheet_81 (ab_kv (k := 0) (n := 0) (fun h_36 hw_37 f => ?_))
            refine ab_iconst C (v := (1 : Int32)) dX7_sheet_84 (by decide) ?_
            exact ab_iret C dX7_sheet_85 ⟨hw_37, _, rfl, f⟩
          · have f := f.1 c_35
            refine ab_iconst C (v := (0 : Int32)) dX7_sheet_76 (by decide) ?_
            refine ab_goto C (tgt := 81) dX7_sheet_77 (by decide) ?_
            refine ab_callV C (k := 0) (n := 0) (rest := []) [.int x2, .int (0 : Int32)] cl_X7_221 (mt_X1_lay (kx_sheet (vp_in_lt c_34)) hw f) rfl (by decide) (kx_sheet (vp_in_lt c_34)) (wf_lt hw (kx_sheet (vp_in_lt c_34)) rfl) ⟨rfl, rfl, Nat.le_of_ble_eq_true rfl, Nat.le_of_ble_eq_true rfl, Nat.zero_le _, Nat.zero_le _⟩ rfl rfl (Nat.le_of_ble_eq_true rfl) dX7_sheet_81 (ab_kv (k := 0) (n := 0) (fun h_38 hw_39 f => ?_))
            refine ab_iconst C (v := (1 : Int32)) dX7_sheet_84 (by decide) ?_
            exact ab_iret C dX7_sheet_85 ⟨hw_39, _, rfl, f⟩
        · have f := f.2 c_33
          refine ab_aload_n C 0 dX7_sheet_59 rfl rfl ?_
          refine ab_iconst C (v := (1 : Int32)) dX7_sheet_60 (by decide) ?_
          refine ab_callV C (k := 0) (n := 0) (rest := []) [.int (1 : Int32)] cl_X7_51 (mt_X7_error  hw f) rfl (by decide) kd_0 (wf_lt hw kd_0 rfl) ⟨rfl, rfl, Nat.le_of_ble_eq_true rfl, Nat.le_of_ble_eq_true rfl, Nat.zero_le _, Nat.zero_le _⟩ rfl rfl (Nat.le_of_ble_eq_true rfl) dX7_sheet_61 (ab_kh (k := 0) (n := 0) (fun v_40 h_41 hw_42 f => ?_))
          exact ab_iret C dX7_sheet_64 ⟨hw_42, _, rfl, f⟩
    · have f := f.2 c_25
      refine ab_aload_n C 0 dX7_sheet_43 rfl rfl ?_
      refine ab_iconst C (v := (3 : Int32)) dX7_sheet_44 (by decide) ?_
      refine ab_callV C (k := 0) (n := 0) (rest := []) [.int (3 : Int32)] cl_X7_51 (mt_X7_error  hw f) rfl (by decide) kd_0 (wf_lt hw kd_0 rfl) ⟨rfl, rfl, Nat.le_of_ble_eq_true rfl, Nat.le_of_ble_eq_true rfl, Nat.zero_le _, Nat.zero_le _⟩ rfl rfl (Nat.le_of_ble_eq_true rfl) dX7_sheet_45 (ab_kh (k := 0) (n := 0) (fun v_43 h_44 hw_45 f => ?_))
      exact ab_iret C dX7_sheet_48 ⟨hw_45, _, rfl, f⟩
def wp_X7_sheet (x1 : Int32) (x2 : Int32) (x3 : Int32) (h : hp_T) (Q : Int32 → hp_T → Prop) : Prop :=
  wp_X7_isSheet x1 h (fun v_1 => ((v_1 = 0 → wp_X7_error (1 : Int32) h (fun v_3 h_4 => (Q v_3 h_4))) ∧ (¬ (v_1 = 0) → ((x2 = 0 → (wp_X7_sheet_b35 x1 x2 x3 Q  h)) ∧ (¬ (x2 = 0) → ((x2 = (8 : Int32) → (wp_X7_sheet_b35 x1 x2 x3 Q  h)) ∧ (¬ (x2 = (8 : Int32)) → ((x2 = (16 : Int32) → (wp_X7_sheet_b35 x1 x2 x3 Q  h)) ∧ (¬ (x2 = (16 : Int32)) → ((x2 = (32 : Int32) → (wp_X7_sheet_b35 x1 x2 x3 Q  h)) ∧ (¬ (x2 = (32 : Int32)) → wp_X7_error (1 : Int32) h (fun v_49 h_50 => (Q v_49 h_50)))))))))))))
set_option maxRecDepth 100000 in
set_option maxHeartbeats 4000000 in
theorem mt_X7_sheet {l : Launch} {G : ab_G} {x1 : Int32} {x2 : Int32} {x3 : Int32} {h : hp_T} {Q : Int32 → hp_T → Prop} (hw : wf h) (f : wp_X7_sheet x1 x2 x3 h Q) : ab_M l G yX7_sheet cX7_sheet 4 (some .int) rm_X7_sheet 0 0 [.ref (G.1 + 0), .int x1, .int x2, .int x3] h (po_h Q) := by
  refine ab_intro (own := RX7) (nm := "sheet") rfl rfl rfl (Nat.le_of_ble_eq_true rfl) (fun F C => ?_)
  show ab_W l G F 4 (ab_MQ G F (po_h Q) 0 0) 0 0 h [(0, .ref (G.1 + 0)), (1, .int x1), (2, .int x2), (3, .int x3)] [] 0
  unfold wp_X7_sheet at f
  refine ab_iload_n C 1 dX7_sheet_0 rfl rfl ?_
  refine ab_callS C (k := 0) (n := 0) (rest := []) [.int x1] cl_X7_218 (mt_X7_isSheet  hw f) ⟨rfl, rfl, Nat.le_of_ble_eq_true rfl, Nat.le_of_ble_eq_true rfl, Nat.zero_le _, Nat.zero_le _⟩ rfl rfl (Nat.le_of_ble_eq_true rfl) dX7_sheet_1 (ab_kp (k := 0) (n := 0) (fun v_1 f => ?_))
  refine ab_if_eq C (tgt := 29) dX7_sheet_4 (by decide) (fun c_2 => ?_) (fun c_2 => ?_)
  · have f := f.1 c_2
    refine ab_aload_n C 0 dX7_sheet_29 rfl rfl ?_
    refine ab_iconst C (v := (1 : Int32)) dX7_sheet_30 (by decide) ?_
    refine ab_callV C (k := 0) (n := 0) (rest := []) [.int (1 : Int32)] cl_X7_51 (mt_X7_error  hw f) rfl (by decide) kd_0 (wf_lt hw kd_0 rfl) ⟨rfl, rfl, Nat.le_of_ble_eq_true rfl, Nat.le_of_ble_eq_true rfl, Nat.zero_le _, Nat.zero_le _⟩ rfl rfl (Nat.le_of_ble_eq_true rfl) dX7_sheet_31 (ab_kh (k := 0) (n := 0) (fun v_3 h_4 hw_5 f => ?_))
    exact ab_iret C dX7_sheet_34 ⟨hw_5, _, rfl, f⟩
  · have f := f.2 c_2
    refine ab_iload_n C 2 dX7_sheet_7 rfl rfl ?_
    refine ab_if_eq C (tgt := 35) dX7_sheet_8 (by decide) (fun c_6 => ?_) (fun c_6 => ?_)
    · have f := f.1 c_6
      exact bt_X7_sheet_b35 C     h  hw f
    · have f := f.2 c_6
      refine ab_iload_n C 2 dX7_sheet_11 rfl rfl ?_
      refine ab_bipush C (v := (8 : Int32)) dX7_sheet_12 (by decide) ?_
      refine ab_icmp_eq C (tgt := 35) dX7_sheet_14 (by decide) (fun c_46 => ?_) (fun c_46 => ?_)
      · have f := f.1 c_46
        exact bt_X7_sheet_b35 C     h  hw f
      · have f := f.2 c_46
        refine ab_iload_n C 2 dX7_sheet_17 rfl rfl ?_
        refine ab_bipush C (v := (16 : Int32)) dX7_sheet_18 (by decide) ?_
        refine ab_icmp_eq C (tgt := 35) dX7_sheet_20 (by decide) (fun c_47 => ?_) (fun c_47 => ?_)
        · have f := f.1 c_47
          exact bt_X7_sheet_b35 C     h  hw f
        · have f := f.2 c_47
          refine ab_iload_n C 2 dX7_sheet_23 rfl rfl ?_
          refine ab_bipush C (v := (32 : Int32)) dX7_sheet_24 (by decide) ?_
          refine ab_icmp_eq C (tgt := 35) dX7_sheet_26 (by decide) (fun c_48 => ?_) (fun c_48 => ?_)
          · have f := f.1 c_48
            exact bt_X7_sheet_b35 C     h  hw f
          · have f := f.2 c_48
            refine ab_aload_n C 0 dX7_sheet_29 rfl rfl ?_
            refine ab_iconst C (v := (1 : Int32)) dX7_sheet_30 (by decide) ?_
            refine ab_callV C (k := 0) (n := 0) (rest := []) [.int (1 : Int32)] cl_X7_51 (mt_X7_error  hw f) rfl (by decide) kd_0 (wf_lt hw kd_0 rfl) ⟨rfl, rfl, Nat.le_of_ble_eq_true rfl, Nat.le_of_ble_eq_true rfl, Nat.zero_le _, Nat.zero_le _⟩ rfl rfl (Nat.le_of_ble_eq_true rfl) dX7_sheet_31 (ab_kh (k := 0) (n := 0) (fun v_49 h_50 hw_51 f => ?_))
            exact ab_iret C dX7_sheet_34 ⟨hw_51, _, rfl, f⟩
/-! X7_staysKnown -/
def rm_X7_staysKnown : Room := { frames := 8, cells := 0, slots := 0, locals := 242 }
def wp_X7_staysKnown_L23 (x1 : Int32) (x2 : Int32) (x3 : Int32) (Q : Int32 → hp_T → Prop) : Nat → Int32 → hp_T → Prop
  | 0 => fun _ _ => False
  | nn + 1 => fun y4 h => ((x2 ≤ y4 → (Q (1 : Int32) h)) ∧ (¬ (x2 ≤ y4) → wp_X2_passDay 61 h (fun v_6 h_7 => wp_X2_knowers 61 x1 h_7 (fun v_9 => ((v_9 = 0 → (Q (0 : Int32) h_7)) ∧ (¬ (v_9 = 0) → (wp_X7_staysKnown_L23 x1 x2 x3 Q nn) (y4 + (1 : Int32)) h_7))))))
set_option maxRecDepth 100000 in
set_option maxHeartbeats 4000000 in
theorem bt_X7_staysKnown_L23 {l : Launch} {G : ab_G} {F : ab_F} {x1 : Int32} {x2 : Int32} {x3 : Int32} {Q : Int32 → hp_T → Prop}  (C : ab_C G F rm_X7_staysKnown cX7_staysKnown 5 RX7 (some .boolean) "staysKnown")   : ∀ (nn : Nat) (y4 : Int32) (h : hp_T), wf h → wp_X7_staysKnown_L23 x1 x2 x3 Q nn y4 h → ab_W l G F 5 (ab_MQ G F (po_h Q) 0 0) 0 0 h [(0, .ref (G.1 + 0)), (1, .int x1), (2, .int x2), (4, .int y4)] [] 23 := by
  intro nn
  induction nn with
  | zero =>
    intro y4 h hw f
    exact absurd f id
  | succ nn ih =>
    intro y4 h hw f
    unfold wp_X7_staysKnown_L23 at f
    refine ab_iload C 3 dX7_staysKnown_23 rfl ?_
    refine ab_iload_n C 2 dX7_staysKnown_25 rfl rfl ?_
    refine ab_icmp_ge C (tgt := 56) dX7_staysKnown_26 (by decide) (fun c_5 => ?_) (fun c_5 => ?_)
    · have f := f.1 c_5
      refine ab_iconst C (v := (1 : Int32)) dX7_staysKnown_56 (by decide) ?_
      exact ab_zret C dX7_staysKnown_57 rfl ⟨hw, _, rfl, f⟩
    · have f := f.2 c_5
      refine ab_aload_n C 0 dX7_staysKnown_29 rfl rfl ?_
      refine ab_getR C (q := 61) fl_X7_19 rfl kd_0 (wf_lt hw kd_0 rfl) (wr_7_2 hw) dX7_staysKnown_30 ?_
      refine ab_callV C (k := 0) (n := 0) (rest := []) [] cl_X7_160 (mt_X2_passDay kd_61 hw f) rfl (by decide) kd_61 (wf_lt hw kd_61 rfl) ⟨rfl, rfl, Nat.le_of_ble_eq_true rfl, Nat.le_of_ble_eq_true rfl, Nat.zero_le _, Nat.zero_le _⟩ rfl rfl (Nat.le_of_ble_eq_true rfl) dX7_staysKnown_33 (ab_kh (k := 0) (n := 0) (fun v_6 h_7 hw_8 f => ?_))
      refine ab_pop C dX7_staysKnown_36 rfl ?_
      refine ab_aload_n C 0 dX7_staysKnown_37 rfl rfl ?_
      refine ab_getR C (q := 61) fl_X7_19 rfl kd_0 (wf_lt hw_8 kd_0 rfl) (wr_7_2 hw_8) dX7_staysKnown_38 ?_
      refine ab_iload_n C 1 dX7_staysKnown_41 rfl rfl ?_
      refine ab_callV C (k := 0) (n := 0) (rest := []) [.int x1] cl_X7_176 (mt_X2_knowers kd_61 hw_8 f) rfl (by decide) kd_61 (wf_lt hw_8 kd_61 rfl) ⟨rfl, rfl, Nat.le_of_ble_eq_true rfl, Nat.le_of_ble_eq_true rfl, Nat.zero_le _, Nat.zero_le _⟩ rfl rfl (Nat.le_of_ble_eq_true rfl) dX7_staysKnown_42 (ab_kp (k := 0) (n := 0) (fun v_9 f => ?_))
      refine ab_if_ne C (tgt := 50) dX7_staysKnown_45 (by decide) (fun c_10 => ?_) (fun c_10 => ?_)
      · have f := f.2 c_10
        refine ab_iinc C (lv' := [(4, .int (y4 + (1 : Int32))), (0, .ref (G.1 + 0)), (1, .int x1), (2, .int x2)]) 3 (v := (y4 + (1 : Int32))) dX7_staysKnown_50 rfl rfl (by decide) rfl ?_
        refine ab_goto C (tgt := 23) dX7_staysKnown_53 (by decide) ?_
        refine ab_sub (lv' := [(0, .ref (G.1 + 0)), (1, .int x1), (2, .int x2), (4, .int (y4 + (1 : Int32)))]) [1, 2, 3, 0] rfl ?_
        exact ih (y4 + (1 : Int32)) h_7  hw_8 f
      · have f := f.1 c_10
        refine ab_iconst C (v := (0 : Int32)) dX7_staysKnown_48 (by decide) ?_
        exact ab_zret C dX7_staysKnown_49 rfl ⟨hw_8, _, rfl, f⟩
def wp_X7_staysKnown (x1 : Int32) (x2 : Int32) (x3 : Int32) (h : hp_T) (Q : Int32 → hp_T → Prop) : Prop :=
  wp_X2_copyFrom 61 1 h (fun h_1 => wp_X2_teachOnly 61 x1 x3 h_1 (fun h_3 => (∃ n0, wp_X7_staysKnown_L23 x1 x2 x3 Q  n0 (0 : Int32) h_3)))
set_option maxRecDepth 100000 in
set_option maxHeartbeats 4000000 in
theorem mt_X7_staysKnown {l : Launch} {G : ab_G} {x1 : Int32} {x2 : Int32} {x3 : Int32} {h : hp_T} {Q : Int32 → hp_T → Prop} (hw : wf h) (f : wp_X7_staysKnown x1 x2 x3 h Q) : ab_M l G yX7_staysKnown cX7_staysKnown 5 (some .boolean) rm_X7_staysKnown 0 0 [.ref (G.1 + 0), .int x1, .int x2, .int x3] h (po_h Q) := by
  refine ab_intro (own := RX7) (nm := "staysKnown") rfl rfl rfl (Nat.le_of_ble_eq_true rfl) (fun F C => ?_)
  show ab_W l G F 5 (ab_MQ G F (po_h Q) 0 0) 0 0 h [(0, .ref (G.1 + 0)), (1, .int x1), (2, .int x2), (3, .int x3)] [] 0
  unfold wp_X7_staysKnown at f
  refine ab_aload_n C 0 dX7_staysKnown_0 rfl rfl ?_
  refine ab_getR C (q := 61) fl_X7_19 rfl kd_0 (wf_lt hw kd_0 rfl) (wr_7_2 hw) dX7_staysKnown_1 ?_
  refine ab_aload_n C 0 dX7_staysKnown_4 rfl rfl ?_
  refine ab_getR C (q := 1) fl_X7_10 rfl kd_0 (wf_lt hw kd_0 rfl) (wr_7_0 hw) dX7_staysKnown_5 ?_
  refine ab_callV C (k := 0) (n := 0) (rest := []) [.ref (G.1 + 1)] cl_X7_249 (mt_X2_copyFrom kd_61 kd_1 hw f) rfl (by decide) kd_61 (wf_lt hw kd_61 rfl) ⟨rfl, rfl, Nat.le_of_ble_eq_true rfl, Nat.le_of_ble_eq_true rfl, Nat.zero_le _, Nat.zero_le _⟩ rfl rfl (Nat.le_of_ble_eq_true rfl) dX7_staysKnown_8 (ab_kv (k := 0) (n := 0) (fun h_1 hw_2 f => ?_))
  refine ab_aload_n C 0 dX7_staysKnown_11 rfl rfl ?_
  refine ab_getR C (q := 61) fl_X7_19 rfl kd_0 (wf_lt hw_2 kd_0 rfl) (wr_7_2 hw_2) dX7_staysKnown_12 ?_
  refine ab_iload_n C 1 dX7_staysKnown_15 rfl rfl ?_
  refine ab_iload_n C 3 dX7_staysKnown_16 rfl rfl ?_
  refine ab_callV C (k := 0) (n := 0) (rest := []) [.int x1, .int x3] cl_X7_269 (mt_X2_teachOnly kd_61 hw_2 f) rfl (by decide) kd_61 (wf_lt hw_2 kd_61 rfl) ⟨rfl, rfl, Nat.le_of_ble_eq_true rfl, Nat.le_of_ble_eq_true rfl, Nat.zero_le _, Nat.zero_le _⟩ rfl rfl (Nat.le_of_ble_eq_true rfl) dX7_staysKnown_17 (ab_kv (k := 0) (n := 0) (fun h_3 hw_4 f => ?_))
  refine ab_iconst C (v := (0 : Int32)) dX7_staysKnown_20 (by decide) ?_
  refine ab_istore C (lv' := [(4, .int (0 : Int32)), (0, .ref (G.1 + 0)), (1, .int x1), (2, .int x2), (3, .int x3)]) dX7_staysKnown_21 (by decide) rfl ?_
  obtain ⟨n0, f⟩ := f
  refine ab_sub (lv' := [(0, .ref (G.1 + 0)), (1, .int x1), (2, .int x2), (4, .int (0 : Int32))]) [1, 2, 3, 0] rfl ?_
  exact bt_X7_staysKnown_L23 C    n0 (0 : Int32) h_3  hw_4 f
/-! X7_storm -/
def rm_X7_storm : Room := { frames := 7, cells := 0, slots := 0, locals := 211 }
def wp_X7_storm_L40 (x1 : Int32) (Q : Int32 → hp_T → Prop) (lp_22 : Int32 → Int32 → Int32 → hp_T → Prop) : Nat → Int32 → Int32 → Int32 → Int32 → hp_T → Prop
  | 0 => fun _ _ _ _ _ => False
  | nn + 1 => fun y2 y3 y4 y5 h => (((hp_i h 1 1) ≤ y5 → lp_22 y2 y3 (y4 + (1 : Int32)) h) ∧ (¬ ((hp_i h 1 1) ≤ y5) → wp_X2_canSpare 1 y4 y5 h (fun v_10 => ((v_10 = 0 → (wp_X7_storm_L40 x1 Q lp_22 nn) y2 y3 y4 (y5 + (1 : Int32)) h) ∧ (¬ (v_10 = 0) → ((0 ≤ y3 → (wp_X7_storm_L40 x1 Q lp_22 nn) (y2 + (1 : Int32)) y3 y4 (y5 + (1 : Int32)) h) ∧ (¬ (0 ≤ y3) → (wp_X7_storm_L40 x1 Q lp_22 nn) (y2 + (1 : Int32)) (((10 : Int32) * y4) + y5) y4 (y5 + (1 : Int32)) h)))))))
set_option maxRecDepth 100000 in
set_option maxHeartbeats 4000000 in
theorem bt_X7_storm_L40 {l : Launch} {G : ab_G} {F : ab_F} {x1 : Int32} {Q : Int32 → hp_T → Prop} {lp_22 : Int32 → Int32 → Int32 → hp_T → Prop} (C : ab_C G F rm_X7_storm cX7_storm 6 RX7 (some .int) "storm")  (il_22 : ∀ (y2 : Int32) (y3 : Int32) (y4 : Int32) (h : hp_T), wf h → lp_22 y2 y3 y4 h → ab_W l G F 6 (ab_MQ G F (po_h Q) 0 0) 0 0 h [(0, .ref (G.1 + 0)), (1, .int x1), (2, .int y2), (3, .int y3), (4, .int y4)] [] 22) : ∀ (nn : Nat) (y2 : Int32) (y3 : Int32) (y4 : Int32) (y5 : Int32) (h : hp_T), wf h → wp_X7_storm_L40 x1 Q lp_22 nn y2 y3 y4 y5 h → ab_W l G F 6 (ab_MQ G F (po_h Q) 0 0) 0 0 h [(0, .ref (G.1 + 0)), (1, .int x1), (2, .int y2), (3, .int y3), (4, .int y4), (5, .int y5)] [] 40 := by
  intro nn
  induction nn with
  | zero =>
    intro y2 y3 y4 y5 h hw f
    exact absurd f id
  | succ nn ih =>
    intro y2 y3 y4 y5 h hw f
    unfold wp_X7_storm_L40 at f
    refine ab_iload C 5 dX7_storm_40 rfl ?_
    refine ab_aload_n C 0 dX7_storm_42 rfl rfl ?_
    refine ab_getR C (q := 1) fl_X7_10 rfl kd_0 (wf_lt hw kd_0 rfl) (wr_7_0 hw) dX7_storm_43 ?_
    refine ab_getI C fl_X7_55 rfl kd_1 (wf_lt hw kd_1 rfl) dX7_storm_46 ?_
    refine ab_icmp_ge C (tgt := 92) dX7_storm_49 (by decide) (fun c_9 => ?_) (fun c_9 => ?_)
    · have f := f.1 c_9
      refine ab_iinc C (lv' := [(4, .int (y4 + (1 : Int32))), (0, .ref (G.1 + 0)), (1, .int x1), (2, .int y2), (3, .int y3), (5, .int y5)]) 4 (v := (y4 + (1 : Int32))) dX7_storm_92 rfl rfl (by decide) rfl ?_
      refine ab_goto C (tgt := 22) dX7_storm_95 (by decide) ?_
      refine ab_sub (lv' := [(0, .ref (G.1 + 0)), (1, .int x1), (2, .int y2), (3, .int y3), (4, .int (y4 + (1 : Int32)))]) [1, 2, 3, 4, 0] rfl ?_
      exact il_22 y2 y3 (y4 + (1 : Int32)) h  hw f
    · have f := f.2 c_9
      refine ab_aload_n C 0 dX7_storm_52 rfl rfl ?_
      refine ab_getR C (q := 1) fl_X7_10 rfl kd_0 (wf_lt hw kd_0 rfl) (wr_7_0 hw) dX7_storm_53 ?_
      refine ab_iload C 4 dX7_storm_56 rfl ?_
      refine ab_iload C 5 dX7_storm_58 rfl ?_
      refine ab_callV C (k := 0) (n := 0) (rest := []) [.int y4, .int y5] cl_X7_187 (mt_X2_canSpare kd_1 hw f) rfl (by decide) kd_1 (wf_lt hw kd_1 rfl) ⟨rfl, rfl, Nat.le_of_ble_eq_true rfl, Nat.le_of_ble_eq_true rfl, Nat.zero_le _, Nat.zero_le _⟩ rfl rfl (Nat.le_of_ble_eq_true rfl) dX7_storm_60 (ab_kp (k := 0) (n := 0) (fun v_10 f => ?_))
      refine ab_if_eq C (tgt := 86) dX7_storm_63 (by decide) (fun c_11 => ?_) (fun c_11 => ?_)
      · have f := f.1 c_11
        refine ab_iinc C (lv' := [(5, .int (y5 + (1 : Int32))), (0, .ref (G.1 + 0)), (1, .int x1), (2, .int y2), (3, .int y3), (4, .int y4)]) 5 (v := (y5 + (1 : Int32))) dX7_storm_86 rfl rfl (by decide) rfl ?_
        refine ab_goto C (tgt := 40) dX7_storm_89 (by decide) ?_
        refine ab_sub (lv' := [(0, .ref (G.1 + 0)), (1, .int x1), (2, .int y2), (3, .int y3), (4, .int y4), (5, .int (y5 + (1 : Int32)))]) [1, 2, 3, 4, 5, 0] rfl ?_
        exact ih y2 y3 y4 (y5 + (1 : Int32)) h  hw f
      · have f := f.2 c_11
        refine ab_iinc C (lv' := [(2, .int (y2 + (1 : Int32))), (0, .ref (G.1 + 0)), (1, .int x1), (3, .int y3), (4, .int y4), (5, .int y5)]) 2 (v := (y2 + (1 : Int32))) dX7_storm_66 rfl rfl (by decide) rfl ?_
        refine ab_iload_n C 3 dX7_storm_69 rfl rfl ?_
        refine ab_if_ge C (tgt := 84) dX7_storm_70 (by decide) (fun c_12 => ?_) (fun c_12 => ?_)
        · have f := f.1 c_12
          refine ab_iload_n C 3 dX7_storm_84 rfl rfl ?_
          refine ab_istore_n C (lv' := [(3, .int y3), (2, .int (y2 + (1 : Int32))), (0, .ref (G.1 + 0)), (1, .int x1), (4, .int y4), (5, .int y5)]) dX7_storm_85 rfl (by decide) rfl ?_
          refine ab_iinc C (lv' := [(5, .int (y5 + (1 : Int32))), (3, .int y3), (2, .int (y2 + (1 : Int32))), (0, .ref (G.1 + 0)), (1, .int x1), (4, .int y4)]) 5 (v := (y5 + (1 : Int32))) dX7_storm_86 rfl rfl (by decide) rfl ?_
          refine ab_goto C (tgt := 40) dX7_storm_89 (by decide) ?_
          refine ab_sub (lv' := [(0, .ref (G.1 + 0)), (1, .int x1), (2, .int (y2 + (1 : Int32))), (3, .int y3), (4, .int y4), (5, .int (y5 + (1 : Int32)))]) [3, 4, 2, 1, 5, 0] rfl ?_
          exact ih (y2 + (1 : Int32)) y3 y4 (y5 + (1 : Int32)) h  hw f
        · have f := f.2 c_12
          refine ab_bipush C (v := (10 : Int32)) dX7_storm_73 (by decide) ?_
          refine ab_iload C 4 dX7_storm_75 rfl ?_
          refine ab_imul C dX7_storm_77 ?_
          refine ab_iload C 5 dX7_storm_78 rfl ?_
          refine ab_iadd C dX7_storm_80 ?_
          refine ab_goto C (tgt := 85) dX7_storm_81 (by decide) ?_
          refine ab_istore_n C (lv' := [(3, .int (((10 : Int32) * y4) + y5)), (2, .int (y2 + (1 : Int32))), (0, .ref (G.1 + 0)), (1, .int x1), (4, .int y4), (5, .int y5)]) dX7_storm_85 rfl (by decide) rfl ?_
          refine ab_iinc C (lv' := [(5, .int (y5 + (1 : Int32))), (3, .int (((10 : Int32) * y4) + y5)), (2, .int (y2 + (1 : Int32))), (0, .ref (G.1 + 0)), (1, .int x1), (4, .int y4)]) 5 (v := (y5 + (1 : Int32))) dX7_storm_86 rfl rfl (by decide) rfl ?_
          refine ab_goto C (tgt := 40) dX7_storm_89 (by decide) ?_
          refine ab_sub (lv' := [(0, .ref (G.1 + 0)), (1, .int x1), (2, .int (y2 + (1 : Int32))), (3, .int (((10 : Int32) * y4) + y5)), (4, .int y4), (5, .int (y5 + (1 : Int32)))]) [3, 4, 2, 1, 5, 0] rfl ?_
          exact ih (y2 + (1 : Int32)) (((10 : Int32) * y4) + y5) y4 (y5 + (1 : Int32)) h  hw f
def wp_X7_storm_L22 (x1 : Int32) (Q : Int32 → hp_T → Prop) : Nat → Int32 → Int32 → Int32 → hp_T → Prop
  | 0 => fun _ _ _ _ => False
  | nn + 1 => fun y2 y3 y4 h => (((hp_i h 1 1) ≤ y4 → ((x1 = 0 → (Q y2 h)) ∧ (¬ (x1 = 0) → ((0 ≤ y3 → (Q y3 h)) ∧ (¬ (0 ≤ y3) → wp_X7_error (2 : Int32) h (fun v_6 h_7 => (Q v_6 h_7))))))) ∧ (¬ ((hp_i h 1 1) ≤ y4) → (∃ n0, wp_X7_storm_L40 x1 Q (wp_X7_storm_L22 x1 Q nn) n0 y2 y3 y4 (y4 + (1 : Int32)) h)))
set_option maxRecDepth 100000 in
set_option maxHeartbeats 4000000 in
theorem bt_X7_storm_L22 {l : Launch} {G : ab_G} {F : ab_F} {x1 : Int32} {Q : Int32 → hp_T → Prop}  (C : ab_C G F rm_X7_storm cX7_storm 6 RX7 (some .int) "storm")   : ∀ (nn : Nat) (y2 : Int32) (y3 : Int32) (y4 : Int32) (h : hp_T), wf h → wp_X7_storm_L22 x1 Q nn y2 y3 y4 h → ab_W l G F 6 (ab_MQ G F (po_h Q) 0 0) 0 0 h [(0, .ref (G.1 + 0)), (1, .int x1), (2, .int y2), (3, .int y3), (4, .int y4)] [] 22 := by
  intro nn
  induction nn with
  | zero =>
    intro y2 y3 y4 h hw f
    exact absurd f id
  | succ nn ih =>
    intro y2 y3 y4 h hw f
    unfold wp_X7_storm_L22 at f
    refine ab_iload C 4 dX7_storm_22 rfl ?_
    refine ab_aload_n C 0 dX7_storm_24 rfl rfl ?_
    refine ab_getR C (q := 1) fl_X7_10 rfl kd_0 (wf_lt hw kd_0 rfl) (wr_7_0 hw) dX7_storm_25 ?_
    refine ab_getI C fl_X7_55 rfl kd_1 (wf_lt hw kd_1 rfl) dX7_storm_28 ?_
    refine ab_icmp_ge C (tgt := 98) dX7_storm_31 (by decide) (fun c_3 => ?_) (fun c_3 => ?_)
    · have f := f.1 c_3
      refine ab_iload_n C 1 dX7_storm_98 rfl rfl ?_
      refine ab_if_ne C (tgt := 104) dX7_storm_99 (by decide) (fun c_4 => ?_) (fun c_4 => ?_)
      · have f := f.2 c_4
        refine ab_iload_n C 3 dX7_storm_104 rfl rfl ?_
        refine ab_if_ge C (tgt := 116) dX7_storm_105 (by decide) (fun c_5 => ?_) (fun c_5 => ?_)
        · have f := f.1 c_5
          refine ab_iload_n C 3 dX7_storm_116 rfl rfl ?_
          exact ab_iret C dX7_storm_117 ⟨hw, _, rfl, f⟩
        · have f := f.2 c_5
          refine ab_aload_n C 0 dX7_storm_108 rfl rfl ?_
          refine ab_iconst C (v := (2 : Int32)) dX7_storm_109 (by decide) ?_
          refine ab_callV C (k := 0) (n := 0) (rest := []) [.int (2 : Int32)] cl_X7_51 (mt_X7_error  hw f) rfl (by decide) kd_0 (wf_lt hw kd_0 rfl) ⟨rfl, rfl, Nat.le_of_ble_eq_true rfl, Nat.le_of_ble_eq_true rfl, Nat.zero_le _, Nat.zero_le _⟩ rfl rfl (Nat.le_of_ble_eq_true rfl) dX7_storm_110 (ab_kh (k := 0) (n := 0) (fun v_6 h_7 hw_8 f => ?_))
          refine ab_goto C (tgt := 117) dX7_storm_113 (by decide) ?_
          exact ab_iret C dX7_storm_117 ⟨hw_8, _, rfl, f⟩
      · have f := f.1 c_4
        refine ab_iload_n C 2 dX7_storm_102 rfl rfl ?_
        exact ab_iret C dX7_storm_103 ⟨hw, _, rfl, f⟩
    · have f := f.2 c_3
      refine ab_iload C 4 dX7_storm_34 rfl ?_
      refine ab_iconst C (v := (1 : Int32)) dX7_storm_36 (by decide) ?_
      refine ab_iadd C dX7_storm_37 ?_
      refine ab_istore C (lv' := [(5, .int (y4 + (1 : Int32))), (0, .ref (G.1 + 0)), (1, .int x1), (2, .int y2), (3, .int y3), (4, .int y4)]) dX7_storm_38 (by decide) rfl ?_
      obtain ⟨n0, f⟩ := f
      refine ab_sub (lv' := [(0, .ref (G.1 + 0)), (1, .int x1), (2, .int y2), (3, .int y3), (4, .int y4), (5, .int (y4 + (1 : Int32)))]) [1, 2, 3, 4, 5, 0] rfl ?_
      exact bt_X7_storm_L40 C   ih n0 y2 y3 y4 (y4 + (1 : Int32)) h  hw f
def wp_X7_storm (x1 : Int32) (h : hp_T) (Q : Int32 → hp_T → Prop) : Prop :=
  wp_X7_within x1 (0 : Int32) (1 : Int32) h (fun v_1 => ((v_1 = 0 → wp_X7_error (1 : Int32) h (fun v_13 h_14 => (Q v_13 h_14))) ∧ (¬ (v_1 = 0) → (∃ n0, wp_X7_storm_L22 x1 Q  n0 (0 : Int32) (-1 : Int32) (0 : Int32) h))))
set_option maxRecDepth 100000 in
set_option maxHeartbeats 4000000 in
theorem mt_X7_storm {l : Launch} {G : ab_G} {x1 : Int32} {h : hp_T} {Q : Int32 → hp_T → Prop} (hw : wf h) (f : wp_X7_storm x1 h Q) : ab_M l G yX7_storm cX7_storm 6 (some .int) rm_X7_storm 0 0 [.ref (G.1 + 0), .int x1] h (po_h Q) := by
  refine ab_intro (own := RX7) (nm := "storm") rfl rfl rfl (Nat.le_of_ble_eq_true rfl) (fun F C => ?_)
  show ab_W l G F 6 (ab_MQ G F (po_h Q) 0 0) 0 0 h [(0, .ref (G.1 + 0)), (1, .int x1)] [] 0
  unfold wp_X7_storm at f
  refine ab_iload_n C 1 dX7_storm_0 rfl rfl ?_
  refine ab_iconst C (v := (0 : Int32)) dX7_storm_1 (by decide) ?_
  refine ab_iconst C (v := (1 : Int32)) dX7_storm_2 (by decide) ?_
  refine ab_callS C (k := 0) (n := 0) (rest := []) [.int x1, .int (0 : Int32), .int (1 : Int32)] cl_X7_47 (mt_X7_within  hw f) ⟨rfl, rfl, Nat.le_of_ble_eq_true rfl, Nat.le_of_ble_eq_true rfl, Nat.zero_le _, Nat.zero_le _⟩ rfl rfl (Nat.le_of_ble_eq_true rfl) dX7_storm_3 (ab_kp (k := 0) (n := 0) (fun v_1 f => ?_))
  refine ab_if_ne C (tgt := 15) dX7_storm_6 (by decide) (fun c_2 => ?_) (fun c_2 => ?_)
  · have f := f.2 c_2
    refine ab_iconst C (v := (0 : Int32)) dX7_storm_15 (by decide) ?_
    refine ab_istore_n C (lv' := [(2, .int (0 : Int32)), (0, .ref (G.1 + 0)), (1, .int x1)]) dX7_storm_16 rfl (by decide) rfl ?_
    refine ab_iconst C (v := (-1 : Int32)) dX7_storm_17 (by decide) ?_
    refine ab_istore_n C (lv' := [(3, .int (-1 : Int32)), (2, .int (0 : Int32)), (0, .ref (G.1 + 0)), (1, .int x1)]) dX7_storm_18 rfl (by decide) rfl ?_
    refine ab_iconst C (v := (0 : Int32)) dX7_storm_19 (by decide) ?_
    refine ab_istore C (lv' := [(4, .int (0 : Int32)), (3, .int (-1 : Int32)), (2, .int (0 : Int32)), (0, .ref (G.1 + 0)), (1, .int x1)]) dX7_storm_20 (by decide) rfl ?_
    obtain ⟨n0, f⟩ := f
    refine ab_sub (lv' := [(0, .ref (G.1 + 0)), (1, .int x1), (2, .int (0 : Int32)), (3, .int (-1 : Int32)), (4, .int (0 : Int32))]) [3, 4, 2, 1, 0] rfl ?_
    exact bt_X7_storm_L22 C    n0 (0 : Int32) (-1 : Int32) (0 : Int32) h  hw f
  · have f := f.1 c_2
    refine ab_aload_n C 0 dX7_storm_9 rfl rfl ?_
    refine ab_iconst C (v := (1 : Int32)) dX7_storm_10 (by decide) ?_
    refine ab_callV C (k := 0) (n := 0) (rest := []) [.int (1 : Int32)] cl_X7_51 (mt_X7_error  hw f) rfl (by decide) kd_0 (wf_lt hw kd_0 rfl) ⟨rfl, rfl, Nat.le_of_ble_eq_true rfl, Nat.le_of_ble_eq_true rfl, Nat.zero_le _, Nat.zero_le _⟩ rfl rfl (Nat.le_of_ble_eq_true rfl) dX7_storm_11 (ab_kh (k := 0) (n := 0) (fun v_13 h_14 hw_15 f => ?_))
    exact ab_iret C dX7_storm_14 ⟨hw_15, _, rfl, f⟩
/-! X7_task -/
def rm_X7_task : Room := { frames := 4, cells := 0, slots := 0, locals := 142 }
def wp_X7_task (x1 : Int32) (x2 : Int32) (x3 : Int32) (h : hp_T) (Q : Int32 → hp_T → Prop) : Prop :=
  wp_X7_within x1 (0 : Int32) (3 : Int32) h (fun v_1 => ((v_1 = 0 → wp_X7_error (1 : Int32) h (fun v_3 h_4 => (Q v_3 h_4))) ∧ (¬ (v_1 = 0) → wp_X7_isKnack x2 h (fun v_6 => ((v_6 = 0 → wp_X7_error (1 : Int32) h (fun v_8 h_9 => (Q v_8 h_9))) ∧ (¬ (v_6 = 0) → wp_X7_within x3 (0 : Int32) (6 : Int32) h (fun v_11 => ((v_11 = 0 → wp_X7_error (1 : Int32) h (fun v_20 h_21 => (Q v_20 h_21))) ∧ (¬ (v_11 = 0) → (vp_in x1 4) ∧ (∀ h_14, h_14 = hp_si h (1 + 26 + x1.toNatClampNeg) 0 x2 → (∀ h_17, h_17 = hp_si h_14 (1 + 26 + x1.toNatClampNeg) 1 x3 → (Q (((10 : Int32) * (hp_i h (1 + 26 + x1.toNatClampNeg) 0)) + (hp_i h (1 + 26 + x1.toNatClampNeg) 1)) h_17))))))))))))
set_option maxRecDepth 100000 in
set_option maxHeartbeats 4000000 in
theorem mt_X7_task {l : Launch} {G : ab_G} {x1 : Int32} {x2 : Int32} {x3 : Int32} {h : hp_T} {Q : Int32 → hp_T → Prop} (hw : wf h) (f : wp_X7_task x1 x2 x3 h Q) : ab_M l G yX7_task cX7_task 6 (some .int) rm_X7_task 0 0 [.ref (G.1 + 0), .int x1, .int x2, .int x3] h (po_h Q) := by
  refine ab_intro (own := RX7) (nm := "task") rfl rfl rfl (Nat.le_of_ble_eq_true rfl) (fun F C => ?_)
  show ab_W l G F 6 (ab_MQ G F (po_h Q) 0 0) 0 0 h [(0, .ref (G.1 + 0)), (1, .int x1), (2, .int x2), (3, .int x3)] [] 0
  unfold wp_X7_task at f
  refine ab_iload_n C 1 dX7_task_0 rfl rfl ?_
  refine ab_iconst C (v := (0 : Int32)) dX7_task_1 (by decide) ?_
  refine ab_iconst C (v := (3 : Int32)) dX7_task_2 (by decide) ?_
  refine ab_callS C (k := 0) (n := 0) (rest := []) [.int x1, .int (0 : Int32), .int (3 : Int32)] cl_X7_47 (mt_X7_within  hw f) ⟨rfl, rfl, Nat.le_of_ble_eq_true rfl, Nat.le_of_ble_eq_true rfl, Nat.zero_le _, Nat.zero_le _⟩ rfl rfl (Nat.le_of_ble_eq_true rfl) dX7_task_3 (ab_kp (k := 0) (n := 0) (fun v_1 f => ?_))
  refine ab_if_eq C (tgt := 26) dX7_task_6 (by decide) (fun c_2 => ?_) (fun c_2 => ?_)
  · have f := f.1 c_2
    refine ab_aload_n C 0 dX7_task_26 rfl rfl ?_
    refine ab_iconst C (v := (1 : Int32)) dX7_task_27 (by decide) ?_
    refine ab_callV C (k := 0) (n := 0) (rest := []) [.int (1 : Int32)] cl_X7_51 (mt_X7_error  hw f) rfl (by decide) kd_0 (wf_lt hw kd_0 rfl) ⟨rfl, rfl, Nat.le_of_ble_eq_true rfl, Nat.le_of_ble_eq_true rfl, Nat.zero_le _, Nat.zero_le _⟩ rfl rfl (Nat.le_of_ble_eq_true rfl) dX7_task_28 (ab_kh (k := 0) (n := 0) (fun v_3 h_4 hw_5 f => ?_))
    exact ab_iret C dX7_task_31 ⟨hw_5, _, rfl, f⟩
  · have f := f.2 c_2
    refine ab_iload_n C 2 dX7_task_9 rfl rfl ?_
    refine ab_callS C (k := 0) (n := 0) (rest := []) [.int x2] cl_X7_95 (mt_X7_isKnack  hw f) ⟨rfl, rfl, Nat.le_of_ble_eq_true rfl, Nat.le_of_ble_eq_true rfl, Nat.zero_le _, Nat.zero_le _⟩ rfl rfl (Nat.le_of_ble_eq_true rfl) dX7_task_10 (ab_kp (k := 0) (n := 0) (fun v_6 f => ?_))
    refine ab_if_eq C (tgt := 26) dX7_task_13 (by decide) (fun c_7 => ?_) (fun c_7 => ?_)
    · have f := f.1 c_7
      refine ab_aload_n C 0 dX7_task_26 rfl rfl ?_
      refine ab_iconst C (v := (1 : Int32)) dX7_task_27 (by decide) ?_
      refine ab_callV C (k := 0) (n := 0) (rest := []) [.int (1 : Int32)] cl_X7_51 (mt_X7_error  hw f) rfl (by decide) kd_0 (wf_lt hw kd_0 rfl) ⟨rfl, rfl, Nat.le_of_ble_eq_true rfl, Nat.le_of_ble_eq_true rfl, Nat.zero_le _, Nat.zero_le _⟩ rfl rfl (Nat.le_of_ble_eq_true rfl) dX7_task_28 (ab_kh (k := 0) (n := 0) (fun v_8 h_9 hw_10 f => ?_))
      exact ab_iret C dX7_task_31 ⟨hw_10, _, rfl, f⟩
    · have f := f.2 c_7
      refine ab_iload_n C 3 dX7_task_16 rfl rfl ?_
      refine ab_iconst C (v := (0 : Int32)) dX7_task_17 (by decide) ?_
      refine ab_bipush C (v := (6 : Int32)) dX7_task_18 (by decide) ?_
      refine ab_callS C (k := 0) (n := 0) (rest := []) [.int x3, .int (0 : Int32), .int (6 : Int32)] cl_X7_47 (mt_X7_within  hw f) ⟨rfl, rfl, Nat.le_of_ble_eq_true rfl, Nat.le_of_ble_eq_true rfl, Nat.zero_le _, Nat.zero_le _⟩ rfl rfl (Nat.le_of_ble_eq_true rfl) dX7_task_20 (ab_kp (k := 0) (n := 0) (fun v_11 f => ?_))
      refine ab_if_ne C (tgt := 32) dX7_task_23 (by decide) (fun c_12 => ?_) (fun c_12 => ?_)
      · have f := f.2 c_12
        refine ab_aload_n C 0 dX7_task_32 rfl rfl ?_
        refine ab_getR C (q := 1) fl_X7_10 rfl kd_0 (wf_lt hw kd_0 rfl) (wr_7_0 hw) dX7_task_33 ?_
        refine ab_getR C (q := (1 + 4)) fl_X7_124 rfl kd_1 (wf_lt hw kd_1 rfl) (wr_2_7 hw kd_1) dX7_task_36 ?_
        refine ab_iload_n C 1 dX7_task_39 rfl rfl ?_
        obtain ⟨c_13, f⟩ := f
        refine ab_aaldR C (q := (1 + 26 + x1.toNatClampNeg)) (kn_2_7 kd_1) (Or.inr (Or.inl rfl)) (wf_lt hw (kn_2_7 kd_1) rfl) (wf_len hw (kn_2_7 kd_1) rfl rfl (by decide)) c_13 (j := x1.toNatClampNeg) rfl (wx_task hw kd_1 (vp_in_lt c_13)) dX7_task_40 ?_
        refine ab_astore C (lv' := [(4, .ref (G.1 + (1 + 26 + x1.toNatClampNeg))), (0, .ref (G.1 + 0)), (1, .int x1), (2, .int x2), (3, .int x3)]) dX7_task_41 (by decide) rfl ?_
        refine ab_bipush C (v := (10 : Int32)) dX7_task_43 (by decide) ?_
        refine ab_aload C 0 dX7_task_45 rfl ?_
        refine ab_getI C fl_X7_128 rfl (kx_task kd_1 (vp_in_lt c_13)) (wf_lt hw (kx_task kd_1 (vp_in_lt c_13)) rfl) dX7_task_47 ?_
        refine ab_imul C dX7_task_50 ?_
        refine ab_aload C 0 dX7_task_51 rfl ?_
        refine ab_getI C fl_X7_133 rfl (kx_task kd_1 (vp_in_lt c_13)) (wf_lt hw (kx_task kd_1 (vp_in_lt c_13)) rfl) dX7_task_53 ?_
        refine ab_iadd C dX7_task_56 ?_
        refine ab_istore C (lv' := [(5, .int (((10 : Int32) * (hp_i h (1 + 26 + x1.toNatClampNeg) 0)) + (hp_i h (1 + 26 + x1.toNatClampNeg) 1))), (4, .ref (G.1 + (1 + 26 + x1.toNatClampNeg))), (0, .ref (G.1 + 0)), (1, .int x1), (2, .int x2), (3, .int x3)]) dX7_task_57 (by decide) rfl ?_
        refine ab_aload C 1 dX7_task_59 rfl ?_
        refine ab_iload_n C 4 dX7_task_61 rfl rfl ?_
        refine ab_putI C fl_X7_128 rfl (kx_task kd_1 (vp_in_lt c_13)) (wf_lt hw (kx_task kd_1 (vp_in_lt c_13)) rfl) rfl rfl dX7_task_62 (fun h_14 e_15 => ?_)
        have f := f h_14 e_15
        have hw_16 := wf_si e_15 hw
        refine ab_aload C 1 dX7_task_65 rfl ?_
        refine ab_iload_n C 5 dX7_task_67 rfl rfl ?_
        refine ab_putI C fl_X7_133 rfl (kx_task kd_1 (vp_in_lt c_13)) (wf_lt hw_16 (kx_task kd_1 (vp_in_lt c_13)) rfl) rfl rfl dX7_task_68 (fun h_17 e_18 => ?_)
        have f := f h_17 e_18
        have hw_19 := wf_si e_18 hw_16
        refine ab_iload C 0 dX7_task_71 rfl ?_
        exact ab_iret C dX7_task_73 ⟨hw_19, _, rfl, f⟩
      · have f := f.1 c_12
        refine ab_aload_n C 0 dX7_task_26 rfl rfl ?_
        refine ab_iconst C (v := (1 : Int32)) dX7_task_27 (by decide) ?_
        refine ab_callV C (k := 0) (n := 0) (rest := []) [.int (1 : Int32)] cl_X7_51 (mt_X7_error  hw f) rfl (by decide) kd_0 (wf_lt hw kd_0 rfl) ⟨rfl, rfl, Nat.le_of_ble_eq_true rfl, Nat.le_of_ble_eq_true rfl, Nat.zero_le _, Nat.zero_le _⟩ rfl rfl (Nat.le_of_ble_eq_true rfl) dX7_task_28 (ab_kh (k := 0) (n := 0) (fun v_20 h_21 hw_22 f => ?_))
        exact ab_iret C dX7_task_31 ⟨hw_22, _, rfl, f⟩
/-! X7_taskIs -/
def rm_X7_taskIs : Room := { frames := 7, cells := 0, slots := 0, locals := 209 }
def wp_X7_taskIs (x1 : Int32) (x2 : Int32) (h : hp_T) (Q : Int32 → hp_T → Prop) : Prop :=
  wp_X7_within x1 (0 : Int32) (3 : Int32) h (fun v_1 => ((v_1 = 0 → wp_X7_error (1 : Int32) h (fun v_3 h_4 => (Q v_3 h_4))) ∧ (¬ (v_1 = 0) → wp_X7_within x2 (0 : Int32) (4 : Int32) h (fun v_6 => ((v_6 = 0 → wp_X7_error (1 : Int32) h (fun v_9 h_10 => (Q v_9 h_10))) ∧ (¬ (v_6 = 0) → wp_X2_ofTask 1 x1 x2 h (fun v_8 => (Q v_8 h))))))))
set_option maxRecDepth 100000 in
set_option maxHeartbeats 4000000 in
theorem mt_X7_taskIs {l : Launch} {G : ab_G} {x1 : Int32} {x2 : Int32} {h : hp_T} {Q : Int32 → hp_T → Prop} (hw : wf h) (f : wp_X7_taskIs x1 x2 h Q) : ab_M l G yX7_taskIs cX7_taskIs 3 (some .int) rm_X7_taskIs 0 0 [.ref (G.1 + 0), .int x1, .int x2] h (po_h Q) := by
  refine ab_intro (own := RX7) (nm := "taskIs") rfl rfl rfl (Nat.le_of_ble_eq_true rfl) (fun F C => ?_)
  show ab_W l G F 3 (ab_MQ G F (po_h Q) 0 0) 0 0 h [(0, .ref (G.1 + 0)), (1, .int x1), (2, .int x2)] [] 0
  unfold wp_X7_taskIs at f
  refine ab_iload_n C 1 dX7_taskIs_0 rfl rfl ?_
  refine ab_iconst C (v := (0 : Int32)) dX7_taskIs_1 (by decide) ?_
  refine ab_iconst C (v := (3 : Int32)) dX7_taskIs_2 (by decide) ?_
  refine ab_callS C (k := 0) (n := 0) (rest := []) [.int x1, .int (0 : Int32), .int (3 : Int32)] cl_X7_47 (mt_X7_within  hw f) ⟨rfl, rfl, Nat.le_of_ble_eq_true rfl, Nat.le_of_ble_eq_true rfl, Nat.zero_le _, Nat.zero_le _⟩ rfl rfl (Nat.le_of_ble_eq_true rfl) dX7_taskIs_3 (ab_kp (k := 0) (n := 0) (fun v_1 f => ?_))
  refine ab_if_eq C (tgt := 18) dX7_taskIs_6 (by decide) (fun c_2 => ?_) (fun c_2 => ?_)
  · have f := f.1 c_2
    refine ab_aload_n C 0 dX7_taskIs_18 rfl rfl ?_
    refine ab_iconst C (v := (1 : Int32)) dX7_taskIs_19 (by decide) ?_
    refine ab_callV C (k := 0) (n := 0) (rest := []) [.int (1 : Int32)] cl_X7_51 (mt_X7_error  hw f) rfl (by decide) kd_0 (wf_lt hw kd_0 rfl) ⟨rfl, rfl, Nat.le_of_ble_eq_true rfl, Nat.le_of_ble_eq_true rfl, Nat.zero_le _, Nat.zero_le _⟩ rfl rfl (Nat.le_of_ble_eq_true rfl) dX7_taskIs_20 (ab_kh (k := 0) (n := 0) (fun v_3 h_4 hw_5 f => ?_))
    exact ab_iret C dX7_taskIs_23 ⟨hw_5, _, rfl, f⟩
  · have f := f.2 c_2
    refine ab_iload_n C 2 dX7_taskIs_9 rfl rfl ?_
    refine ab_iconst C (v := (0 : Int32)) dX7_taskIs_10 (by decide) ?_
    refine ab_iconst C (v := (4 : Int32)) dX7_taskIs_11 (by decide) ?_
    refine ab_callS C (k := 0) (n := 0) (rest := []) [.int x2, .int (0 : Int32), .int (4 : Int32)] cl_X7_47 (mt_X7_within  hw f) ⟨rfl, rfl, Nat.le_of_ble_eq_true rfl, Nat.le_of_ble_eq_true rfl, Nat.zero_le _, Nat.zero_le _⟩ rfl rfl (Nat.le_of_ble_eq_true rfl) dX7_taskIs_12 (ab_kp (k := 0) (n := 0) (fun v_6 f => ?_))
    refine ab_if_ne C (tgt := 24) dX7_taskIs_15 (by decide) (fun c_7 => ?_) (fun c_7 => ?_)
    · have f := f.2 c_7
      refine ab_aload_n C 0 dX7_taskIs_24 rfl rfl ?_
      refine ab_getR C (q := 1) fl_X7_10 rfl kd_0 (wf_lt hw kd_0 rfl) (wr_7_0 hw) dX7_taskIs_25 ?_
      refine ab_iload_n C 1 dX7_taskIs_28 rfl rfl ?_
      refine ab_iload_n C 2 dX7_taskIs_29 rfl rfl ?_
      refine ab_callV C (k := 0) (n := 0) (rest := []) [.int x1, .int x2] cl_X7_136 (mt_X2_ofTask kd_1 hw f) rfl (by decide) kd_1 (wf_lt hw kd_1 rfl) ⟨rfl, rfl, Nat.le_of_ble_eq_true rfl, Nat.le_of_ble_eq_true rfl, Nat.zero_le _, Nat.zero_le _⟩ rfl rfl (Nat.le_of_ble_eq_true rfl) dX7_taskIs_30 (ab_kp (k := 0) (n := 0) (fun v_8 f => ?_))
      exact ab_iret C dX7_taskIs_33 ⟨hw, _, rfl, f⟩
    · have f := f.1 c_7
      refine ab_aload_n C 0 dX7_taskIs_18 rfl rfl ?_
      refine ab_iconst C (v := (1 : Int32)) dX7_taskIs_19 (by decide) ?_
      refine ab_callV C (k := 0) (n := 0) (rest := []) [.int (1 : Int32)] cl_X7_51 (mt_X7_error  hw f) rfl (by decide) kd_0 (wf_lt hw kd_0 rfl) ⟨rfl, rfl, Nat.le_of_ble_eq_true rfl, Nat.le_of_ble_eq_true rfl, Nat.zero_le _, Nat.zero_le _⟩ rfl rfl (Nat.le_of_ble_eq_true rfl) dX7_taskIs_20 (ab_kh (k := 0) (n := 0) (fun v_9 h_10 hw_11 f => ?_))
      exact ab_iret C dX7_taskIs_23 ⟨hw_11, _, rfl, f⟩
/-! X7_teachers -/
def rm_X7_teachers : Room := { frames := 9, cells := 0, slots := 0, locals := 266 }
def wp_X7_teachers_L38 (x1 : Int32) (x2 : Int32) (x3 : Int32) (Q : Int32 → hp_T → Prop) : Nat → Int32 → Int32 → hp_T → Prop
  | 0 => fun _ _ _ => False
  | nn + 1 => fun y4 y5 h => ((((1 : Int32) <<< ((hp_i h 1 1) &&& 31)) ≤ y5 → ((0 ≤ y4 → ((x3 = 0 → wp_J6_bitCount_0f7a4 y4 h (fun v_16 => (Q v_16 h))) ∧ (¬ (x3 = 0) → (Q y4 h)))) ∧ (¬ (0 ≤ y4) → wp_X7_error (2 : Int32) h (fun v_17 h_18 => (Q v_17 h_18))))) ∧ (¬ (((1 : Int32) <<< ((hp_i h 1 1) &&& 31)) ≤ y5) → ((y4 < 0 → wp_X7_staysKnown x1 x2 y5 h (fun v_21 h_22 => ((v_21 = 0 → (wp_X7_teachers_L38 x1 x2 x3 Q nn) y4 (y5 + (1 : Int32)) h_22) ∧ (¬ (v_21 = 0) → (wp_X7_teachers_L38 x1 x2 x3 Q nn) y5 (y5 + (1 : Int32)) h_22)))) ∧ (¬ (y4 < 0) → wp_J6_bitCount_0f7a4 y5 h (fun v_25 => wp_J6_bitCount_0f7a4 y4 h (fun v_26 => ((v_26 ≤ v_25 → (wp_X7_teachers_L38 x1 x2 x3 Q nn) y4 (y5 + (1 : Int32)) h) ∧ (¬ (v_26 ≤ v_25) → wp_X7_staysKnown x1 x2 y5 h (fun v_28 h_29 => ((v_28 = 0 → (wp_X7_teachers_L38 x1 x2 x3 Q nn) y4 (y5 + (1 : Int32)) h_29) ∧ (¬ (v_28 = 0) → (wp_X7_teachers_L38 x1 x2 x3 Q nn) y5 (y5 + (1 : Int32)) h_29)))))))))))
set_option maxRecDepth 100000 in
set_option maxHeartbeats 4000000 in
theorem bt_X7_teachers_L38 {l : Launch} {G : ab_G} {F : ab_F} {x1 : Int32} {x2 : Int32} {x3 : Int32} {Q : Int32 → hp_T → Prop}  (C : ab_C G F rm_X7_teachers cX7_teachers 7 RX7 (some .int) "teachers")   : ∀ (nn : Nat) (y4 : Int32) (y5 : Int32) (h : hp_T), wf h → wp_X7_teachers_L38 x1 x2 x3 Q nn y4 y5 h → ab_W l G F 7 (ab_MQ G F (po_h Q) 0 0) 0 0 h [(0, .ref (G.1 + 0)), (1, .int x1), (2, .int x2), (3, .int x3), (4, .int y4), (5, .int y5)] [] 38 := by
  intro nn
  induction nn with
  | zero =>
    intro y4 y5 h hw f
    exact absurd f id
  | succ nn ih =>
    intro y4 y5 h hw f
    unfold wp_X7_teachers_L38 at f
    refine ab_iload C 5 dX7_teachers_38 rfl ?_
    refine ab_iconst C (v := (1 : Int32)) dX7_teachers_40 (by decide) ?_
    refine ab_aload_n C 0 dX7_teachers_41 rfl rfl ?_
    refine ab_getR C (q := 1) fl_X7_10 rfl kd_0 (wf_lt hw kd_0 rfl) (wr_7_0 hw) dX7_teachers_42 ?_
    refine ab_getI C fl_X7_55 rfl kd_1 (wf_lt hw kd_1 rfl) dX7_teachers_45 ?_
    refine ab_ishl C dX7_teachers_48 ?_
    refine ab_icmp_ge C (tgt := 103) dX7_teachers_49 (by decide) (fun c_13 => ?_) (fun c_13 => ?_)
    · have f := f.1 c_13
      refine ab_iload C 4 dX7_teachers_103 rfl ?_
      refine ab_if_ge C (tgt := 114) dX7_teachers_105 (by decide) (fun c_14 => ?_) (fun c_14 => ?_)
      · have f := f.1 c_14
        refine ab_iload_n C 3 dX7_teachers_114 rfl rfl ?_
        refine ab_if_ne C (tgt := 126) dX7_teachers_115 (by decide) (fun c_15 => ?_) (fun c_15 => ?_)
        · have f := f.2 c_15
          refine ab_iload C 4 dX7_teachers_126 rfl ?_
          exact ab_iret C dX7_teachers_128 ⟨hw, _, rfl, f⟩
        · have f := f.1 c_15
          refine ab_iload C 4 dX7_teachers_118 rfl ?_
          refine ab_callS C (k := 0) (n := 0) (rest := []) [.int y4] cl_X7_179 (mt_J6_bitCount_0f7a4  hw f) ⟨rfl, rfl, Nat.le_of_ble_eq_true rfl, Nat.le_of_ble_eq_true rfl, Nat.zero_le _, Nat.zero_le _⟩ rfl rfl (Nat.le_of_ble_eq_true rfl) dX7_teachers_120 (ab_kp (k := 0) (n := 0) (fun v_16 f => ?_))
          refine ab_goto C (tgt := 128) dX7_teachers_123 (by decide) ?_
          exact ab_iret C dX7_teachers_128 ⟨hw, _, rfl, f⟩
      · have f := f.2 c_14
        refine ab_aload_n C 0 dX7_teachers_108 rfl rfl ?_
        refine ab_iconst C (v := (2 : Int32)) dX7_teachers_109 (by decide) ?_
        refine ab_callV C (k := 0) (n := 0) (rest := []) [.int (2 : Int32)] cl_X7_51 (mt_X7_error  hw f) rfl (by decide) kd_0 (wf_lt hw kd_0 rfl) ⟨rfl, rfl, Nat.le_of_ble_eq_true rfl, Nat.le_of_ble_eq_true rfl, Nat.zero_le _, Nat.zero_le _⟩ rfl rfl (Nat.le_of_ble_eq_true rfl) dX7_teachers_110 (ab_kh (k := 0) (n := 0) (fun v_17 h_18 hw_19 f => ?_))
        exact ab_iret C dX7_teachers_113 ⟨hw_19, _, rfl, f⟩
    · have f := f.2 c_13
      refine ab_iload C 4 dX7_teachers_52 rfl ?_
      refine ab_if_lt C (tgt := 70) dX7_teachers_54 (by decide) (fun c_20 => ?_) (fun c_20 => ?_)
      · have f := f.1 c_20
        refine ab_iconst C (v := (1 : Int32)) dX7_teachers_70 (by decide) ?_
        refine ab_goto C (tgt := 75) dX7_teachers_71 (by decide) ?_
        refine ab_istore C (lv' := [(6, .int (1 : Int32)), (0, .ref (G.1 + 0)), (1, .int x1), (2, .int x2), (3, .int x3), (4, .int y4), (5, .int y5)]) dX7_teachers_75 (by decide) rfl ?_
        refine ab_iload C 0 dX7_teachers_77 rfl ?_
        refine ab_if_eq C (tgt := 97) dX7_teachers_79 (by decide) (fun z => absurd z (by decide)) (fun _ => ?_)
        refine ab_aload_n C 1 dX7_teachers_82 rfl rfl ?_
        refine ab_iload_n C 2 dX7_teachers_83 rfl rfl ?_
        refine ab_iload_n C 3 dX7_teachers_84 rfl rfl ?_
        refine ab_iload C 6 dX7_teachers_85 rfl ?_
        refine ab_callV C (k := 0) (n := 0) (rest := []) [.int x1, .int x2, .int y5] cl_X7_184 (mt_X7_staysKnown  hw f) rfl (by decide) kd_0 (wf_lt hw kd_0 rfl) ⟨rfl, rfl, Nat.le_of_ble_eq_true rfl, Nat.le_of_ble_eq_true rfl, Nat.zero_le _, Nat.zero_le _⟩ rfl rfl (Nat.le_of_ble_eq_true rfl) dX7_teachers_87 (ab_kh (k := 0) (n := 0) (fun v_21 h_22 hw_23 f => ?_))
        refine ab_if_eq C (tgt := 97) dX7_teachers_90 (by decide) (fun c_24 => ?_) (fun c_24 => ?_)
        · have f := f.1 c_24
          refine ab_iinc C (lv' := [(5, .int (y5 + (1 : Int32))), (6, .int (1 : Int32)), (0, .ref (G.1 + 0)), (1, .int x1), (2, .int x2), (3, .int x3), (4, .int y4)]) 6 (v := (y5 + (1 : Int32))) dX7_teachers_97 rfl rfl (by decide) rfl ?_
          refine ab_goto C (tgt := 38) dX7_teachers_100 (by decide) ?_
          refine ab_sub (lv' := [(0, .ref (G.1 + 0)), (1, .int x1), (2, .int x2), (3, .int x3), (4, .int y4), (5, .int (y5 + (1 : Int32)))]) [2, 3, 4, 5, 6, 0] rfl ?_
          exact ih y4 (y5 + (1 : Int32)) h_22  hw_23 f
        · have f := f.2 c_24
          refine ab_iload C 6 dX7_teachers_93 rfl ?_
          refine ab_istore C (lv' := [(4, .int y5), (6, .int (1 : Int32)), (0, .ref (G.1 + 0)), (1, .int x1), (2, .int x2), (3, .int x3), (5, .int y5)]) dX7_teachers_95 (by decide) rfl ?_
          refine ab_iinc C (lv' := [(5, .int (y5 + (1 : Int32))), (4, .int y5), (6, .int (1 : Int32)), (0, .ref (G.1 + 0)), (1, .int x1), (2, .int x2), (3, .int x3)]) 6 (v := (y5 + (1 : Int32))) dX7_teachers_97 rfl rfl (by decide) rfl ?_
          refine ab_goto C (tgt := 38) dX7_teachers_100 (by decide) ?_
          refine ab_sub (lv' := [(0, .ref (G.1 + 0)), (1, .int x1), (2, .int x2), (3, .int x3), (4, .int y5), (5, .int (y5 + (1 : Int32)))]) [3, 4, 5, 6, 1, 0] rfl ?_
          exact ih y5 (y5 + (1 : Int32)) h_22  hw_23 f
      · have f := f.2 c_20
        refine ab_iload C 5 dX7_teachers_57 rfl ?_
        refine ab_callS C (k := 0) (n := 0) (rest := []) [.int y5] cl_X7_179 (mt_J6_bitCount_0f7a4  hw f) ⟨rfl, rfl, Nat.le_of_ble_eq_true rfl, Nat.le_of_ble_eq_true rfl, Nat.zero_le _, Nat.zero_le _⟩ rfl rfl (Nat.le_of_ble_eq_true rfl) dX7_teachers_59 (ab_kp (k := 0) (n := 0) (fun v_25 f => ?_))
        refine ab_iload C 4 dX7_teachers_62 rfl ?_
        refine ab_callS C (k := 0) (n := 0) (rest := [.int v_25]) [.int y4] cl_X7_179 (mt_J6_bitCount_0f7a4  hw f) ⟨rfl, rfl, Nat.le_of_ble_eq_true rfl, Nat.le_of_ble_eq_true rfl, Nat.zero_le _, Nat.zero_le _⟩ rfl rfl (Nat.le_of_ble_eq_true rfl) dX7_teachers_64 (ab_kp (k := 0) (n := 0) (fun v_26 f => ?_))
        refine ab_icmp_ge C (tgt := 74) dX7_teachers_67 (by decide) (fun c_27 => ?_) (fun c_27 => ?_)
        · have f := f.1 c_27
          refine ab_iconst C (v := (0 : Int32)) dX7_teachers_74 (by decide) ?_
          refine ab_istore C (lv' := [(6, .int (0 : Int32)), (0, .ref (G.1 + 0)), (1, .int x1), (2, .int x2), (3, .int x3), (4, .int y4), (5, .int y5)]) dX7_teachers_75 (by decide) rfl ?_
          refine ab_iload C 0 dX7_teachers_77 rfl ?_
          refine ab_if_eq C (tgt := 97) dX7_teachers_79 (by decide) (fun _ => ?_) (fun z => absurd z (by decide))
          refine ab_iinc C (lv' := [(5, .int (y5 + (1 : Int32))), (6, .int (0 : Int32)), (0, .ref (G.1 + 0)), (1, .int x1), (2, .int x2), (3, .int x3), (4, .int y4)]) 6 (v := (y5 + (1 : Int32))) dX7_teachers_97 rfl rfl (by decide) rfl ?_
          refine ab_goto C (tgt := 38) dX7_teachers_100 (by decide) ?_
          refine ab_sub (lv' := [(0, .ref (G.1 + 0)), (1, .int x1), (2, .int x2), (3, .int x3), (4, .int y4), (5, .int (y5 + (1 : Int32)))]) [2, 3, 4, 5, 6, 0] rfl ?_
          exact ih y4 (y5 + (1 : Int32)) h  hw f
        · have f := f.2 c_27
          refine ab_iconst C (v := (1 : Int32)) dX7_teachers_70 (by decide) ?_
          refine ab_goto C (tgt := 75) dX7_teachers_71 (by decide) ?_
          refine ab_istore C (lv' := [(6, .int (1 : Int32)), (0, .ref (G.1 + 0)), (1, .int x1), (2, .int x2), (3, .int x3), (4, .int y4), (5, .int y5)]) dX7_teachers_75 (by decide) rfl ?_
          refine ab_iload C 0 dX7_teachers_77 rfl ?_
          refine ab_if_eq C (tgt := 97) dX7_teachers_79 (by decide) (fun z => absurd z (by decide)) (fun _ => ?_)
          refine ab_aload_n C 1 dX7_teachers_82 rfl rfl ?_
          refine ab_iload_n C 2 dX7_teachers_83 rfl rfl ?_
          refine ab_iload_n C 3 dX7_teachers_84 rfl rfl ?_
          refine ab_iload C 6 dX7_teachers_85 rfl ?_
          refine ab_callV C (k := 0) (n := 0) (rest := []) [.int x1, .int x2, .int y5] cl_X7_184 (mt_X7_staysKnown  hw f) rfl (by decide) kd_0 (wf_lt hw kd_0 rfl) ⟨rfl, rfl, Nat.le_of_ble_eq_true rfl, Nat.le_of_ble_eq_true rfl, Nat.zero_le _, Nat.zero_le _⟩ rfl rfl (Nat.le_of_ble_eq_true rfl) dX7_teachers_87 (ab_kh (k := 0) (n := 0) (fun v_28 h_29 hw_30 f => ?_))
          refine ab_if_eq C (tgt := 97) dX7_teachers_90 (by decide) (fun c_31 => ?_) (fun c_31 => ?_)
          · have f := f.1 c_31
            refine ab_iinc C (lv' := [(5, .int (y5 + (1 : Int32))), (6, .int (1 : Int32)), (0, .ref (G.1 + 0)), (1, .int x1), (2, .int x2), (3, .int x3), (4, .int y4)]) 6 (v := (y5 + (1 : Int32))) dX7_teachers_97 rfl rfl (by decide) rfl ?_
            refine ab_goto C (tgt := 38) dX7_teachers_100 (by decide) ?_
            refine ab_sub (lv' := [(0, .ref (G.1 + 0)), (1, .int x1), (2, .int x2), (3, .int x3), (4, .int y4), (5, .int (y5 + (1 : Int32)))]) [2, 3, 4, 5, 6, 0] rfl ?_
            exact ih y4 (y5 + (1 : Int32)) h_29  hw_30 f
          · have f := f.2 c_31
            refine ab_iload C 6 dX7_teachers_93 rfl ?_
            refine ab_istore C (lv' := [(4, .int y5), (6, .int (1 : Int32)), (0, .ref (G.1 + 0)), (1, .int x1), (2, .int x2), (3, .int x3), (5, .int y5)]) dX7_teachers_95 (by decide) rfl ?_
            refine ab_iinc C (lv' := [(5, .int (y5 + (1 : Int32))), (4, .int y5), (6, .int (1 : Int32)), (0, .ref (G.1 + 0)), (1, .int x1), (2, .int x2), (3, .int x3)]) 6 (v := (y5 + (1 : Int32))) dX7_teachers_97 rfl rfl (by decide) rfl ?_
            refine ab_goto C (tgt := 38) dX7_teachers_100 (by decide) ?_
            refine ab_sub (lv' := [(0, .ref (G.1 + 0)), (1, .int x1), (2, .int x2), (3, .int x3), (4, .int y5), (5, .int (y5 + (1 : Int32)))]) [3, 4, 5, 6, 1, 0] rfl ?_
            exact ih y5 (y5 + (1 : Int32)) h_29  hw_30 f
def wp_X7_teachers (x1 : Int32) (x2 : Int32) (x3 : Int32) (h : hp_T) (Q : Int32 → hp_T → Prop) : Prop :=
  wp_X7_isKnack x1 h (fun v_1 => ((v_1 = 0 → wp_X7_error (1 : Int32) h (fun v_3 h_4 => (Q v_3 h_4))) ∧ (¬ (v_1 = 0) → wp_X7_within x2 (1 : Int32) (30 : Int32) h (fun v_6 => ((v_6 = 0 → wp_X7_error (1 : Int32) h (fun v_8 h_9 => (Q v_8 h_9))) ∧ (¬ (v_6 = 0) → wp_X7_within x3 (0 : Int32) (1 : Int32) h (fun v_11 => ((v_11 = 0 → wp_X7_error (1 : Int32) h (fun v_32 h_33 => (Q v_32 h_33))) ∧ (¬ (v_11 = 0) → (∃ n0, wp_X7_teachers_L38 x1 x2 x3 Q  n0 (-1 : Int32) (0 : Int32) h))))))))))
set_option maxRecDepth 100000 in
set_option maxHeartbeats 4000000 in
theorem mt_X7_teachers {l : Launch} {G : ab_G} {x1 : Int32} {x2 : Int32} {x3 : Int32} {h : hp_T} {Q : Int32 → hp_T → Prop} (hw : wf h) (f : wp_X7_teachers x1 x2 x3 h Q) : ab_M l G yX7_teachers cX7_teachers 7 (some .int) rm_X7_teachers 0 0 [.ref (G.1 + 0), .int x1, .int x2, .int x3] h (po_h Q) := by
  refine ab_intro (own := RX7) (nm := "teachers") rfl rfl rfl (Nat.le_of_ble_eq_true rfl) (fun F C => ?_)
  show ab_W l G F 7 (ab_MQ G F (po_h Q) 0 0) 0 0 h [(0, .ref (G.1 + 0)), (1, .int x1), (2, .int x2), (3, .int x3)] [] 0
  unfold wp_X7_teachers at f
  refine ab_iload_n C 1 dX7_teachers_0 rfl rfl ?_
  refine ab_callS C (k := 0) (n := 0) (rest := []) [.int x1] cl_X7_95 (mt_X7_isKnack  hw f) ⟨rfl, rfl, Nat.le_of_ble_eq_true rfl, Nat.le_of_ble_eq_true rfl, Nat.zero_le _, Nat.zero_le _⟩ rfl rfl (Nat.le_of_ble_eq_true rfl) dX7_teachers_1 (ab_kp (k := 0) (n := 0) (fun v_1 f => ?_))
  refine ab_if_eq C (tgt := 26) dX7_teachers_4 (by decide) (fun c_2 => ?_) (fun c_2 => ?_)
  · have f := f.1 c_2
    refine ab_aload_n C 0 dX7_teachers_26 rfl rfl ?_
    refine ab_iconst C (v := (1 : Int32)) dX7_teachers_27 (by decide) ?_
    refine ab_callV C (k := 0) (n := 0) (rest := []) [.int (1 : Int32)] cl_X7_51 (mt_X7_error  hw f) rfl (by decide) kd_0 (wf_lt hw kd_0 rfl) ⟨rfl, rfl, Nat.le_of_ble_eq_true rfl, Nat.le_of_ble_eq_true rfl, Nat.zero_le _, Nat.zero_le _⟩ rfl rfl (Nat.le_of_ble_eq_true rfl) dX7_teachers_28 (ab_kh (k := 0) (n := 0) (fun v_3 h_4 hw_5 f => ?_))
    exact ab_iret C dX7_teachers_31 ⟨hw_5, _, rfl, f⟩
  · have f := f.2 c_2
    refine ab_iload_n C 2 dX7_teachers_7 rfl rfl ?_
    refine ab_iconst C (v := (1 : Int32)) dX7_teachers_8 (by decide) ?_
    refine ab_bipush C (v := (30 : Int32)) dX7_teachers_9 (by decide) ?_
    refine ab_callS C (k := 0) (n := 0) (rest := []) [.int x2, .int (1 : Int32), .int (30 : Int32)] cl_X7_47 (mt_X7_within  hw f) ⟨rfl, rfl, Nat.le_of_ble_eq_true rfl, Nat.le_of_ble_eq_true rfl, Nat.zero_le _, Nat.zero_le _⟩ rfl rfl (Nat.le_of_ble_eq_true rfl) dX7_teachers_11 (ab_kp (k := 0) (n := 0) (fun v_6 f => ?_))
    refine ab_if_eq C (tgt := 26) dX7_teachers_14 (by decide) (fun c_7 => ?_) (fun c_7 => ?_)
    · have f := f.1 c_7
      refine ab_aload_n C 0 dX7_teachers_26 rfl rfl ?_
      refine ab_iconst C (v := (1 : Int32)) dX7_teachers_27 (by decide) ?_
      refine ab_callV C (k := 0) (n := 0) (rest := []) [.int (1 : Int32)] cl_X7_51 (mt_X7_error  hw f) rfl (by decide) kd_0 (wf_lt hw kd_0 rfl) ⟨rfl, rfl, Nat.le_of_ble_eq_true rfl, Nat.le_of_ble_eq_true rfl, Nat.zero_le _, Nat.zero_le _⟩ rfl rfl (Nat.le_of_ble_eq_true rfl) dX7_teachers_28 (ab_kh (k := 0) (n := 0) (fun v_8 h_9 hw_10 f => ?_))
      exact ab_iret C dX7_teachers_31 ⟨hw_10, _, rfl, f⟩
    · have f := f.2 c_7
      refine ab_iload_n C 3 dX7_teachers_17 rfl rfl ?_
      refine ab_iconst C (v := (0 : Int32)) dX7_teachers_18 (by decide) ?_
      refine ab_iconst C (v := (1 : Int32)) dX7_teachers_19 (by decide) ?_
      refine ab_callS C (k := 0) (n := 0) (rest := []) [.int x3, .int (0 : Int32), .int (1 : Int32)] cl_X7_47 (mt_X7_within  hw f) ⟨rfl, rfl, Nat.le_of_ble_eq_true rfl, Nat.le_of_ble_eq_true rfl, Nat.zero_le _, Nat.zero_le _⟩ rfl rfl (Nat.le_of_ble_eq_true rfl) dX7_teachers_20 (ab_kp (k := 0) (n := 0) (fun v_11 f => ?_))
      refine ab_if_ne C (tgt := 32) dX7_teachers_23 (by decide) (fun c_12 => ?_) (fun c_12 => ?_)
      · have f := f.2 c_12
        refine ab_iconst C (v := (-1 : Int32)) dX7_teachers_32 (by decide) ?_
        refine ab_istore C (lv' := [(4, .int (-1 : Int32)), (0, .ref (G.1 + 0)), (1, .int x1), (2, .int x2), (3, .int x3)]) dX7_teachers_33 (by decide) rfl ?_
        refine ab_iconst C (v := (0 : Int32)) dX7_teachers_35 (by decide) ?_
        refine ab_istore C (lv' := [(5, .int (0 : Int32)), (4, .int (-1 : Int32)), (0, .ref (G.1 + 0)), (1, .int x1), (2, .int x2), (3, .int x3)]) dX7_teachers_36 (by decide) rfl ?_
        obtain ⟨n0, f⟩ := f
        refine ab_sub (lv' := [(0, .ref (G.1 + 0)), (1, .int x1), (2, .int x2), (3, .int x3), (4, .int (-1 : Int32)), (5, .int (0 : Int32))]) [2, 3, 4, 5, 1, 0] rfl ?_
        exact bt_X7_teachers_L38 C    n0 (-1 : Int32) (0 : Int32) h  hw f
      · have f := f.1 c_12
        refine ab_aload_n C 0 dX7_teachers_26 rfl rfl ?_
        refine ab_iconst C (v := (1 : Int32)) dX7_teachers_27 (by decide) ?_
        refine ab_callV C (k := 0) (n := 0) (rest := []) [.int (1 : Int32)] cl_X7_51 (mt_X7_error  hw f) rfl (by decide) kd_0 (wf_lt hw kd_0 rfl) ⟨rfl, rfl, Nat.le_of_ble_eq_true rfl, Nat.le_of_ble_eq_true rfl, Nat.zero_le _, Nat.zero_le _⟩ rfl rfl (Nat.le_of_ble_eq_true rfl) dX7_teachers_28 (ab_kh (k := 0) (n := 0) (fun v_32 h_33 hw_34 f => ?_))
        exact ab_iret C dX7_teachers_31 ⟨hw_34, _, rfl, f⟩
/-! X7_tell -/
def rm_X7_tell : Room := { frames := 3, cells := 0, slots := 0, locals := 121 }
def wp_X7_tell (x1 : Int32) (h : hp_T) (Q : Int32 → hp_T → Prop) : Prop :=
  (((hp_i h 1 15) < (24 : Int32) → (vp_in (hp_i h 1 15) 24) ∧ (∀ h_3, h_3 = hp_si h (1 + 7) ((hp_i h 1 15).toNatClampNeg) x1 → (∀ h_6, h_6 = hp_si h_3 1 15 ((hp_i h_3 1 15) + (1 : Int32)) → (Q (hp_i h_6 1 15) h_6)))) ∧ (¬ ((hp_i h 1 15) < (24 : Int32)) → wp_X7_error (4 : Int32) h (fun v_9 h_10 => (Q v_9 h_10))))
set_option maxRecDepth 100000 in
set_option maxHeartbeats 4000000 in
theorem mt_X7_tell {l : Launch} {G : ab_G} {x1 : Int32} {h : hp_T} {Q : Int32 → hp_T → Prop} (hw : wf h) (f : wp_X7_tell x1 h Q) : ab_M l G yX7_tell cX7_tell 2 (some .int) rm_X7_tell 0 0 [.ref (G.1 + 0), .int x1] h (po_h Q) := by
  refine ab_intro (own := RX7) (nm := "tell") rfl rfl rfl (Nat.le_of_ble_eq_true rfl) (fun F C => ?_)
  show ab_W l G F 2 (ab_MQ G F (po_h Q) 0 0) 0 0 h [(0, .ref (G.1 + 0)), (1, .int x1)] [] 0
  unfold wp_X7_tell at f
  refine ab_aload_n C 0 dX7_tell_0 rfl rfl ?_
  refine ab_getR C (q := 1) fl_X7_10 rfl kd_0 (wf_lt hw kd_0 rfl) (wr_7_0 hw) dX7_tell_1 ?_
  refine ab_getI C fl_X7_256 rfl kd_1 (wf_lt hw kd_1 rfl) dX7_tell_4 ?_
  refine ab_bipush C (v := (24 : Int32)) dX7_tell_7 (by decide) ?_
  refine ab_icmp_lt C (tgt := 18) dX7_tell_9 (by decide) (fun c_1 => ?_) (fun c_1 => ?_)
  · have f := f.1 c_1
    refine ab_aload_n C 0 dX7_tell_18 rfl rfl ?_
    refine ab_getR C (q := 1) fl_X7_10 rfl kd_0 (wf_lt hw kd_0 rfl) (wr_7_0 hw) dX7_tell_19 ?_
    refine ab_getR C (q := (1 + 7)) fl_X7_259 rfl kd_1 (wf_lt hw kd_1 rfl) (wr_2_14 hw kd_1) dX7_tell_22 ?_
    refine ab_aload_n C 0 dX7_tell_25 rfl rfl ?_
    refine ab_getR C (q := 1) fl_X7_10 rfl kd_0 (wf_lt hw kd_0 rfl) (wr_7_0 hw) dX7_tell_26 ?_
    refine ab_getI C fl_X7_256 rfl kd_1 (wf_lt hw kd_1 rfl) dX7_tell_29 ?_
    refine ab_iload_n C 1 dX7_tell_32 rfl rfl ?_
    obtain ⟨c_2, f⟩ := f
    refine ab_iast C (by rw [(kn_2_14 kd_1)]; decide) (wf_lt hw (kn_2_14 kd_1) rfl) (wf_len hw (kn_2_14 kd_1) rfl rfl (by decide)) c_2 (j := (hp_i h 1 15).toNatClampNeg) rfl dX7_tell_33 (fun h_3 e_4 => ?_)
    have f := f h_3 e_4
    have hw_5 := wf_si e_4 hw
    refine ab_aload_n C 0 dX7_tell_34 rfl rfl ?_
    refine ab_getR C (q := 1) fl_X7_10 rfl kd_0 (wf_lt hw_5 kd_0 rfl) (wr_7_0 hw_5) dX7_tell_35 ?_
    refine ab_dup C dX7_tell_38 rfl ?_
    refine ab_getI C fl_X7_256 rfl kd_1 (wf_lt hw_5 kd_1 rfl) dX7_tell_39 ?_
    refine ab_iconst C (v := (1 : Int32)) dX7_tell_42 (by decide) ?_
    refine ab_iadd C dX7_tell_43 ?_
    refine ab_putI C fl_X7_256 rfl kd_1 (wf_lt hw_5 kd_1 rfl) rfl rfl dX7_tell_44 (fun h_6 e_7 => ?_)
    have f := f h_6 e_7
    have hw_8 := wf_si e_7 hw_5
    refine ab_aload_n C 0 dX7_tell_47 rfl rfl ?_
    refine ab_getR C (q := 1) fl_X7_10 rfl kd_0 (wf_lt hw_8 kd_0 rfl) (wr_7_0 hw_8) dX7_tell_48 ?_
    refine ab_getI C fl_X7_256 rfl kd_1 (wf_lt hw_8 kd_1 rfl) dX7_tell_51 ?_
    exact ab_iret C dX7_tell_54 ⟨hw_8, _, rfl, f⟩
  · have f := f.2 c_1
    refine ab_aload_n C 0 dX7_tell_12 rfl rfl ?_
    refine ab_iconst C (v := (4 : Int32)) dX7_tell_13 (by decide) ?_
    refine ab_callV C (k := 0) (n := 0) (rest := []) [.int (4 : Int32)] cl_X7_51 (mt_X7_error  hw f) rfl (by decide) kd_0 (wf_lt hw kd_0 rfl) ⟨rfl, rfl, Nat.le_of_ble_eq_true rfl, Nat.le_of_ble_eq_true rfl, Nat.zero_le _, Nat.zero_le _⟩ rfl rfl (Nat.le_of_ble_eq_true rfl) dX7_tell_14 (ab_kh (k := 0) (n := 0) (fun v_9 h_10 hw_11 f => ?_))
    exact ab_iret C dX7_tell_17 ⟨hw_11, _, rfl, f⟩
/-! X7_text -/
def rm_X7_text : Room := { frames := 69, cells := 3, slots := 122, locals := 4285 }
def wp_X7_text (x1 : Int32) (h : hp_T) (Q : Int32 → hp_T → Prop) : Prop :=
  wp_X7_within x1 (0 : Int32) (1 : Int32) h (fun v_1 => ((v_1 = 0 → wp_X7_error (1 : Int32) h (fun v_36 h_37 => (Q v_36 h_37))) ∧ (¬ (v_1 = 0) → ((x1 = 0 → wp_X5_read (1 + 5) (hp_i h 1 12) (109 : Int32) h (fun r_23 h_20 => (r_23 = none → (∀ h_24, h_24 = hp_si h_20 1 12 (0 : Int32) → (Q ((-10 : Int32) - (hp_i h_24 91 6)) h_24))) ∧ (∀ q_22, r_23 = some q_22 → (∀ h_27, h_27 = hp_si h_20 1 12 (0 : Int32) → (vp_in x1 2) ∧ (ab_k q_22 = 4) ∧ (q_22 < hp_n h_27) ∧ (∀ h_31, h_31 = hp_sr h_27 (1 + 6) x1.toNatClampNeg (some q_22) → (Q (1 : Int32) h_31)))))) ∧ (¬ (x1 = 0) → wp_X5_read (1 + 5) (hp_i h 1 12) (100 : Int32) h (fun r_7 h_4 => (r_7 = none → (∀ h_8, h_8 = hp_si h_4 1 12 (0 : Int32) → (Q ((-10 : Int32) - (hp_i h_8 91 6)) h_8))) ∧ (∀ q_6, r_7 = some q_6 → (∀ h_11, h_11 = hp_si h_4 1 12 (0 : Int32) → (vp_in x1 2) ∧ (ab_k q_6 = 4) ∧ (q_6 < hp_n h_11) ∧ (∀ h_15, h_15 = hp_sr h_11 (1 + 6) x1.toNatClampNeg (some q_6) → (Q (1 : Int32) h_15))))))))))
set_option maxRecDepth 100000 in
set_option maxHeartbeats 4000000 in
theorem mt_X7_text {l : Launch} {G : ab_G} {x1 : Int32} {h : hp_T} {Q : Int32 → hp_T → Prop} (hw : wf h) (f : wp_X7_text x1 h Q) : ab_M l G yX7_text cX7_text 3 (some .int) rm_X7_text 3 122 [.ref (G.1 + 0), .int x1] h (po_h Q) := by
  refine ab_intro (own := RX7) (nm := "text") rfl rfl rfl (Nat.le_of_ble_eq_true rfl) (fun F C => ?_)
  show ab_W l G F 3 (ab_MQ G F (po_h Q) 3 122) 0 0 h [(0, .ref (G.1 + 0)), (1, .int x1)] [] 0
  unfold wp_X7_text at f
  refine ab_iload_n C 1 dX7_text_0 rfl rfl ?_
  refine ab_iconst C (v := (0 : Int32)) dX7_text_1 (by decide) ?_
  refine ab_iconst C (v := (1 : Int32)) dX7_text_2 (by decide) ?_
  refine ab_callS C (k := 0) (n := 0) (rest := []) [.int x1, .int (0 : Int32), .int (1 : Int32)] cl_X7_47 (mt_X7_within  hw f) ⟨rfl, rfl, Nat.le_of_ble_eq_true rfl, Nat.le_of_ble_eq_true rfl, Nat.zero_le _, Nat.zero_le _⟩ rfl rfl (Nat.le_of_ble_eq_true rfl) dX7_text_3 (ab_kp (k := 0) (n := 0) (fun v_1 f => ?_))
  refine ab_if_ne C (tgt := 15) dX7_text_6 (by decide) (fun c_2 => ?_) (fun c_2 => ?_)
  · have f := f.2 c_2
    refine ab_aload_n C 0 dX7_text_15 rfl rfl ?_
    refine ab_getR C (q := 91) fl_X7_25 rfl kd_0 (wf_lt hw kd_0 rfl) (wr_7_3 hw) dX7_text_16 ?_
    refine ab_aload_n C 0 dX7_text_19 rfl rfl ?_
    refine ab_getR C (q := 1) fl_X7_10 rfl kd_0 (wf_lt hw kd_0 rfl) (wr_7_0 hw) dX7_text_20 ?_
    refine ab_getR C (q := (1 + 5)) fl_X7_142 rfl kd_1 (wf_lt hw kd_1 rfl) (wr_2_11 hw kd_1) dX7_text_23 ?_
    refine ab_aload_n C 0 dX7_text_26 rfl rfl ?_
    refine ab_getR C (q := 1) fl_X7_10 rfl kd_0 (wf_lt hw kd_0 rfl) (wr_7_0 hw) dX7_text_27 ?_
    refine ab_getI C fl_X7_139 rfl kd_1 (wf_lt hw kd_1 rfl) dX7_text_30 ?_
    refine ab_iload_n C 1 dX7_text_33 rfl rfl ?_
    refine ab_if_ne C (tgt := 42) dX7_text_34 (by decide) (fun c_3 => ?_) (fun c_3 => ?_)
    · have f := f.2 c_3
      refine ab_bipush C (v := (100 : Int32)) dX7_text_42 (by decide) ?_
      refine ab_callV C (k := 0) (n := 0) (rest := []) [.ref (G.1 + (1 + 5)), .int (hp_i h 1 12), .int (100 : Int32)] cl_X7_146 (mt_X5_read (kn_2_11 kd_1) hw f) rfl (by decide) kd_91 (wf_lt hw kd_91 rfl) ⟨rfl, rfl, Nat.le_of_ble_eq_true rfl, Nat.le_of_ble_eq_true rfl, Nat.le_of_ble_eq_true rfl, Nat.le_of_ble_eq_true rfl⟩ rfl rfl (Nat.le_of_ble_eq_true rfl) dX7_text_44 (ab_kq (k := 3) (n := 122) (fun h_4 hw_5 f => ?_) (fun q_6 h_4 hw_5 f => ?_))
      · have f := f.1 rfl
        refine ab_astore_nN C (lv' := [(2, .null), (0, .ref (G.1 + 0)), (1, .int x1)]) dX7_text_47 rfl (by decide) rfl ?_
        refine ab_aload_n C 1 dX7_text_48 rfl rfl ?_
        refine ab_getR C (q := 1) fl_X7_10 rfl kd_0 (wf_lt hw_5 kd_0 rfl) (wr_7_0 hw_5) dX7_text_49 ?_
        refine ab_iconst C (v := (0 : Int32)) dX7_text_52 (by decide) ?_
        refine ab_putI C fl_X7_139 rfl kd_1 (wf_lt hw_5 kd_1 rfl) rfl rfl dX7_text_53 (fun h_8 e_9 => ?_)
        have f := f h_8 e_9
        have hw_10 := wf_si e_9 hw_5
        refine ab_aload_nN C 0 dX7_text_56 rfl rfl ?_
        refine ab_ifnonnullN C dX7_text_57 ?_
        refine ab_bipush C (v := (-10 : Int32)) dX7_text_60 (by decide) ?_
        refine ab_aload_n C 1 dX7_text_62 rfl rfl ?_
        refine ab_getR C (q := 91) fl_X7_25 rfl kd_0 (wf_lt hw_10 kd_0 rfl) (wr_7_3 hw_10) dX7_text_63 ?_
        refine ab_getI C fl_X7_150 rfl kd_91 (wf_lt hw_10 kd_91 rfl) dX7_text_66 ?_
        refine ab_isub C dX7_text_69 ?_
        exact ab_iret C dX7_text_70 ⟨hw_10, _, rfl, f⟩
      · have f := f.2 q_6 rfl
        refine ab_astore_n C (lv' := [(2, .ref (G.1 + q_6)), (0, .ref (G.1 + 0)), (1, .int x1)]) dX7_text_47 rfl (by decide) rfl ?_
        refine ab_aload_n C 1 dX7_text_48 rfl rfl ?_
        refine ab_getR C (q := 1) fl_X7_10 rfl kd_0 (wf_lt hw_5 kd_0 rfl) (wr_7_0 hw_5) dX7_text_49 ?_
        refine ab_iconst C (v := (0 : Int32)) dX7_text_52 (by decide) ?_
        refine ab_putI C fl_X7_139 rfl kd_1 (wf_lt hw_5 kd_1 rfl) rfl rfl dX7_text_53 (fun h_11 e_12 => ?_)
        have f := f h_11 e_12
        have hw_13 := wf_si e_12 hw_5
        refine ab_aload_n C 0 dX7_text_56 rfl rfl ?_
        refine ab_ifnonnullR C (tgt := 71) dX7_text_57 (by decide) ?_
        refine ab_aload_n C 1 dX7_text_71 rfl rfl ?_
        refine ab_getR C (q := 1) fl_X7_10 rfl kd_0 (wf_lt hw_13 kd_0 rfl) (wr_7_0 hw_13) dX7_text_72 ?_
        refine ab_getR C (q := (1 + 6)) fl_X7_153 rfl kd_1 (wf_lt hw_13 kd_1 rfl) (wr_2_13 hw_13 kd_1) dX7_text_75 ?_
        refine ab_iload_n C 2 dX7_text_78 rfl rfl ?_
        refine ab_aload_n C 0 dX7_text_79 rfl rfl ?_
        obtain ⟨c_14, f⟩ := f
        obtain ⟨c_17, c_18, f⟩ := f
        refine ab_aast C (t0 := 4) (ci := 4) (v := q_6) (kn_2_13 kd_1) (by decide) (by decide) (fun _ => rfl) rfl (wf_lt hw_13 (kn_2_13 kd_1) rfl) (wf_len hw_13 (kn_2_13 kd_1) rfl rfl (by decide)) c_14 (j := x1.toNatClampNeg) rfl c_17 (by decide) c_18 dX7_text_80 (fun h_15 e_16 => ?_)
        have f := f h_15 e_16
        have hw_19 := wf_sr e_16 (sr_text (kn_2_13 kd_1)) hw_13
        refine ab_iconst C (v := (1 : Int32)) dX7_text_81 (by decide) ?_
        exact ab_iret C dX7_text_82 ⟨hw_19, _, rfl, f⟩
    · have f := f.1 c_3
      refine ab_bipush C (v := (109 : Int32)) dX7_text_37 (by decide) ?_
      refine ab_goto C (tgt := 44) dX7_text_39 (by decide) ?_
      refine ab_callV C (k := 0) (n := 0) (rest := []) [.ref (G.1 + (1 + 5)), .int (hp_i h 1 12), .int (109 : Int32)] cl_X7_146 (mt_X5_read (kn_2_11 kd_1) hw f) rfl (by decide) kd_91 (wf_lt hw kd_91 rfl) ⟨rfl, rfl, Nat.le_of_ble_eq_true rfl, Nat.le_of_ble_eq_true rfl, Nat.le_of_ble_eq_true rfl, Nat.le_of_ble_eq_true rfl⟩ rfl rfl (Nat.le_of_ble_eq_true rfl) dX7_text_44 (ab_kq (k := 3) (n := 122) (fun h_20 hw_21 f => ?_) (fun q_22 h_20 hw_21 f => ?_))
      · have f := f.1 rfl
        refine ab_astore_nN C (lv' := [(2, .null), (0, .ref (G.1 + 0)), (1, .int x1)]) dX7_text_47 rfl (by decide) rfl ?_
        refine ab_aload_n C 1 dX7_text_48 rfl rfl ?_
        refine ab_getR C (q := 1) fl_X7_10 rfl kd_0 (wf_lt hw_21 kd_0 rfl) (wr_7_0 hw_21) dX7_text_49 ?_
        refine ab_iconst C (v := (0 : Int32)) dX7_text_52 (by decide) ?_
        refine ab_putI C fl_X7_139 rfl kd_1 (wf_lt hw_21 kd_1 rfl) rfl rfl dX7_text_53 (fun h_24 e_25 => ?_)
        have f := f h_24 e_25
        have hw_26 := wf_si e_25 hw_21
        refine ab_aload_nN C 0 dX7_text_56 rfl rfl ?_
        refine ab_ifnonnullN C dX7_text_57 ?_
        refine ab_bipush C (v := (-10 : Int32)) dX7_text_60 (by decide) ?_
        refine ab_aload_n C 1 dX7_text_62 rfl rfl ?_
        refine ab_getR C (q := 91) fl_X7_25 rfl kd_0 (wf_lt hw_26 kd_0 rfl) (wr_7_3 hw_26) dX7_text_63 ?_
        refine ab_getI C fl_X7_150 rfl kd_91 (wf_lt hw_26 kd_91 rfl) dX7_text_66 ?_
        refine ab_isub C dX7_text_69 ?_
        exact ab_iret C dX7_text_70 ⟨hw_26, _, rfl, f⟩
      · have f := f.2 q_22 rfl
        refine ab_astore_n C (lv' := [(2, .ref (G.1 + q_22)), (0, .ref (G.1 + 0)), (1, .int x1)]) dX7_text_47 rfl (by decide) rfl ?_
        refine ab_aload_n C 1 dX7_text_48 rfl rfl ?_
        refine ab_getR C (q := 1) fl_X7_10 rfl kd_0 (wf_lt hw_21 kd_0 rfl) (wr_7_0 hw_21) dX7_text_49 ?_
        refine ab_iconst C (v := (0 : Int32)) dX7_text_52 (by decide) ?_
        refine ab_putI C fl_X7_139 rfl kd_1 (wf_lt hw_21 kd_1 rfl) rfl rfl dX7_text_53 (fun h_27 e_28 => ?_)
        have f := f h_27 e_28
        have hw_29 := wf_si e_28 hw_21
        refine ab_aload_n C 0 dX7_text_56 rfl rfl ?_
        refine ab_ifnonnullR C (tgt := 71) dX7_text_57 (by decide) ?_
        refine ab_aload_n C 1 dX7_text_71 rfl rfl ?_
        refine ab_getR C (q := 1) fl_X7_10 rfl kd_0 (wf_lt hw_29 kd_0 rfl) (wr_7_0 hw_29) dX7_text_72 ?_
        refine ab_getR C (q := (1 + 6)) fl_X7_153 rfl kd_1 (wf_lt hw_29 kd_1 rfl) (wr_2_13 hw_29 kd_1) dX7_text_75 ?_
        refine ab_iload_n C 2 dX7_text_78 rfl rfl ?_
        refine ab_aload_n C 0 dX7_text_79 rfl rfl ?_
        obtain ⟨c_30, f⟩ := f
        obtain ⟨c_33, c_34, f⟩ := f
        refine ab_aast C (t0 := 4) (ci := 4) (v := q_22) (kn_2_13 kd_1) (by decide) (by decide) (fun _ => rfl) rfl (wf_lt hw_29 (kn_2_13 kd_1) rfl) (wf_len hw_29 (kn_2_13 kd_1) rfl rfl (by decide)) c_30 (j := x1.toNatClampNeg) rfl c_33 (by decide) c_34 dX7_text_80 (fun h_31 e_32 => ?_)
        have f := f h_31 e_32
        have hw_35 := wf_sr e_32 (sr_text (kn_2_13 kd_1)) hw_29
        refine ab_iconst C (v := (1 : Int32)) dX7_text_81 (by decide) ?_
        exact ab_iret C dX7_text_82 ⟨hw_35, _, rfl, f⟩
  · have f := f.1 c_2
    refine ab_aload_n C 0 dX7_text_9 rfl rfl ?_
    refine ab_iconst C (v := (1 : Int32)) dX7_text_10 (by decide) ?_
    refine ab_callV C (k := 0) (n := 0) (rest := []) [.int (1 : Int32)] cl_X7_51 (mt_X7_error  hw f) rfl (by decide) kd_0 (wf_lt hw kd_0 rfl) ⟨rfl, rfl, Nat.le_of_ble_eq_true rfl, Nat.le_of_ble_eq_true rfl, Nat.zero_le _, Nat.zero_le _⟩ rfl rfl (Nat.le_of_ble_eq_true rfl) dX7_text_11 (ab_kh (k := 0) (n := 0) (fun v_36 h_37 hw_38 f => ?_))
    refine ab_widen (k' := 3) (n' := 122) (Nat.le_of_ble_eq_true rfl) (Nat.le_of_ble_eq_true rfl) ?_
    exact ab_iret C dX7_text_14 ⟨hw_38, _, rfl, f⟩
/-! X7_then -/
def rm_X7_then : Room := { frames := 9, cells := 0, slots := 0, locals := 264 }
def wp_X7_then (x1 : Int32) (x2 : Int32) (x3 : Int32) (h : hp_T) (Q : Int32 → hp_T → Prop) : Prop :=
  wp_X7_within x1 (0 : Int32) (90 : Int32) h (fun v_1 => ((v_1 = 0 → wp_X7_error (1 : Int32) h (fun v_3 h_4 => (Q v_3 h_4))) ∧ (¬ (v_1 = 0) → wp_X7_isBunk x2 h (fun v_6 => ((v_6 = 0 → wp_X7_error (1 : Int32) h (fun v_8 h_9 => (Q v_8 h_9))) ∧ (¬ (v_6 = 0) → wp_X7_within x3 (0 : Int32) (23 : Int32) h (fun v_11 => ((v_11 = 0 → wp_X7_error (1 : Int32) h (fun v_18 h_19 => (Q v_18 h_19))) ∧ (¬ (v_11 = 0) → wp_X7_goAhead x1 h (fun h_13 => wp_X2_ofMan 61 x2 x3 h_13 (fun v_15 h_16 => (Q v_15 h_16))))))))))))
set_option maxRecDepth 100000 in
set_option maxHeartbeats 4000000 in
theorem mt_X7_then {l : Launch} {G : ab_G} {x1 : Int32} {x2 : Int32} {x3 : Int32} {h : hp_T} {Q : Int32 → hp_T → Prop} (hw : wf h) (f : wp_X7_then x1 x2 x3 h Q) : ab_M l G yX7_then cX7_then 4 (some .int) rm_X7_then 0 0 [.ref (G.1 + 0), .int x1, .int x2, .int x3] h (po_h Q) := by
  refine ab_intro (own := RX7) (nm := "then") rfl rfl rfl (Nat.le_of_ble_eq_true rfl) (fun F C => ?_)
  show ab_W l G F 4 (ab_MQ G F (po_h Q) 0 0) 0 0 h [(0, .ref (G.1 + 0)), (1, .int x1), (2, .int x2), (3, .int x3)] [] 0
  unfold wp_X7_then at f
  refine ab_iload_n C 1 dX7_then_0 rfl rfl ?_
  refine ab_iconst C (v := (0 : Int32)) dX7_then_1 (by decide) ?_
  refine ab_bipush C (v := (90 : Int32)) dX7_then_2 (by decide) ?_
  refine ab_callS C (k := 0) (n := 0) (rest := []) [.int x1, .int (0 : Int32), .int (90 : Int32)] cl_X7_47 (mt_X7_within  hw f) ⟨rfl, rfl, Nat.le_of_ble_eq_true rfl, Nat.le_of_ble_eq_true rfl, Nat.zero_le _, Nat.zero_le _⟩ rfl rfl (Nat.le_of_ble_eq_true rfl) dX7_then_4 (ab_kp (k := 0) (n := 0) (fun v_1 f => ?_))
  refine ab_if_eq C (tgt := 28) dX7_then_7 (by decide) (fun c_2 => ?_) (fun c_2 => ?_)
  · have f := f.1 c_2
    refine ab_aload_n C 0 dX7_then_28 rfl rfl ?_
    refine ab_iconst C (v := (1 : Int32)) dX7_then_29 (by decide) ?_
    refine ab_callV C (k := 0) (n := 0) (rest := []) [.int (1 : Int32)] cl_X7_51 (mt_X7_error  hw f) rfl (by decide) kd_0 (wf_lt hw kd_0 rfl) ⟨rfl, rfl, Nat.le_of_ble_eq_true rfl, Nat.le_of_ble_eq_true rfl, Nat.zero_le _, Nat.zero_le _⟩ rfl rfl (Nat.le_of_ble_eq_true rfl) dX7_then_30 (ab_kh (k := 0) (n := 0) (fun v_3 h_4 hw_5 f => ?_))
    exact ab_iret C dX7_then_33 ⟨hw_5, _, rfl, f⟩
  · have f := f.2 c_2
    refine ab_aload_n C 0 dX7_then_10 rfl rfl ?_
    refine ab_iload_n C 2 dX7_then_11 rfl rfl ?_
    refine ab_callV C (k := 0) (n := 0) (rest := []) [.int x2] cl_X7_62 (mt_X7_isBunk  hw f) rfl (by decide) kd_0 (wf_lt hw kd_0 rfl) ⟨rfl, rfl, Nat.le_of_ble_eq_true rfl, Nat.le_of_ble_eq_true rfl, Nat.zero_le _, Nat.zero_le _⟩ rfl rfl (Nat.le_of_ble_eq_true rfl) dX7_then_12 (ab_kp (k := 0) (n := 0) (fun v_6 f => ?_))
    refine ab_if_eq C (tgt := 28) dX7_then_15 (by decide) (fun c_7 => ?_) (fun c_7 => ?_)
    · have f := f.1 c_7
      refine ab_aload_n C 0 dX7_then_28 rfl rfl ?_
      refine ab_iconst C (v := (1 : Int32)) dX7_then_29 (by decide) ?_
      refine ab_callV C (k := 0) (n := 0) (rest := []) [.int (1 : Int32)] cl_X7_51 (mt_X7_error  hw f) rfl (by decide) kd_0 (wf_lt hw kd_0 rfl) ⟨rfl, rfl, Nat.le_of_ble_eq_true rfl, Nat.le_of_ble_eq_true rfl, Nat.zero_le _, Nat.zero_le _⟩ rfl rfl (Nat.le_of_ble_eq_true rfl) dX7_then_30 (ab_kh (k := 0) (n := 0) (fun v_8 h_9 hw_10 f => ?_))
      exact ab_iret C dX7_then_33 ⟨hw_10, _, rfl, f⟩
    · have f := f.2 c_7
      refine ab_iload_n C 3 dX7_then_18 rfl rfl ?_
      refine ab_iconst C (v := (0 : Int32)) dX7_then_19 (by decide) ?_
      refine ab_bipush C (v := (23 : Int32)) dX7_then_20 (by decide) ?_
      refine ab_callS C (k := 0) (n := 0) (rest := []) [.int x3, .int (0 : Int32), .int (23 : Int32)] cl_X7_47 (mt_X7_within  hw f) ⟨rfl, rfl, Nat.le_of_ble_eq_true rfl, Nat.le_of_ble_eq_true rfl, Nat.zero_le _, Nat.zero_le _⟩ rfl rfl (Nat.le_of_ble_eq_true rfl) dX7_then_22 (ab_kp (k := 0) (n := 0) (fun v_11 f => ?_))
      refine ab_if_ne C (tgt := 34) dX7_then_25 (by decide) (fun c_12 => ?_) (fun c_12 => ?_)
      · have f := f.2 c_12
        refine ab_aload_n C 0 dX7_then_34 rfl rfl ?_
        refine ab_iload_n C 1 dX7_then_35 rfl rfl ?_
        refine ab_callV C (k := 0) (n := 0) (rest := []) [.int x1] cl_X7_173 (mt_X7_goAhead  hw f) rfl (by decide) kd_0 (wf_lt hw kd_0 rfl) ⟨rfl, rfl, Nat.le_of_ble_eq_true rfl, Nat.le_of_ble_eq_true rfl, Nat.zero_le _, Nat.zero_le _⟩ rfl rfl (Nat.le_of_ble_eq_true rfl) dX7_then_36 (ab_kv (k := 0) (n := 0) (fun h_13 hw_14 f => ?_))
        refine ab_aload_n C 0 dX7_then_39 rfl rfl ?_
        refine ab_getR C (q := 61) fl_X7_19 rfl kd_0 (wf_lt hw_14 kd_0 rfl) (wr_7_2 hw_14) dX7_then_40 ?_
        refine ab_iload_n C 2 dX7_then_43 rfl rfl ?_
        refine ab_iload_n C 3 dX7_then_44 rfl rfl ?_
        refine ab_callV C (k := 0) (n := 0) (rest := []) [.int x2, .int x3] cl_X7_66 (mt_X2_ofMan kd_61 hw_14 f) rfl (by decide) kd_61 (wf_lt hw_14 kd_61 rfl) ⟨rfl, rfl, Nat.le_of_ble_eq_true rfl, Nat.le_of_ble_eq_true rfl, Nat.zero_le _, Nat.zero_le _⟩ rfl rfl (Nat.le_of_ble_eq_true rfl) dX7_then_45 (ab_kh (k := 0) (n := 0) (fun v_15 h_16 hw_17 f => ?_))
        exact ab_iret C dX7_then_48 ⟨hw_17, _, rfl, f⟩
      · have f := f.1 c_12
        refine ab_aload_n C 0 dX7_then_28 rfl rfl ?_
        refine ab_iconst C (v := (1 : Int32)) dX7_then_29 (by decide) ?_
        refine ab_callV C (k := 0) (n := 0) (rest := []) [.int (1 : Int32)] cl_X7_51 (mt_X7_error  hw f) rfl (by decide) kd_0 (wf_lt hw kd_0 rfl) ⟨rfl, rfl, Nat.le_of_ble_eq_true rfl, Nat.le_of_ble_eq_true rfl, Nat.zero_le _, Nat.zero_le _⟩ rfl rfl (Nat.le_of_ble_eq_true rfl) dX7_then_30 (ab_kh (k := 0) (n := 0) (fun v_18 h_19 hw_20 f => ?_))
        exact ab_iret C dX7_then_33 ⟨hw_20, _, rfl, f⟩
/-! X7_thenTask -/
def rm_X7_thenTask : Room := { frames := 9, cells := 0, slots := 0, locals := 264 }
def wp_X7_thenTask (x1 : Int32) (x2 : Int32) (x3 : Int32) (h : hp_T) (Q : Int32 → hp_T → Prop) : Prop :=
  wp_X7_within x1 (0 : Int32) (90 : Int32) h (fun v_1 => ((v_1 = 0 → wp_X7_error (1 : Int32) h (fun v_3 h_4 => (Q v_3 h_4))) ∧ (¬ (v_1 = 0) → wp_X7_within x2 (0 : Int32) (3 : Int32) h (fun v_6 => ((v_6 = 0 → wp_X7_error (1 : Int32) h (fun v_8 h_9 => (Q v_8 h_9))) ∧ (¬ (v_6 = 0) → wp_X7_within x3 (0 : Int32) (4 : Int32) h (fun v_11 => ((v_11 = 0 → wp_X7_error (1 : Int32) h (fun v_16 h_17 => (Q v_16 h_17))) ∧ (¬ (v_11 = 0) → wp_X7_goAhead x1 h (fun h_13 => wp_X2_ofTask 61 x2 x3 h_13 (fun v_15 => (Q v_15 h_13))))))))))))
set_option maxRecDepth 100000 in
set_option maxHeartbeats 4000000 in
theorem mt_X7_thenTask {l : Launch} {G : ab_G} {x1 : Int32} {x2 : Int32} {x3 : Int32} {h : hp_T} {Q : Int32 → hp_T → Prop} (hw : wf h) (f : wp_X7_thenTask x1 x2 x3 h Q) : ab_M l G yX7_thenTask cX7_thenTask 4 (some .int) rm_X7_thenTask 0 0 [.ref (G.1 + 0), .int x1, .int x2, .int x3] h (po_h Q) := by
  refine ab_intro (own := RX7) (nm := "thenTask") rfl rfl rfl (Nat.le_of_ble_eq_true rfl) (fun F C => ?_)
  show ab_W l G F 4 (ab_MQ G F (po_h Q) 0 0) 0 0 h [(0, .ref (G.1 + 0)), (1, .int x1), (2, .int x2), (3, .int x3)] [] 0
  unfold wp_X7_thenTask at f
  refine ab_iload_n C 1 dX7_thenTask_0 rfl rfl ?_
  refine ab_iconst C (v := (0 : Int32)) dX7_thenTask_1 (by decide) ?_
  refine ab_bipush C (v := (90 : Int32)) dX7_thenTask_2 (by decide) ?_
  refine ab_callS C (k := 0) (n := 0) (rest := []) [.int x1, .int (0 : Int32), .int (90 : Int32)] cl_X7_47 (mt_X7_within  hw f) ⟨rfl, rfl, Nat.le_of_ble_eq_true rfl, Nat.le_of_ble_eq_true rfl, Nat.zero_le _, Nat.zero_le _⟩ rfl rfl (Nat.le_of_ble_eq_true rfl) dX7_thenTask_4 (ab_kp (k := 0) (n := 0) (fun v_1 f => ?_))
  refine ab_if_eq C (tgt := 28) dX7_thenTask_7 (by decide) (fun c_2 => ?_) (fun c_2 => ?_)
  · have f := f.1 c_2
    refine ab_aload_n C 0 dX7_thenTask_28 rfl rfl ?_
    refine ab_iconst C (v := (1 : Int32)) dX7_thenTask_29 (by decide) ?_
    refine ab_callV C (k := 0) (n := 0) (rest := []) [.int (1 : Int32)] cl_X7_51 (mt_X7_error  hw f) rfl (by decide) kd_0 (wf_lt hw kd_0 rfl) ⟨rfl, rfl, Nat.le_of_ble_eq_true rfl, Nat.le_of_ble_eq_true rfl, Nat.zero_le _, Nat.zero_le _⟩ rfl rfl (Nat.le_of_ble_eq_true rfl) dX7_thenTask_30 (ab_kh (k := 0) (n := 0) (fun v_3 h_4 hw_5 f => ?_))
    exact ab_iret C dX7_thenTask_33 ⟨hw_5, _, rfl, f⟩
  · have f := f.2 c_2
    refine ab_iload_n C 2 dX7_thenTask_10 rfl rfl ?_
    refine ab_iconst C (v := (0 : Int32)) dX7_thenTask_11 (by decide) ?_
    refine ab_iconst C (v := (3 : Int32)) dX7_thenTask_12 (by decide) ?_
    refine ab_callS C (k := 0) (n := 0) (rest := []) [.int x2, .int (0 : Int32), .int (3 : Int32)] cl_X7_47 (mt_X7_within  hw f) ⟨rfl, rfl, Nat.le_of_ble_eq_true rfl, Nat.le_of_ble_eq_true rfl, Nat.zero_le _, Nat.zero_le _⟩ rfl rfl (Nat.le_of_ble_eq_true rfl) dX7_thenTask_13 (ab_kp (k := 0) (n := 0) (fun v_6 f => ?_))
    refine ab_if_eq C (tgt := 28) dX7_thenTask_16 (by decide) (fun c_7 => ?_) (fun c_7 => ?_)
    · have f := f.1 c_7
      refine ab_aload_n C 0 dX7_thenTask_28 rfl rfl ?_
      refine ab_iconst C (v := (1 : Int32)) dX7_thenTask_29 (by decide) ?_
      refine ab_callV C (k := 0) (n := 0) (rest := []) [.int (1 : Int32)] cl_X7_51 (mt_X7_error  hw f) rfl (by decide) kd_0 (wf_lt hw kd_0 rfl) ⟨rfl, rfl, Nat.le_of_ble_eq_true rfl, Nat.le_of_ble_eq_true rfl, Nat.zero_le _, Nat.zero_le _⟩ rfl rfl (Nat.le_of_ble_eq_true rfl) dX7_thenTask_30 (ab_kh (k := 0) (n := 0) (fun v_8 h_9 hw_10 f => ?_))
      exact ab_iret C dX7_thenTask_33 ⟨hw_10, _, rfl, f⟩
    · have f := f.2 c_7
      refine ab_iload_n C 3 dX7_thenTask_19 rfl rfl ?_
      refine ab_iconst C (v := (0 : Int32)) dX7_thenTask_20 (by decide) ?_
      refine ab_iconst C (v := (4 : Int32)) dX7_thenTask_21 (by decide) ?_
      refine ab_callS C (k := 0) (n := 0) (rest := []) [.int x3, .int (0 : Int32), .int (4 : Int32)] cl_X7_47 (mt_X7_within  hw f) ⟨rfl, rfl, Nat.le_of_ble_eq_true rfl, Nat.le_of_ble_eq_true rfl, Nat.zero_le _, Nat.zero_le _⟩ rfl rfl (Nat.le_of_ble_eq_true rfl) dX7_thenTask_22 (ab_kp (k := 0) (n := 0) (fun v_11 f => ?_))
      refine ab_if_ne C (tgt := 34) dX7_thenTask_25 (by decide) (fun c_12 => ?_) (fun c_12 => ?_)
      · have f := f.2 c_12
        refine ab_aload_n C 0 dX7_thenTask_34 rfl rfl ?_
        refine ab_iload_n C 1 dX7_thenTask_35 rfl rfl ?_
        refine ab_callV C (k := 0) (n := 0) (rest := []) [.int x1] cl_X7_173 (mt_X7_goAhead  hw f) rfl (by decide) kd_0 (wf_lt hw kd_0 rfl) ⟨rfl, rfl, Nat.le_of_ble_eq_true rfl, Nat.le_of_ble_eq_true rfl, Nat.zero_le _, Nat.zero_le _⟩ rfl rfl (Nat.le_of_ble_eq_true rfl) dX7_thenTask_36 (ab_kv (k := 0) (n := 0) (fun h_13 hw_14 f => ?_))
        refine ab_aload_n C 0 dX7_thenTask_39 rfl rfl ?_
        refine ab_getR C (q := 61) fl_X7_19 rfl kd_0 (wf_lt hw_14 kd_0 rfl) (wr_7_2 hw_14) dX7_thenTask_40 ?_
        refine ab_iload_n C 2 dX7_thenTask_43 rfl rfl ?_
        refine ab_iload_n C 3 dX7_thenTask_44 rfl rfl ?_
        refine ab_callV C (k := 0) (n := 0) (rest := []) [.int x2, .int x3] cl_X7_136 (mt_X2_ofTask kd_61 hw_14 f) rfl (by decide) kd_61 (wf_lt hw_14 kd_61 rfl) ⟨rfl, rfl, Nat.le_of_ble_eq_true rfl, Nat.le_of_ble_eq_true rfl, Nat.zero_le _, Nat.zero_le _⟩ rfl rfl (Nat.le_of_ble_eq_true rfl) dX7_thenTask_45 (ab_kp (k := 0) (n := 0) (fun v_15 f => ?_))
        exact ab_iret C dX7_thenTask_48 ⟨hw_14, _, rfl, f⟩
      · have f := f.1 c_12
        refine ab_aload_n C 0 dX7_thenTask_28 rfl rfl ?_
        refine ab_iconst C (v := (1 : Int32)) dX7_thenTask_29 (by decide) ?_
        refine ab_callV C (k := 0) (n := 0) (rest := []) [.int (1 : Int32)] cl_X7_51 (mt_X7_error  hw f) rfl (by decide) kd_0 (wf_lt hw kd_0 rfl) ⟨rfl, rfl, Nat.le_of_ble_eq_true rfl, Nat.le_of_ble_eq_true rfl, Nat.zero_le _, Nat.zero_le _⟩ rfl rfl (Nat.le_of_ble_eq_true rfl) dX7_thenTask_30 (ab_kh (k := 0) (n := 0) (fun v_16 h_17 hw_18 f => ?_))
        exact ab_iret C dX7_thenTask_33 ⟨hw_18, _, rfl, f⟩
/-! X7_told -/
def rm_X7_told : Room := { frames := 3, cells := 0, slots := 0, locals := 122 }
def wp_X7_told (x1 : Int32) (h : hp_T) (Q : Int32 → hp_T → Prop) : Prop :=
  wp_X7_within x1 (1 : Int32) (6 : Int32) h (fun v_1 => ((v_1 = 0 → wp_X7_error (1 : Int32) h (fun v_3 h_4 => (Q v_3 h_4))) ∧ (¬ (v_1 = 0) → (vp_in x1 7) ∧ (Q (hp_i h 96 x1.toNatClampNeg) h))))
set_option maxRecDepth 100000 in
set_option maxHeartbeats 4000000 in
theorem mt_X7_told {l : Launch} {G : ab_G} {x1 : Int32} {h : hp_T} {Q : Int32 → hp_T → Prop} (hw : wf h) (f : wp_X7_told x1 h Q) : ab_M l G yX7_told cX7_told 2 (some .int) rm_X7_told 0 0 [.ref (G.1 + 0), .int x1] h (po_h Q) := by
  refine ab_intro (own := RX7) (nm := "told") rfl rfl rfl (Nat.le_of_ble_eq_true rfl) (fun F C => ?_)
  show ab_W l G F 2 (ab_MQ G F (po_h Q) 0 0) 0 0 h [(0, .ref (G.1 + 0)), (1, .int x1)] [] 0
  unfold wp_X7_told at f
  refine ab_iload_n C 1 dX7_told_0 rfl rfl ?_
  refine ab_iconst C (v := (1 : Int32)) dX7_told_1 (by decide) ?_
  refine ab_bipush C (v := (6 : Int32)) dX7_told_2 (by decide) ?_
  refine ab_callS C (k := 0) (n := 0) (rest := []) [.int x1, .int (1 : Int32), .int (6 : Int32)] cl_X7_47 (mt_X7_within  hw f) ⟨rfl, rfl, Nat.le_of_ble_eq_true rfl, Nat.le_of_ble_eq_true rfl, Nat.zero_le _, Nat.zero_le _⟩ rfl rfl (Nat.le_of_ble_eq_true rfl) dX7_told_4 (ab_kp (k := 0) (n := 0) (fun v_1 f => ?_))
  refine ab_if_eq C (tgt := 19) dX7_told_7 (by decide) (fun c_2 => ?_) (fun c_2 => ?_)
  · have f := f.1 c_2
    refine ab_aload_n C 0 dX7_told_19 rfl rfl ?_
    refine ab_iconst C (v := (1 : Int32)) dX7_told_20 (by decide) ?_
    refine ab_callV C (k := 0) (n := 0) (rest := []) [.int (1 : Int32)] cl_X7_51 (mt_X7_error  hw f) rfl (by decide) kd_0 (wf_lt hw kd_0 rfl) ⟨rfl, rfl, Nat.le_of_ble_eq_true rfl, Nat.le_of_ble_eq_true rfl, Nat.zero_le _, Nat.zero_le _⟩ rfl rfl (Nat.le_of_ble_eq_true rfl) dX7_told_21 (ab_kh (k := 0) (n := 0) (fun v_3 h_4 hw_5 f => ?_))
    exact ab_iret C dX7_told_24 ⟨hw_5, _, rfl, f⟩
  · have f := f.2 c_2
    refine ab_aload_n C 0 dX7_told_10 rfl rfl ?_
    refine ab_getR C (q := 96) fl_X7_42 rfl kd_0 (wf_lt hw kd_0 rfl) (wr_7_6 hw) dX7_told_11 ?_
    refine ab_iload_n C 1 dX7_told_14 rfl rfl ?_
    obtain ⟨c_6, f⟩ := f
    refine ab_iald C (by rw [kd_96]; decide) (wf_lt hw kd_96 rfl) (wf_len hw kd_96 rfl rfl (by decide)) c_6 (j := x1.toNatClampNeg) rfl dX7_told_15 ?_
    refine ab_goto C (tgt := 24) dX7_told_16 (by decide) ?_
    exact ab_iret C dX7_told_24 ⟨hw, _, rfl, f⟩
/-! X7_untell -/
def rm_X7_untell : Room := { frames := 3, cells := 0, slots := 0, locals := 122 }
def wp_X7_untell (x1 : Int32) (h : hp_T) (Q : Int32 → hp_T → Prop) : Prop :=
  wp_X7_within x1 (0 : Int32) (1 : Int32) h (fun v_1 => ((v_1 = 0 → wp_X7_error (1 : Int32) h (fun v_14 h_15 => (Q v_14 h_15))) ∧ (¬ (v_1 = 0) → (vp_in x1 2) ∧ ((hp_r h (1 + 6) x1.toNatClampNeg = none → (vp_in x1 2) ∧ (∀ h_7, h_7 = hp_sr h (1 + 6) x1.toNatClampNeg none → (Q (0 : Int32) h_7))) ∧ (∀ q_4, hp_r h (1 + 6) x1.toNatClampNeg = some q_4 → (vp_in x1 2) ∧ (∀ h_11, h_11 = hp_sr h (1 + 6) x1.toNatClampNeg none → (Q (1 : Int32) h_11)))))))
set_option maxRecDepth 100000 in
set_option maxHeartbeats 4000000 in
theorem mt_X7_untell {l : Launch} {G : ab_G} {x1 : Int32} {h : hp_T} {Q : Int32 → hp_T → Prop} (hw : wf h) (f : wp_X7_untell x1 h Q) : ab_M l G yX7_untell cX7_untell 3 (some .int) rm_X7_untell 0 0 [.ref (G.1 + 0), .int x1] h (po_h Q) := by
  refine ab_intro (own := RX7) (nm := "untell") rfl rfl rfl (Nat.le_of_ble_eq_true rfl) (fun F C => ?_)
  show ab_W l G F 3 (ab_MQ G F (po_h Q) 0 0) 0 0 h [(0, .ref (G.1 + 0)), (1, .int x1)] [] 0
  unfold wp_X7_untell at f
  refine ab_iload_n C 1 dX7_untell_0 rfl rfl ?_
  refine ab_iconst C (v := (0 : Int32)) dX7_untell_1 (by decide) ?_
  refine ab_iconst C (v := (1 : Int32)) dX7_untell_2 (by decide) ?_
  refine ab_callS C (k := 0) (n := 0) (rest := []) [.int x1, .int (0 : Int32), .int (1 : Int32)] cl_X7_47 (mt_X7_within  hw f) ⟨rfl, rfl, Nat.le_of_ble_eq_true rfl, Nat.le_of_ble_eq_true rfl, Nat.zero_le _, Nat.zero_le _⟩ rfl rfl (Nat.le_of_ble_eq_true rfl) dX7_untell_3 (ab_kp (k := 0) (n := 0) (fun v_1 f => ?_))
  refine ab_if_ne C (tgt := 15) dX7_untell_6 (by decide) (fun c_2 => ?_) (fun c_2 => ?_)
  · have f := f.2 c_2
    refine ab_aload_n C 0 dX7_untell_15 rfl rfl ?_
    refine ab_getR C (q := 1) fl_X7_10 rfl kd_0 (wf_lt hw kd_0 rfl) (wr_7_0 hw) dX7_untell_16 ?_
    refine ab_getR C (q := (1 + 6)) fl_X7_153 rfl kd_1 (wf_lt hw kd_1 rfl) (wr_2_13 hw kd_1) dX7_untell_19 ?_
    refine ab_iload_n C 1 dX7_untell_22 rfl rfl ?_
    obtain ⟨c_3, f⟩ := f
    refine ab_aaldQ C (kn_2_13 kd_1) (Or.inr (Or.inr (Or.inl rfl))) (wf_lt hw (kn_2_13 kd_1) rfl) (wf_len hw (kn_2_13 kd_1) rfl rfl (by decide)) c_3 (j := x1.toNatClampNeg) rfl dX7_untell_23 (fun c_5 => ?_) (fun q_4 c_5 => ?_)
    · have f := f.1 c_5
      refine ab_ifnonnullN C dX7_untell_24 ?_
      refine ab_iconst C (v := (0 : Int32)) dX7_untell_27 (by decide) ?_
      refine ab_goto C (tgt := 32) dX7_untell_28 (by decide) ?_
      refine ab_istore_n C (lv' := [(2, .int (0 : Int32)), (0, .ref (G.1 + 0)), (1, .int x1)]) dX7_untell_32 rfl (by decide) rfl ?_
      refine ab_aload_n C 1 dX7_untell_33 rfl rfl ?_
      refine ab_getR C (q := 1) fl_X7_10 rfl kd_0 (wf_lt hw kd_0 rfl) (wr_7_0 hw) dX7_untell_34 ?_
      refine ab_getR C (q := (1 + 6)) fl_X7_153 rfl kd_1 (wf_lt hw kd_1 rfl) (wr_2_13 hw kd_1) dX7_untell_37 ?_
      refine ab_iload_n C 2 dX7_untell_40 rfl rfl ?_
      refine ab_null C dX7_untell_41 ?_
      obtain ⟨c_6, f⟩ := f
      refine ab_aastN C (t0 := 4) (kn_2_13 kd_1) (by decide) (by decide) (fun _ => rfl) (wf_lt hw (kn_2_13 kd_1) rfl) (wf_len hw (kn_2_13 kd_1) rfl rfl (by decide)) c_6 (j := x1.toNatClampNeg) rfl dX7_untell_42 (fun h_7 e_8 => ?_)
      have f := f h_7 e_8
      have hw_9 := wf_sr e_8 (sr_text (kn_2_13 kd_1)) hw
      refine ab_iload_n C 0 dX7_untell_43 rfl rfl ?_
      exact ab_iret C dX7_untell_44 ⟨hw_9, _, rfl, f⟩
    · have f := f.2 q_4 c_5
      refine ab_ifnonnullR C (tgt := 31) dX7_untell_24 (by decide) ?_
      refine ab_iconst C (v := (1 : Int32)) dX7_untell_31 (by decide) ?_
      refine ab_istore_n C (lv' := [(2, .int (1 : Int32)), (0, .ref (G.1 + 0)), (1, .int x1)]) dX7_untell_32 rfl (by decide) rfl ?_
      refine ab_aload_n C 1 dX7_untell_33 rfl rfl ?_
      refine ab_getR C (q := 1) fl_X7_10 rfl kd_0 (wf_lt hw kd_0 rfl) (wr_7_0 hw) dX7_untell_34 ?_
      refine ab_getR C (q := (1 + 6)) fl_X7_153 rfl kd_1 (wf_lt hw kd_1 rfl) (wr_2_13 hw kd_1) dX7_untell_37 ?_
      refine ab_iload_n C 2 dX7_untell_40 rfl rfl ?_
      refine ab_null C dX7_untell_41 ?_
      obtain ⟨c_10, f⟩ := f
      refine ab_aastN C (t0 := 4) (kn_2_13 kd_1) (by decide) (by decide) (fun _ => rfl) (wf_lt hw (kn_2_13 kd_1) rfl) (wf_len hw (kn_2_13 kd_1) rfl rfl (by decide)) c_10 (j := x1.toNatClampNeg) rfl dX7_untell_42 (fun h_11 e_12 => ?_)
      have f := f h_11 e_12
      have hw_13 := wf_sr e_12 (sr_text (kn_2_13 kd_1)) hw
      refine ab_iload_n C 0 dX7_untell_43 rfl rfl ?_
      exact ab_iret C dX7_untell_44 ⟨hw_13, _, rfl, f⟩
  · have f := f.1 c_2
    refine ab_aload_n C 0 dX7_untell_9 rfl rfl ?_
    refine ab_iconst C (v := (1 : Int32)) dX7_untell_10 (by decide) ?_
    refine ab_callV C (k := 0) (n := 0) (rest := []) [.int (1 : Int32)] cl_X7_51 (mt_X7_error  hw f) rfl (by decide) kd_0 (wf_lt hw kd_0 rfl) ⟨rfl, rfl, Nat.le_of_ble_eq_true rfl, Nat.le_of_ble_eq_true rfl, Nat.zero_le _, Nat.zero_le _⟩ rfl rfl (Nat.le_of_ble_eq_true rfl) dX7_untell_11 (ab_kh (k := 0) (n := 0) (fun v_14 h_15 hw_16 f => ?_))
    exact ab_iret C dX7_untell_14 ⟨hw_16, _, rfl, f⟩
/-! X7_voice -/
def rm_X7_voice : Room := { frames := 49, cells := 0, slots := 0, locals := 3012 }
def wp_X7_voice (x1 : Int32) (x2 : Int32) (x3 : Int32) (h : hp_T) (Q : Int32 → hp_T → Prop) : Prop :=
  wp_X7_isBunk x1 h (fun v_1 => ((v_1 = 0 → wp_X7_error (1 : Int32) h (fun v_3 h_4 => (Q v_3 h_4))) ∧ (¬ (v_1 = 0) → wp_X7_within x2 (0 : Int32) (3 : Int32) h (fun v_6 => ((v_6 = 0 → wp_X7_error (1 : Int32) h (fun v_16 h_17 => (Q v_16 h_17))) ∧ (¬ (v_6 = 0) → (vp_in x1 6) ∧ wp_X6_speak (hp_i h (1 + 8 + 3 * x1.toNatClampNeg) 0) x1 (hp_i h (1 + 8 + 3 * x1.toNatClampNeg) 1) x2 x3 h (fun v_9 h_10 => (((hp_i h_10 93 5) = 0 → (Q v_9 h_10)) ∧ (¬ ((hp_i h_10 93 5) = 0) → wp_X7_error (6 : Int32) h_10 (fun v_13 h_14 => (Q v_13 h_14)))))))))))
set_option maxRecDepth 100000 in
set_option maxHeartbeats 4000000 in
theorem mt_X7_voice {l : Launch} {G : ab_G} {x1 : Int32} {x2 : Int32} {x3 : Int32} {h : hp_T} {Q : Int32 → hp_T → Prop} (hw : wf h) (f : wp_X7_voice x1 x2 x3 h Q) : ab_M l G yX7_voice cX7_voice 6 (some .int) rm_X7_voice 0 0 [.ref (G.1 + 0), .int x1, .int x2, .int x3] h (po_h Q) := by
  refine ab_intro (own := RX7) (nm := "voice") rfl rfl rfl (Nat.le_of_ble_eq_true rfl) (fun F C => ?_)
  show ab_W l G F 6 (ab_MQ G F (po_h Q) 0 0) 0 0 h [(0, .ref (G.1 + 0)), (1, .int x1), (2, .int x2), (3, .int x3)] [] 0
  unfold wp_X7_voice at f
  refine ab_aload_n C 0 dX7_voice_0 rfl rfl ?_
  refine ab_iload_n C 1 dX7_voice_1 rfl rfl ?_
  refine ab_callV C (k := 0) (n := 0) (rest := []) [.int x1] cl_X7_62 (mt_X7_isBunk  hw f) rfl (by decide) kd_0 (wf_lt hw kd_0 rfl) ⟨rfl, rfl, Nat.le_of_ble_eq_true rfl, Nat.le_of_ble_eq_true rfl, Nat.zero_le _, Nat.zero_le _⟩ rfl rfl (Nat.le_of_ble_eq_true rfl) dX7_voice_2 (ab_kp (k := 0) (n := 0) (fun v_1 f => ?_))
  refine ab_if_eq C (tgt := 17) dX7_voice_5 (by decide) (fun c_2 => ?_) (fun c_2 => ?_)
  · have f := f.1 c_2
    refine ab_aload_n C 0 dX7_voice_17 rfl rfl ?_
    refine ab_iconst C (v := (1 : Int32)) dX7_voice_18 (by decide) ?_
    refine ab_callV C (k := 0) (n := 0) (rest := []) [.int (1 : Int32)] cl_X7_51 (mt_X7_error  hw f) rfl (by decide) kd_0 (wf_lt hw kd_0 rfl) ⟨rfl, rfl, Nat.le_of_ble_eq_true rfl, Nat.le_of_ble_eq_true rfl, Nat.zero_le _, Nat.zero_le _⟩ rfl rfl (Nat.le_of_ble_eq_true rfl) dX7_voice_19 (ab_kh (k := 0) (n := 0) (fun v_3 h_4 hw_5 f => ?_))
    exact ab_iret C dX7_voice_22 ⟨hw_5, _, rfl, f⟩
  · have f := f.2 c_2
    refine ab_iload_n C 2 dX7_voice_8 rfl rfl ?_
    refine ab_iconst C (v := (0 : Int32)) dX7_voice_9 (by decide) ?_
    refine ab_iconst C (v := (3 : Int32)) dX7_voice_10 (by decide) ?_
    refine ab_callS C (k := 0) (n := 0) (rest := []) [.int x2, .int (0 : Int32), .int (3 : Int32)] cl_X7_47 (mt_X7_within  hw f) ⟨rfl, rfl, Nat.le_of_ble_eq_true rfl, Nat.le_of_ble_eq_true rfl, Nat.zero_le _, Nat.zero_le _⟩ rfl rfl (Nat.le_of_ble_eq_true rfl) dX7_voice_11 (ab_kp (k := 0) (n := 0) (fun v_6 f => ?_))
    refine ab_if_ne C (tgt := 23) dX7_voice_14 (by decide) (fun c_7 => ?_) (fun c_7 => ?_)
    · have f := f.2 c_7
      refine ab_aload_n C 0 dX7_voice_23 rfl rfl ?_
      refine ab_getR C (q := 1) fl_X7_10 rfl kd_0 (wf_lt hw kd_0 rfl) (wr_7_0 hw) dX7_voice_24 ?_
      refine ab_getR C (q := (1 + 1)) fl_X7_70 rfl kd_1 (wf_lt hw kd_1 rfl) (wr_2_0 hw kd_1) dX7_voice_27 ?_
      refine ab_iload_n C 1 dX7_voice_30 rfl rfl ?_
      obtain ⟨c_8, f⟩ := f
      refine ab_aaldR C (q := (1 + 8 + 3 * x1.toNatClampNeg)) (kn_2_0 kd_1) (Or.inl rfl) (wf_lt hw (kn_2_0 kd_1) rfl) (wf_len hw (kn_2_0 kd_1) rfl rfl (by decide)) c_8 (j := x1.toNatClampNeg) rfl (wx_bunk hw kd_1 (vp_in_lt c_8)) dX7_voice_31 ?_
      refine ab_astore C (lv' := [(4, .ref (G.1 + (1 + 8 + 3 * x1.toNatClampNeg))), (0, .ref (G.1 + 0)), (1, .int x1), (2, .int x2), (3, .int x3)]) dX7_voice_32 (by decide) rfl ?_
      refine ab_aload_n C 1 dX7_voice_34 rfl rfl ?_
      refine ab_getR C (q := 93) fl_X7_32 rfl kd_0 (wf_lt hw kd_0 rfl) (wr_7_4 hw) dX7_voice_35 ?_
      refine ab_aload C 0 dX7_voice_38 rfl ?_
      refine ab_getI C fl_X7_86 rfl (kx_bunk kd_1 (vp_in_lt c_8)) (wf_lt hw (kx_bunk kd_1 (vp_in_lt c_8)) rfl) dX7_voice_40 ?_
      refine ab_iload_n C 2 dX7_voice_43 rfl rfl ?_
      refine ab_aload C 0 dX7_voice_44 rfl ?_
      refine ab_getI C fl_X7_89 rfl (kx_bunk kd_1 (vp_in_lt c_8)) (wf_lt hw (kx_bunk kd_1 (vp_in_lt c_8)) rfl) dX7_voice_46 ?_
      refine ab_iload_n C 3 dX7_voice_49 rfl rfl ?_
      refine ab_iload_n C 4 dX7_voice_50 rfl rfl ?_
      refine ab_callV C (k := 0) (n := 0) (rest := []) [.int (hp_i h (1 + 8 + 3 * x1.toNatClampNeg) 0), .int x1, .int (hp_i h (1 + 8 + 3 * x1.toNatClampNeg) 1), .int x2, .int x3] cl_X7_204 (mt_X6_speak  hw f) rfl (by decide) kd_93 (wf_lt hw kd_93 rfl) ⟨rfl, rfl, Nat.le_of_ble_eq_true rfl, Nat.le_of_ble_eq_true rfl, Nat.zero_le _, Nat.zero_le _⟩ rfl rfl (Nat.le_of_ble_eq_true rfl) dX7_voice_51 (ab_kh (k := 0) (n := 0) (fun v_9 h_10 hw_11 f => ?_))
      refine ab_istore C (lv' := [(5, .int v_9), (4, .ref (G.1 + (1 + 8 + 3 * x1.toNatClampNeg))), (0, .ref (G.1 + 0)), (1, .int x1), (2, .int x2), (3, .int x3)]) dX7_voice_54 (by decide) rfl ?_
      refine ab_aload_n C 2 dX7_voice_56 rfl rfl ?_
      refine ab_getR C (q := 93) fl_X7_32 rfl kd_0 (wf_lt hw_11 kd_0 rfl) (wr_7_4 hw_11) dX7_voice_57 ?_
      refine ab_getI C fl_X7_208 rfl kd_93 (wf_lt hw_11 kd_93 rfl) dX7_voice_60 ?_
      refine ab_if_eq C (tgt := 75) dX7_voice_63 (by decide) (fun c_12 => ?_) (fun c_12 => ?_)
      · have f := f.1 c_12
        refine ab_iload C 0 dX7_voice_75 rfl ?_
        exact ab_iret C dX7_voice_77 ⟨hw_11, _, rfl, f⟩
      · have f := f.2 c_12
        refine ab_aload_n C 2 dX7_voice_66 rfl rfl ?_
        refine ab_bipush C (v := (6 : Int32)) dX7_voice_67 (by decide) ?_
        refine ab_callV C (k := 0) (n := 0) (rest := []) [.int (6 : Int32)] cl_X7_51 (mt_X7_error  hw_11 f) rfl (by decide) kd_0 (wf_lt hw_11 kd_0 rfl) ⟨rfl, rfl, Nat.le_of_ble_eq_true rfl, Nat.le_of_ble_eq_true rfl, Nat.zero_le _, Nat.zero_le _⟩ rfl rfl (Nat.le_of_ble_eq_true rfl) dX7_voice_69 (ab_kh (k := 0) (n := 0) (fun v_13 h_14 hw_15 f => ?_))
        refine ab_goto C (tgt := 77) dX7_voice_72 (by decide) ?_
        exact ab_iret C dX7_voice_77 ⟨hw_15, _, rfl, f⟩
    · have f := f.1 c_7
      refine ab_aload_n C 0 dX7_voice_17 rfl rfl ?_
      refine ab_iconst C (v := (1 : Int32)) dX7_voice_18 (by decide) ?_
      refine ab_callV C (k := 0) (n := 0) (rest := []) [.int (1 : Int32)] cl_X7_51 (mt_X7_error  hw f) rfl (by decide) kd_0 (wf_lt hw kd_0 rfl) ⟨rfl, rfl, Nat.le_of_ble_eq_true rfl, Nat.le_of_ble_eq_true rfl, Nat.zero_le _, Nat.zero_le _⟩ rfl rfl (Nat.le_of_ble_eq_true rfl) dX7_voice_19 (ab_kh (k := 0) (n := 0) (fun v_16 h_17 hw_18 f => ?_))
      exact ab_iret C dX7_voice_22 ⟨hw_18, _, rfl, f⟩
/-! X7_wages -/
def rm_X7_wages : Room := { frames := 9, cells := 0, slots := 0, locals := 264 }
def wp_X7_wages_L25 (x1 : Int32) (Q : Int32 → hp_T → Prop) : Nat → Int32 → Int32 → hp_T → Prop
  | 0 => fun _ _ _ => False
  | nn + 1 => fun y2 y3 h => ((x1 ≤ y3 → (Q y2 h)) ∧ (¬ (x1 ≤ y3) → wp_X2_passDay 61 h (fun v_6 h_7 => wp_X2_payOfAll 61 h_7 (fun v_9 h_10 => (wp_X7_wages_L25 x1 Q nn) (y2 + v_9) (y3 + (1 : Int32)) h_10))))
set_option maxRecDepth 100000 in
set_option maxHeartbeats 4000000 in
theorem bt_X7_wages_L25 {l : Launch} {G : ab_G} {F : ab_F} {x1 : Int32} {Q : Int32 → hp_T → Prop}  (C : ab_C G F rm_X7_wages cX7_wages 4 RX7 (some .int) "wages")   : ∀ (nn : Nat) (y2 : Int32) (y3 : Int32) (h : hp_T), wf h → wp_X7_wages_L25 x1 Q nn y2 y3 h → ab_W l G F 4 (ab_MQ G F (po_h Q) 0 0) 0 0 h [(0, .ref (G.1 + 0)), (1, .int x1), (2, .int y2), (3, .int y3)] [] 25 := by
  intro nn
  induction nn with
  | zero =>
    intro y2 y3 h hw f
    exact absurd f id
  | succ nn ih =>
    intro y2 y3 h hw f
    unfold wp_X7_wages_L25 at f
    refine ab_iload_n C 3 dX7_wages_25 rfl rfl ?_
    refine ab_iload_n C 1 dX7_wages_26 rfl rfl ?_
    refine ab_icmp_ge C (tgt := 54) dX7_wages_27 (by decide) (fun c_5 => ?_) (fun c_5 => ?_)
    · have f := f.1 c_5
      refine ab_iload_n C 2 dX7_wages_54 rfl rfl ?_
      exact ab_iret C dX7_wages_55 ⟨hw, _, rfl, f⟩
    · have f := f.2 c_5
      refine ab_aload_n C 0 dX7_wages_30 rfl rfl ?_
      refine ab_getR C (q := 61) fl_X7_19 rfl kd_0 (wf_lt hw kd_0 rfl) (wr_7_2 hw) dX7_wages_31 ?_
      refine ab_callV C (k := 0) (n := 0) (rest := []) [] cl_X7_160 (mt_X2_passDay kd_61 hw f) rfl (by decide) kd_61 (wf_lt hw kd_61 rfl) ⟨rfl, rfl, Nat.le_of_ble_eq_true rfl, Nat.le_of_ble_eq_true rfl, Nat.zero_le _, Nat.zero_le _⟩ rfl rfl (Nat.le_of_ble_eq_true rfl) dX7_wages_34 (ab_kh (k := 0) (n := 0) (fun v_6 h_7 hw_8 f => ?_))
      refine ab_pop C dX7_wages_37 rfl ?_
      refine ab_iload_n C 2 dX7_wages_38 rfl rfl ?_
      refine ab_aload_n C 0 dX7_wages_39 rfl rfl ?_
      refine ab_getR C (q := 61) fl_X7_19 rfl kd_0 (wf_lt hw_8 kd_0 rfl) (wr_7_2 hw_8) dX7_wages_40 ?_
      refine ab_callV C (k := 0) (n := 0) (rest := [.int y2]) [] cl_X7_201 (mt_X2_payOfAll kd_61 hw_8 f) rfl (by decide) kd_61 (wf_lt hw_8 kd_61 rfl) ⟨rfl, rfl, Nat.le_of_ble_eq_true rfl, Nat.le_of_ble_eq_true rfl, Nat.zero_le _, Nat.zero_le _⟩ rfl rfl (Nat.le_of_ble_eq_true rfl) dX7_wages_43 (ab_kh (k := 0) (n := 0) (fun v_9 h_10 hw_11 f => ?_))
      refine ab_iadd C dX7_wages_46 ?_
      refine ab_istore_n C (lv' := [(2, .int (y2 + v_9)), (0, .ref (G.1 + 0)), (1, .int x1), (3, .int y3)]) dX7_wages_47 rfl (by decide) rfl ?_
      refine ab_iinc C (lv' := [(3, .int (y3 + (1 : Int32))), (2, .int (y2 + v_9)), (0, .ref (G.1 + 0)), (1, .int x1)]) 3 (v := (y3 + (1 : Int32))) dX7_wages_48 rfl rfl (by decide) rfl ?_
      refine ab_goto C (tgt := 25) dX7_wages_51 (by decide) ?_
      refine ab_sub (lv' := [(0, .ref (G.1 + 0)), (1, .int x1), (2, .int (y2 + v_9)), (3, .int (y3 + (1 : Int32)))]) [2, 3, 1, 0] rfl ?_
      exact ih (y2 + v_9) (y3 + (1 : Int32)) h_10  hw_11 f
def wp_X7_wages (x1 : Int32) (h : hp_T) (Q : Int32 → hp_T → Prop) : Prop :=
  wp_X7_within x1 (1 : Int32) (90 : Int32) h (fun v_1 => ((v_1 = 0 → wp_X7_error (1 : Int32) h (fun v_12 h_13 => (Q v_12 h_13))) ∧ (¬ (v_1 = 0) → wp_X7_goAhead (0 : Int32) h (fun h_3 => (∃ n0, wp_X7_wages_L25 x1 Q  n0 (0 : Int32) (0 : Int32) h_3)))))
set_option maxRecDepth 100000 in
set_option maxHeartbeats 4000000 in
theorem mt_X7_wages {l : Launch} {G : ab_G} {x1 : Int32} {h : hp_T} {Q : Int32 → hp_T → Prop} (hw : wf h) (f : wp_X7_wages x1 h Q) : ab_M l G yX7_wages cX7_wages 4 (some .int) rm_X7_wages 0 0 [.ref (G.1 + 0), .int x1] h (po_h Q) := by
  refine ab_intro (own := RX7) (nm := "wages") rfl rfl rfl (Nat.le_of_ble_eq_true rfl) (fun F C => ?_)
  show ab_W l G F 4 (ab_MQ G F (po_h Q) 0 0) 0 0 h [(0, .ref (G.1 + 0)), (1, .int x1)] [] 0
  unfold wp_X7_wages at f
  refine ab_iload_n C 1 dX7_wages_0 rfl rfl ?_
  refine ab_iconst C (v := (1 : Int32)) dX7_wages_1 (by decide) ?_
  refine ab_bipush C (v := (90 : Int32)) dX7_wages_2 (by decide) ?_
  refine ab_callS C (k := 0) (n := 0) (rest := []) [.int x1, .int (1 : Int32), .int (90 : Int32)] cl_X7_47 (mt_X7_within  hw f) ⟨rfl, rfl, Nat.le_of_ble_eq_true rfl, Nat.le_of_ble_eq_true rfl, Nat.zero_le _, Nat.zero_le _⟩ rfl rfl (Nat.le_of_ble_eq_true rfl) dX7_wages_4 (ab_kp (k := 0) (n := 0) (fun v_1 f => ?_))
  refine ab_if_ne C (tgt := 16) dX7_wages_7 (by decide) (fun c_2 => ?_) (fun c_2 => ?_)
  · have f := f.2 c_2
    refine ab_aload_n C 0 dX7_wages_16 rfl rfl ?_
    refine ab_iconst C (v := (0 : Int32)) dX7_wages_17 (by decide) ?_
    refine ab_callV C (k := 0) (n := 0) (rest := []) [.int (0 : Int32)] cl_X7_173 (mt_X7_goAhead  hw f) rfl (by decide) kd_0 (wf_lt hw kd_0 rfl) ⟨rfl, rfl, Nat.le_of_ble_eq_true rfl, Nat.le_of_ble_eq_true rfl, Nat.zero_le _, Nat.zero_le _⟩ rfl rfl (Nat.le_of_ble_eq_true rfl) dX7_wages_18 (ab_kv (k := 0) (n := 0) (fun h_3 hw_4 f => ?_))
    refine ab_iconst C (v := (0 : Int32)) dX7_wages_21 (by decide) ?_
    refine ab_istore_n C (lv' := [(2, .int (0 : Int32)), (0, .ref (G.1 + 0)), (1, .int x1)]) dX7_wages_22 rfl (by decide) rfl ?_
    refine ab_iconst C (v := (0 : Int32)) dX7_wages_23 (by decide) ?_
    refine ab_istore_n C (lv' := [(3, .int (0 : Int32)), (2, .int (0 : Int32)), (0, .ref (G.1 + 0)), (1, .int x1)]) dX7_wages_24 rfl (by decide) rfl ?_
    obtain ⟨n0, f⟩ := f
    refine ab_sub (lv' := [(0, .ref (G.1 + 0)), (1, .int x1), (2, .int (0 : Int32)), (3, .int (0 : Int32))]) [2, 3, 1, 0] rfl ?_
    exact bt_X7_wages_L25 C    n0 (0 : Int32) (0 : Int32) h_3  hw_4 f
  · have f := f.1 c_2
    refine ab_aload_n C 0 dX7_wages_10 rfl rfl ?_
    refine ab_iconst C (v := (1 : Int32)) dX7_wages_11 (by decide) ?_
    refine ab_callV C (k := 0) (n := 0) (rest := []) [.int (1 : Int32)] cl_X7_51 (mt_X7_error  hw f) rfl (by decide) kd_0 (wf_lt hw kd_0 rfl) ⟨rfl, rfl, Nat.le_of_ble_eq_true rfl, Nat.le_of_ble_eq_true rfl, Nat.zero_le _, Nat.zero_le _⟩ rfl rfl (Nat.le_of_ble_eq_true rfl) dX7_wages_12 (ab_kh (k := 0) (n := 0) (fun v_12 h_13 hw_14 f => ?_))
    exact ab_iret C dX7_wages_15 ⟨hw_14, _, rfl, f⟩
