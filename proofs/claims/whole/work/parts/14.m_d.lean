/-! X8_errs -/
def rm_X8_errs : Room := { frames := 2, cells := 0, slots := 0, locals := 100 }
def wp_X8_errs (x1 : Int32) (h : hp_T) (Q : Int32 → hp_T → Prop) : Prop :=
  (vp_in ((-1000000001 : Int32) - x1) 6) ∧ (vp_in ((-1000000001 : Int32) - x1) 6) ∧ (∀ h_3, h_3 = hp_si h 109 (((-1000000001 : Int32) - x1).toNatClampNeg) ((hp_i h 109 (((-1000000001 : Int32) - x1).toNatClampNeg)) + (1 : Int32)) → (Q x1 h_3))
set_option maxRecDepth 100000 in
set_option maxHeartbeats 4000000 in
theorem mt_X8_errs {l : Launch} {G : ab_G} {x1 : Int32} {h : hp_T} {Q : Int32 → hp_T → Prop} (hw : wf h) (f : wp_X8_errs x1 h Q) : ab_M l G yX8_errs cX8_errs 2 (some .int) rm_X8_errs 0 0 [.ref (G.1 + 105), .int x1] h (po_h Q) := by
  refine ab_intro (own := RX8) (nm := "errs") rfl rfl rfl (Nat.le_of_ble_eq_true rfl) (fun F C => ?_)
  show ab_W l G F 2 (ab_MQ G F (po_h Q) 0 0) 0 0 h [(0, .ref (G.1 + 105)), (1, .int x1)] [] 0
  unfold wp_X8_errs at f
  refine ab_aload_n C 0 dX8_errs_0 rfl rfl ?_
  refine ab_getR C (q := 109) fl_X8_19 rfl kd_105 (wf_lt hw kd_105 rfl) (wr_8_3 hw) dX8_errs_1 ?_
  refine ab_ldc C kw_t821 dX8_errs_4 ?_
  refine ab_iload_n C 1 dX8_errs_6 rfl rfl ?_
  refine ab_isub C dX8_errs_7 ?_
  refine ab_dup2 C dX8_errs_8 rfl rfl ?_
  obtain ⟨c_1, f⟩ := f
  refine ab_iald C (by rw [kd_109]; decide) (wf_lt hw kd_109 rfl) (wf_len hw kd_109 rfl rfl (by decide)) c_1 (j := ((-1000000001 : Int32) - x1).toNatClampNeg) rfl dX8_errs_9 ?_
  refine ab_iconst C (v := (1 : Int32)) dX8_errs_10 (by decide) ?_
  refine ab_iadd C dX8_errs_11 ?_
  obtain ⟨c_2, f⟩ := f
  refine ab_iast C (by rw [kd_109]; decide) (wf_lt hw kd_109 rfl) (wf_len hw kd_109 rfl rfl (by decide)) c_2 (j := ((-1000000001 : Int32) - x1).toNatClampNeg) rfl dX8_errs_12 (fun h_3 e_4 => ?_)
  have f := f h_3 e_4
  have hw_5 := wf_si e_4 hw
  refine ab_iload_n C 1 dX8_errs_13 rfl rfl ?_
  exact ab_iret C dX8_errs_14 ⟨hw_5, _, rfl, f⟩
/-! X8_in -/
def rm_X8_in : Room := { frames := 2, cells := 0, slots := 0, locals := 100 }
def wp_X8_in (x0 : Int64) (x2 : Int64) (x4 : Int64) (h : hp_T) (Q : Int32 → Prop) : Prop :=
  (((lg_cmp x0 x2) < 0 → (Q (0 : Int32))) ∧ (¬ ((lg_cmp x0 x2) < 0) → ((0 < (lg_cmp x0 x4) → (Q (0 : Int32))) ∧ (¬ (0 < (lg_cmp x0 x4)) → (Q (1 : Int32))))))
set_option maxRecDepth 100000 in
set_option maxHeartbeats 4000000 in
theorem mt_X8_in {l : Launch} {G : ab_G} {x0 : Int64} {x2 : Int64} {x4 : Int64} {h : hp_T} {Q : Int32 → Prop} (hw : wf h) (f : wp_X8_in x0 x2 x4 h Q) : ab_M l G yX8_in cX8_in 6 (some .boolean) rm_X8_in 0 0 [.long x0, .long x2, .long x4] h (po_p h Q) := by
  refine ab_intro (own := RX8) (nm := "in") rfl rfl rfl (Nat.le_of_ble_eq_true rfl) (fun F C => ?_)
  show ab_W l G F 6 (ab_MQ G F (po_p h Q) 0 0) 0 0 h [(0, .long x0), (2, .long x2), (4, .long x4)] [] 0
  unfold wp_X8_in at f
  refine ab_lload_n C 0 dX8_in_0 rfl rfl ?_
  refine ab_lload_n C 1 dX8_in_1 rfl rfl ?_
  refine ab_lcmp C dX8_in_2 ?_
  refine ab_if_lt C (tgt := 17) dX8_in_3 (by decide) (fun c_1 => ?_) (fun c_1 => ?_)
  · have f := f.1 c_1
    refine ab_iconst C (v := (0 : Int32)) dX8_in_17 (by decide) ?_
    exact ab_zret C dX8_in_18 rfl ⟨rfl, _, rfl, f⟩
  · have f := f.2 c_1
    refine ab_lload_n C 0 dX8_in_6 rfl rfl ?_
    refine ab_lload C 2 dX8_in_7 rfl ?_
    refine ab_lcmp C dX8_in_9 ?_
    refine ab_if_gt C (tgt := 17) dX8_in_10 (by decide) (fun c_2 => ?_) (fun c_2 => ?_)
    · have f := f.1 c_2
      refine ab_iconst C (v := (0 : Int32)) dX8_in_17 (by decide) ?_
      exact ab_zret C dX8_in_18 rfl ⟨rfl, _, rfl, f⟩
    · have f := f.2 c_2
      refine ab_iconst C (v := (1 : Int32)) dX8_in_13 (by decide) ?_
      refine ab_goto C (tgt := 18) dX8_in_14 (by decide) ?_
      exact ab_zret C dX8_in_18 rfl ⟨rfl, _, rfl, f⟩
/-! X8_isBunk -/
def rm_X8_isBunk : Room := { frames := 3, cells := 0, slots := 0, locals := 125 }
def wp_X8_isBunk (x1 : Int32) (h : hp_T) (Q : Int32 → Prop) : Prop :=
  wp_X8_in x1.toInt64 (0 : Int64) (((hp_i h 106 0) - (1 : Int32)).toInt64) h (fun v_1 => (bo_ok v_1) ∧ (Q v_1))
set_option maxRecDepth 100000 in
set_option maxHeartbeats 4000000 in
theorem mt_X8_isBunk {l : Launch} {G : ab_G} {x1 : Int32} {h : hp_T} {Q : Int32 → Prop} (hw : wf h) (f : wp_X8_isBunk x1 h Q) : ab_M l G yX8_isBunk cX8_isBunk 2 (some .boolean) rm_X8_isBunk 0 0 [.ref (G.1 + 105), .int x1] h (po_p h Q) := by
  refine ab_intro (own := RX8) (nm := "isBunk") rfl rfl rfl (Nat.le_of_ble_eq_true rfl) (fun F C => ?_)
  show ab_W l G F 2 (ab_MQ G F (po_p h Q) 0 0) 0 0 h [(0, .ref (G.1 + 105)), (1, .int x1)] [] 0
  unfold wp_X8_isBunk at f
  refine ab_iload_n C 1 dX8_isBunk_0 rfl rfl ?_
  refine ab_i2l C dX8_isBunk_1 ?_
  refine ab_lconst C (v := (0 : Int64)) dX8_isBunk_2 (by decide) ?_
  refine ab_aload_n C 0 dX8_isBunk_3 rfl rfl ?_
  refine ab_getR C (q := 106) fl_X8_7 rfl kd_105 (wf_lt hw kd_105 rfl) (wr_8_0 hw) dX8_isBunk_4 ?_
  refine ab_iconst C (v := (0 : Int32)) dX8_isBunk_7 (by decide) ?_
  refine ab_iald C (by rw [kd_106]; decide) (wf_lt hw kd_106 rfl) (wf_len hw kd_106 rfl rfl (by decide)) (vp_lit (by decide)) (j := 0) (by decide) dX8_isBunk_8 ?_
  refine ab_iconst C (v := (1 : Int32)) dX8_isBunk_9 (by decide) ?_
  refine ab_isub C dX8_isBunk_10 ?_
  refine ab_i2l C dX8_isBunk_11 ?_
  refine ab_callS C (k := 0) (n := 0) (rest := []) [.long x1.toInt64, .long (0 : Int64), .long (((hp_i h 106 0) - (1 : Int32)).toInt64)] cl_X8_44 (mt_X8_in  hw f) ⟨rfl, rfl, Nat.le_of_ble_eq_true rfl, Nat.le_of_ble_eq_true rfl, Nat.zero_le _, Nat.zero_le _⟩ rfl rfl (Nat.le_of_ble_eq_true rfl) dX8_isBunk_12 (ab_kp (k := 0) (n := 0) (fun v_1 f => ?_))
  obtain ⟨c_2, f⟩ := f
  exact ab_zret C dX8_isBunk_15 (bo_nar c_2) ⟨rfl, _, rfl, f⟩
/-! X8_at -/
def rm_X8_at : Room := { frames := 2, cells := 0, slots := 0, locals := 100 }
def wp_X8_at (x0 : Int32) (x1 : Int32) (h : hp_T) (Q : Int32 → Prop) : Prop :=
  (Q (((11 : Int32) + ((17 : Int32) * x0)) + x1))
set_option maxRecDepth 100000 in
set_option maxHeartbeats 4000000 in
theorem mt_X8_at {l : Launch} {G : ab_G} {x0 : Int32} {x1 : Int32} {h : hp_T} {Q : Int32 → Prop} (hw : wf h) (f : wp_X8_at x0 x1 h Q) : ab_M l G yX8_at cX8_at 2 (some .int) rm_X8_at 0 0 [.int x0, .int x1] h (po_p h Q) := by
  refine ab_intro (own := RX8) (nm := "at") rfl rfl rfl (Nat.le_of_ble_eq_true rfl) (fun F C => ?_)
  show ab_W l G F 2 (ab_MQ G F (po_p h Q) 0 0) 0 0 h [(0, .int x0), (1, .int x1)] [] 0
  unfold wp_X8_at at f
  refine ab_bipush C (v := (11 : Int32)) dX8_at_0 (by decide) ?_
  refine ab_bipush C (v := (17 : Int32)) dX8_at_2 (by decide) ?_
  refine ab_iload_n C 0 dX8_at_4 rfl rfl ?_
  refine ab_imul C dX8_at_5 ?_
  refine ab_iadd C dX8_at_6 ?_
  refine ab_iload_n C 1 dX8_at_7 rfl rfl ?_
  refine ab_iadd C dX8_at_8 ?_
  exact ab_iret C dX8_at_9 ⟨rfl, _, rfl, f⟩
/-! X8_its -/
def rm_X8_its : Room := { frames := 3, cells := 0, slots := 0, locals := 121 }
def wp_X8_its (x1 : Int32) (x2 : Int32) (h : hp_T) (Q : Int32 → Prop) : Prop :=
  wp_X8_at x1 x2 h (fun v_1 => (vp_in v_1 357) ∧ (Q (hp_i h 106 v_1.toNatClampNeg)))
set_option maxRecDepth 100000 in
set_option maxHeartbeats 4000000 in
theorem mt_X8_its {l : Launch} {G : ab_G} {x1 : Int32} {x2 : Int32} {h : hp_T} {Q : Int32 → Prop} (hw : wf h) (f : wp_X8_its x1 x2 h Q) : ab_M l G yX8_its cX8_its 3 (some .int) rm_X8_its 0 0 [.ref (G.1 + 105), .int x1, .int x2] h (po_p h Q) := by
  refine ab_intro (own := RX8) (nm := "its") rfl rfl rfl (Nat.le_of_ble_eq_true rfl) (fun F C => ?_)
  show ab_W l G F 3 (ab_MQ G F (po_p h Q) 0 0) 0 0 h [(0, .ref (G.1 + 105)), (1, .int x1), (2, .int x2)] [] 0
  unfold wp_X8_its at f
  refine ab_aload_n C 0 dX8_its_0 rfl rfl ?_
  refine ab_getR C (q := 106) fl_X8_7 rfl kd_105 (wf_lt hw kd_105 rfl) (wr_8_0 hw) dX8_its_1 ?_
  refine ab_iload_n C 1 dX8_its_4 rfl rfl ?_
  refine ab_iload_n C 2 dX8_its_5 rfl rfl ?_
  refine ab_callS C (k := 0) (n := 0) (rest := [.ref (G.1 + 106)]) [.int x1, .int x2] cl_X8_56 (mt_X8_at  hw f) ⟨rfl, rfl, Nat.le_of_ble_eq_true rfl, Nat.le_of_ble_eq_true rfl, Nat.zero_le _, Nat.zero_le _⟩ rfl rfl (Nat.le_of_ble_eq_true rfl) dX8_its_6 (ab_kp (k := 0) (n := 0) (fun v_1 f => ?_))
  obtain ⟨c_2, f⟩ := f
  refine ab_iald C (by rw [kd_106]; decide) (wf_lt hw kd_106 rfl) (wf_len hw kd_106 rfl rfl (by decide)) c_2 (j := v_1.toNatClampNeg) rfl dX8_its_9 ?_
  exact ab_iret C dX8_its_10 ⟨rfl, _, rfl, f⟩
/-! X8_as -/
def rm_X8_as : Room := { frames := 4, cells := 0, slots := 0, locals := 146 }
def wp_X8_as_b53 (x1 : Int32) (x2 : Int32) (Q : Int32 → hp_T → Prop) (y3 : Int32) (h : hp_T) : Prop :=
  ((x2 = (2 : Int32) → ((y3 = (5 : Int32) → wp_X8_its x1 (3 : Int32) h (fun v_22 => (Q v_22 h))) ∧ (¬ (y3 = (5 : Int32)) → wp_X8_errs (-1000000005 : Int32) h (fun v_19 h_20 => (Q v_19 h_20))))) ∧ (¬ (x2 = (2 : Int32)) → wp_X8_errs (-1000000005 : Int32) h (fun v_15 h_16 => (Q v_15 h_16))))
set_option maxRecDepth 100000 in
set_option maxHeartbeats 4000000 in
theorem bt_X8_as_b53 {l : Launch} {G : ab_G} {F : ab_F} {x1 : Int32} {x2 : Int32} {Q : Int32 → hp_T → Prop}  (C : ab_C G F rm_X8_as cX8_as 5 RX8 (some .int) "as")   : ∀ (y3 : Int32) (h : hp_T), wf h → wp_X8_as_b53 x1 x2 Q y3 h → ab_W l G F 5 (ab_MQ G F (po_h Q) 0 0) 0 0 h [(0, .ref (G.1 + 105)), (1, .int x1), (2, .int x2), (3, .int y3)] [] 53 := by
  intro y3 h hw f
  unfold wp_X8_as_b53 at f
  refine ab_iload_n C 2 dX8_as_53 rfl rfl ?_
  refine ab_iconst C (v := (2 : Int32)) dX8_as_54 (by decide) ?_
  refine ab_icmp_ne C (tgt := 67) dX8_as_55 (by decide) (fun c_14 => ?_) (fun c_14 => ?_)
  · have f := f.2 c_14
    refine ab_iconst C (v := (0 : Int32)) dX8_as_67 (by decide) ?_
    refine ab_istore C (lv' := [(4, .int (0 : Int32)), (0, .ref (G.1 + 105)), (1, .int x1), (2, .int x2), (3, .int y3)]) dX8_as_68 (by decide) rfl ?_
    refine ab_iload C 0 dX8_as_70 rfl ?_
    refine ab_if_eq C (tgt := 84) dX8_as_72 (by decide) (fun _ => ?_) (fun z => absurd z (by decide))
    refine ab_aload_n C 1 dX8_as_84 rfl rfl ?_
    refine ab_ldc C kw_t880 dX8_as_85 ?_
    refine ab_callV C (k := 0) (n := 0) (rest := []) [.int (-1000000005 : Int32)] cl_X8_84 (mt_X8_errs  hw f) rfl (by decide) kd_105 (wf_lt hw kd_105 rfl) ⟨rfl, rfl, Nat.le_of_ble_eq_true rfl, Nat.le_of_ble_eq_true rfl, Nat.zero_le _, Nat.zero_le _⟩ rfl rfl (Nat.le_of_ble_eq_true rfl) dX8_as_87 (ab_kh (k := 0) (n := 0) (fun v_15 h_16 hw_17 f => ?_))
    exact ab_iret C dX8_as_90 ⟨hw_17, _, rfl, f⟩
  · have f := f.1 c_14
    refine ab_iload_n C 3 dX8_as_58 rfl rfl ?_
    refine ab_iconst C (v := (5 : Int32)) dX8_as_59 (by decide) ?_
    refine ab_icmp_ne C (tgt := 67) dX8_as_60 (by decide) (fun c_18 => ?_) (fun c_18 => ?_)
    · have f := f.2 c_18
      refine ab_iconst C (v := (0 : Int32)) dX8_as_67 (by decide) ?_
      refine ab_istore C (lv' := [(4, .int (0 : Int32)), (0, .ref (G.1 + 105)), (1, .int x1), (2, .int x2), (3, .int y3)]) dX8_as_68 (by decide) rfl ?_
      refine ab_iload C 0 dX8_as_70 rfl ?_
      refine ab_if_eq C (tgt := 84) dX8_as_72 (by decide) (fun _ => ?_) (fun z => absurd z (by decide))
      refine ab_aload_n C 1 dX8_as_84 rfl rfl ?_
      refine ab_ldc C kw_t880 dX8_as_85 ?_
      refine ab_callV C (k := 0) (n := 0) (rest := []) [.int (-1000000005 : Int32)] cl_X8_84 (mt_X8_errs  hw f) rfl (by decide) kd_105 (wf_lt hw kd_105 rfl) ⟨rfl, rfl, Nat.le_of_ble_eq_true rfl, Nat.le_of_ble_eq_true rfl, Nat.zero_le _, Nat.zero_le _⟩ rfl rfl (Nat.le_of_ble_eq_true rfl) dX8_as_87 (ab_kh (k := 0) (n := 0) (fun v_19 h_20 hw_21 f => ?_))
      exact ab_iret C dX8_as_90 ⟨hw_21, _, rfl, f⟩
    · have f := f.1 c_18
      refine ab_iconst C (v := (1 : Int32)) dX8_as_63 (by decide) ?_
      refine ab_goto C (tgt := 68) dX8_as_64 (by decide) ?_
      refine ab_istore C (lv' := [(4, .int (1 : Int32)), (0, .ref (G.1 + 105)), (1, .int x1), (2, .int x2), (3, .int y3)]) dX8_as_68 (by decide) rfl ?_
      refine ab_iload C 0 dX8_as_70 rfl ?_
      refine ab_if_eq C (tgt := 84) dX8_as_72 (by decide) (fun z => absurd z (by decide)) (fun _ => ?_)
      refine ab_aload_n C 1 dX8_as_75 rfl rfl ?_
      refine ab_iload_n C 2 dX8_as_76 rfl rfl ?_
      refine ab_iconst C (v := (3 : Int32)) dX8_as_77 (by decide) ?_
      refine ab_callV C (k := 0) (n := 0) (rest := []) [.int x1, .int (3 : Int32)] cl_X8_60 (mt_X8_its  hw f) rfl (by decide) kd_105 (wf_lt hw kd_105 rfl) ⟨rfl, rfl, Nat.le_of_ble_eq_true rfl, Nat.le_of_ble_eq_true rfl, Nat.zero_le _, Nat.zero_le _⟩ rfl rfl (Nat.le_of_ble_eq_true rfl) dX8_as_78 (ab_kp (k := 0) (n := 0) (fun v_22 f => ?_))
      refine ab_goto C (tgt := 90) dX8_as_81 (by decide) ?_
      exact ab_iret C dX8_as_90 ⟨hw, _, rfl, f⟩
def wp_X8_as (x1 : Int32) (x2 : Int32) (h : hp_T) (Q : Int32 → hp_T → Prop) : Prop :=
  wp_X8_isBunk x1 h (fun v_1 => ((v_1 = 0 → wp_X8_errs (-1000000001 : Int32) h (fun v_3 h_4 => (Q v_3 h_4))) ∧ (¬ (v_1 = 0) → wp_X8_in x2.toInt64 (0 : Int64) (6 : Int64) h (fun v_6 => ((v_6 = 0 → wp_X8_errs (-1000000001 : Int32) h (fun v_25 h_26 => (Q v_25 h_26))) ∧ (¬ (v_6 = 0) → wp_X8_its x1 (0 : Int32) h (fun v_8 => ((x2 = 0 → wp_X8_its x1 (3 : Int32) h (fun v_10 => (Q v_10 h))) ∧ (¬ (x2 = 0) → ((v_8 = x2 → wp_X8_its x1 (3 : Int32) h (fun v_12 => (Q v_12 h))) ∧ (¬ (v_8 = x2) → ((x2 = (1 : Int32) → ((v_8 = (4 : Int32) → wp_X8_its x1 (3 : Int32) h (fun v_24 => (Q v_24 h))) ∧ (¬ (v_8 = (4 : Int32)) → (wp_X8_as_b53 x1 x2 Q  v_8 h)))) ∧ (¬ (x2 = (1 : Int32)) → (wp_X8_as_b53 x1 x2 Q  v_8 h))))))))))))))
set_option maxRecDepth 100000 in
set_option maxHeartbeats 4000000 in
theorem mt_X8_as {l : Launch} {G : ab_G} {x1 : Int32} {x2 : Int32} {h : hp_T} {Q : Int32 → hp_T → Prop} (hw : wf h) (f : wp_X8_as x1 x2 h Q) : ab_M l G yX8_as cX8_as 5 (some .int) rm_X8_as 0 0 [.ref (G.1 + 105), .int x1, .int x2] h (po_h Q) := by
  refine ab_intro (own := RX8) (nm := "as") rfl rfl rfl (Nat.le_of_ble_eq_true rfl) (fun F C => ?_)
  show ab_W l G F 5 (ab_MQ G F (po_h Q) 0 0) 0 0 h [(0, .ref (G.1 + 105)), (1, .int x1), (2, .int x2)] [] 0
  unfold wp_X8_as at f
  refine ab_aload_n C 0 dX8_as_0 rfl rfl ?_
  refine ab_iload_n C 1 dX8_as_1 rfl rfl ?_
  refine ab_callV C (k := 0) (n := 0) (rest := []) [.int x1] cl_X8_98 (mt_X8_isBunk  hw f) rfl (by decide) kd_105 (wf_lt hw kd_105 rfl) ⟨rfl, rfl, Nat.le_of_ble_eq_true rfl, Nat.le_of_ble_eq_true rfl, Nat.zero_le _, Nat.zero_le _⟩ rfl rfl (Nat.le_of_ble_eq_true rfl) dX8_as_2 (ab_kp (k := 0) (n := 0) (fun v_1 f => ?_))
  refine ab_if_eq C (tgt := 20) dX8_as_5 (by decide) (fun c_2 => ?_) (fun c_2 => ?_)
  · have f := f.1 c_2
    refine ab_aload_n C 0 dX8_as_20 rfl rfl ?_
    refine ab_ldc C kw_t821 dX8_as_21 ?_
    refine ab_callV C (k := 0) (n := 0) (rest := []) [.int (-1000000001 : Int32)] cl_X8_84 (mt_X8_errs  hw f) rfl (by decide) kd_105 (wf_lt hw kd_105 rfl) ⟨rfl, rfl, Nat.le_of_ble_eq_true rfl, Nat.le_of_ble_eq_true rfl, Nat.zero_le _, Nat.zero_le _⟩ rfl rfl (Nat.le_of_ble_eq_true rfl) dX8_as_23 (ab_kh (k := 0) (n := 0) (fun v_3 h_4 hw_5 f => ?_))
    exact ab_iret C dX8_as_26 ⟨hw_5, _, rfl, f⟩
  · have f := f.2 c_2
    refine ab_iload_n C 2 dX8_as_8 rfl rfl ?_
    refine ab_i2l C dX8_as_9 ?_
    refine ab_lconst C (v := (0 : Int64)) dX8_as_10 (by decide) ?_
    refine ab_ldc2 C kw_t879 dX8_as_11 ?_
    refine ab_callS C (k := 0) (n := 0) (rest := []) [.long x2.toInt64, .long (0 : Int64), .long (6 : Int64)] cl_X8_44 (mt_X8_in  hw f) ⟨rfl, rfl, Nat.le_of_ble_eq_true rfl, Nat.le_of_ble_eq_true rfl, Nat.zero_le _, Nat.zero_le _⟩ rfl rfl (Nat.le_of_ble_eq_true rfl) dX8_as_14 (ab_kp (k := 0) (n := 0) (fun v_6 f => ?_))
    refine ab_if_ne C (tgt := 27) dX8_as_17 (by decide) (fun c_7 => ?_) (fun c_7 => ?_)
    · have f := f.2 c_7
      refine ab_aload_n C 0 dX8_as_27 rfl rfl ?_
      refine ab_iload_n C 1 dX8_as_28 rfl rfl ?_
      refine ab_iconst C (v := (0 : Int32)) dX8_as_29 (by decide) ?_
      refine ab_callV C (k := 0) (n := 0) (rest := []) [.int x1, .int (0 : Int32)] cl_X8_60 (mt_X8_its  hw f) rfl (by decide) kd_105 (wf_lt hw kd_105 rfl) ⟨rfl, rfl, Nat.le_of_ble_eq_true rfl, Nat.le_of_ble_eq_true rfl, Nat.zero_le _, Nat.zero_le _⟩ rfl rfl (Nat.le_of_ble_eq_true rfl) dX8_as_30 (ab_kp (k := 0) (n := 0) (fun v_8 f => ?_))
      refine ab_istore_n C (lv' := [(3, .int v_8), (0, .ref (G.1 + 105)), (1, .int x1), (2, .int x2)]) dX8_as_33 rfl (by decide) rfl ?_
      refine ab_iload_n C 3 dX8_as_34 rfl rfl ?_
      refine ab_if_eq C (tgt := 63) dX8_as_35 (by decide) (fun c_9 => ?_) (fun c_9 => ?_)
      · have f := f.1 c_9
        refine ab_iconst C (v := (1 : Int32)) dX8_as_63 (by decide) ?_
        refine ab_goto C (tgt := 68) dX8_as_64 (by decide) ?_
        refine ab_istore C (lv' := [(4, .int (1 : Int32)), (3, .int v_8), (0, .ref (G.1 + 105)), (1, .int x1), (2, .int x2)]) dX8_as_68 (by decide) rfl ?_
        refine ab_iload C 0 dX8_as_70 rfl ?_
        refine ab_if_eq C (tgt := 84) dX8_as_72 (by decide) (fun z => absurd z (by decide)) (fun _ => ?_)
        refine ab_aload_n C 2 dX8_as_75 rfl rfl ?_
        refine ab_iload_n C 3 dX8_as_76 rfl rfl ?_
        refine ab_iconst C (v := (3 : Int32)) dX8_as_77 (by decide) ?_
        refine ab_callV C (k := 0) (n := 0) (rest := []) [.int x1, .int (3 : Int32)] cl_X8_60 (mt_X8_its  hw f) rfl (by decide) kd_105 (wf_lt hw kd_105 rfl) ⟨rfl, rfl, Nat.le_of_ble_eq_true rfl, Nat.le_of_ble_eq_true rfl, Nat.zero_le _, Nat.zero_le _⟩ rfl rfl (Nat.le_of_ble_eq_true rfl) dX8_as_78 (ab_kp (k := 0) (n := 0) (fun v_10 f => ?_))
        refine ab_goto C (tgt := 90) dX8_as_81 (by decide) ?_
        exact ab_iret C dX8_as_90 ⟨hw, _, rfl, f⟩
      · have f := f.2 c_9
        refine ab_iload_n C 0 dX8_as_38 rfl rfl ?_
        refine ab_iload_n C 3 dX8_as_39 rfl rfl ?_
        refine ab_icmp_eq C (tgt := 63) dX8_as_40 (by decide) (fun c_11 => ?_) (fun c_11 => ?_)
        · have f := f.1 c_11
          refine ab_iconst C (v := (1 : Int32)) dX8_as_63 (by decide) ?_
          refine ab_goto C (tgt := 68) dX8_as_64 (by decide) ?_
          refine ab_istore C (lv' := [(4, .int (1 : Int32)), (3, .int v_8), (0, .ref (G.1 + 105)), (1, .int x1), (2, .int x2)]) dX8_as_68 (by decide) rfl ?_
          refine ab_iload C 0 dX8_as_70 rfl ?_
          refine ab_if_eq C (tgt := 84) dX8_as_72 (by decide) (fun z => absurd z (by decide)) (fun _ => ?_)
          refine ab_aload_n C 2 dX8_as_75 rfl rfl ?_
          refine ab_iload_n C 3 dX8_as_76 rfl rfl ?_
          refine ab_iconst C (v := (3 : Int32)) dX8_as_77 (by decide) ?_
          refine ab_callV C (k := 0) (n := 0) (rest := []) [.int x1, .int (3 : Int32)] cl_X8_60 (mt_X8_its  hw f) rfl (by decide) kd_105 (wf_lt hw kd_105 rfl) ⟨rfl, rfl, Nat.le_of_ble_eq_true rfl, Nat.le_of_ble_eq_true rfl, Nat.zero_le _, Nat.zero_le _⟩ rfl rfl (Nat.le_of_ble_eq_true rfl) dX8_as_78 (ab_kp (k := 0) (n := 0) (fun v_12 f => ?_))
          refine ab_goto C (tgt := 90) dX8_as_81 (by decide) ?_
          exact ab_iret C dX8_as_90 ⟨hw, _, rfl, f⟩
        · have f := f.2 c_11
          refine ab_iload_n C 3 dX8_as_43 rfl rfl ?_
          refine ab_iconst C (v := (1 : Int32)) dX8_as_44 (by decide) ?_
          refine ab_icmp_ne C (tgt := 53) dX8_as_45 (by decide) (fun c_13 => ?_) (fun c_13 => ?_)
          · have f := f.2 c_13
            refine ab_sub (lv' := [(0, .ref (G.1 + 105)), (1, .int x1), (2, .int x2), (3, .int v_8)]) [1, 2, 3, 0] rfl ?_
            exact bt_X8_as_b53 C     v_8 h  hw f
          · have f := f.1 c_13
            refine ab_iload_n C 0 dX8_as_48 rfl rfl ?_
            refine ab_iconst C (v := (4 : Int32)) dX8_as_49 (by decide) ?_
            refine ab_icmp_eq C (tgt := 63) dX8_as_50 (by decide) (fun c_23 => ?_) (fun c_23 => ?_)
            · have f := f.1 c_23
              refine ab_iconst C (v := (1 : Int32)) dX8_as_63 (by decide) ?_
              refine ab_goto C (tgt := 68) dX8_as_64 (by decide) ?_
              refine ab_istore C (lv' := [(4, .int (1 : Int32)), (3, .int v_8), (0, .ref (G.1 + 105)), (1, .int x1), (2, .int x2)]) dX8_as_68 (by decide) rfl ?_
              refine ab_iload C 0 dX8_as_70 rfl ?_
              refine ab_if_eq C (tgt := 84) dX8_as_72 (by decide) (fun z => absurd z (by decide)) (fun _ => ?_)
              refine ab_aload_n C 2 dX8_as_75 rfl rfl ?_
              refine ab_iload_n C 3 dX8_as_76 rfl rfl ?_
              refine ab_iconst C (v := (3 : Int32)) dX8_as_77 (by decide) ?_
              refine ab_callV C (k := 0) (n := 0) (rest := []) [.int x1, .int (3 : Int32)] cl_X8_60 (mt_X8_its  hw f) rfl (by decide) kd_105 (wf_lt hw kd_105 rfl) ⟨rfl, rfl, Nat.le_of_ble_eq_true rfl, Nat.le_of_ble_eq_true rfl, Nat.zero_le _, Nat.zero_le _⟩ rfl rfl (Nat.le_of_ble_eq_true rfl) dX8_as_78 (ab_kp (k := 0) (n := 0) (fun v_24 f => ?_))
              refine ab_goto C (tgt := 90) dX8_as_81 (by decide) ?_
              exact ab_iret C dX8_as_90 ⟨hw, _, rfl, f⟩
            · have f := f.2 c_23
              refine ab_sub (lv' := [(0, .ref (G.1 + 105)), (1, .int x1), (2, .int x2), (3, .int v_8)]) [1, 2, 3, 0] rfl ?_
              exact bt_X8_as_b53 C     v_8 h  hw f
    · have f := f.1 c_7
      refine ab_aload_n C 0 dX8_as_20 rfl rfl ?_
      refine ab_ldc C kw_t821 dX8_as_21 ?_
      refine ab_callV C (k := 0) (n := 0) (rest := []) [.int (-1000000001 : Int32)] cl_X8_84 (mt_X8_errs  hw f) rfl (by decide) kd_105 (wf_lt hw kd_105 rfl) ⟨rfl, rfl, Nat.le_of_ble_eq_true rfl, Nat.le_of_ble_eq_true rfl, Nat.zero_le _, Nat.zero_le _⟩ rfl rfl (Nat.le_of_ble_eq_true rfl) dX8_as_23 (ab_kh (k := 0) (n := 0) (fun v_25 h_26 hw_27 f => ?_))
      exact ab_iret C dX8_as_26 ⟨hw_27, _, rfl, f⟩
/-! X8_isKnack -/
def rm_X8_isKnack : Room := { frames := 3, cells := 0, slots := 0, locals := 125 }
def wp_X8_isKnack (x0 : Int32) (h : hp_T) (Q : Int32 → Prop) : Prop :=
  wp_X8_in x0.toInt64 (0 : Int64) (5 : Int64) h (fun v_1 => (bo_ok v_1) ∧ (Q v_1))
set_option maxRecDepth 100000 in
set_option maxHeartbeats 4000000 in
theorem mt_X8_isKnack {l : Launch} {G : ab_G} {x0 : Int32} {h : hp_T} {Q : Int32 → Prop} (hw : wf h) (f : wp_X8_isKnack x0 h Q) : ab_M l G yX8_isKnack cX8_isKnack 1 (some .boolean) rm_X8_isKnack 0 0 [.int x0] h (po_p h Q) := by
  refine ab_intro (own := RX8) (nm := "isKnack") rfl rfl rfl (Nat.le_of_ble_eq_true rfl) (fun F C => ?_)
  show ab_W l G F 1 (ab_MQ G F (po_p h Q) 0 0) 0 0 h [(0, .int x0)] [] 0
  unfold wp_X8_isKnack at f
  refine ab_iload_n C 0 dX8_isKnack_0 rfl rfl ?_
  refine ab_i2l C dX8_isKnack_1 ?_
  refine ab_lconst C (v := (0 : Int64)) dX8_isKnack_2 (by decide) ?_
  refine ab_ldc2 C kw_t887 dX8_isKnack_3 ?_
  refine ab_callS C (k := 0) (n := 0) (rest := []) [.long x0.toInt64, .long (0 : Int64), .long (5 : Int64)] cl_X8_44 (mt_X8_in  hw f) ⟨rfl, rfl, Nat.le_of_ble_eq_true rfl, Nat.le_of_ble_eq_true rfl, Nat.zero_le _, Nat.zero_le _⟩ rfl rfl (Nat.le_of_ble_eq_true rfl) dX8_isKnack_6 (ab_kp (k := 0) (n := 0) (fun v_1 f => ?_))
  obtain ⟨c_2, f⟩ := f
  exact ab_zret C dX8_isKnack_9 (bo_nar c_2) ⟨rfl, _, rfl, f⟩
/-! X8_has -/
def rm_X8_has : Room := { frames := 2, cells := 0, slots := 0, locals := 100 }
def wp_X8_has (x0 : Int32) (x1 : Int32) (h : hp_T) (Q : Int32 → Prop) : Prop :=
  ((((x0 >>> (x1 &&& 31)) &&& (1 : Int32)) = (1 : Int32) → (Q (1 : Int32))) ∧ (¬ (((x0 >>> (x1 &&& 31)) &&& (1 : Int32)) = (1 : Int32)) → (Q (0 : Int32))))
set_option maxRecDepth 100000 in
set_option maxHeartbeats 4000000 in
theorem mt_X8_has {l : Launch} {G : ab_G} {x0 : Int32} {x1 : Int32} {h : hp_T} {Q : Int32 → Prop} (hw : wf h) (f : wp_X8_has x0 x1 h Q) : ab_M l G yX8_has cX8_has 2 (some .boolean) rm_X8_has 0 0 [.int x0, .int x1] h (po_p h Q) := by
  refine ab_intro (own := RX8) (nm := "has") rfl rfl rfl (Nat.le_of_ble_eq_true rfl) (fun F C => ?_)
  show ab_W l G F 2 (ab_MQ G F (po_p h Q) 0 0) 0 0 h [(0, .int x0), (1, .int x1)] [] 0
  unfold wp_X8_has at f
  refine ab_iload_n C 0 dX8_has_0 rfl rfl ?_
  refine ab_iload_n C 1 dX8_has_1 rfl rfl ?_
  refine ab_ishr C dX8_has_2 ?_
  refine ab_iconst C (v := (1 : Int32)) dX8_has_3 (by decide) ?_
  refine ab_iand C dX8_has_4 ?_
  refine ab_iconst C (v := (1 : Int32)) dX8_has_5 (by decide) ?_
  refine ab_icmp_ne C (tgt := 13) dX8_has_6 (by decide) (fun c_1 => ?_) (fun c_1 => ?_)
  · have f := f.2 c_1
    refine ab_iconst C (v := (0 : Int32)) dX8_has_13 (by decide) ?_
    exact ab_zret C dX8_has_14 rfl ⟨rfl, _, rfl, f⟩
  · have f := f.1 c_1
    refine ab_iconst C (v := (1 : Int32)) dX8_has_9 (by decide) ?_
    refine ab_goto C (tgt := 14) dX8_has_10 (by decide) ?_
    exact ab_zret C dX8_has_14 rfl ⟨rfl, _, rfl, f⟩
/-! X8_isKnowing -/
def rm_X8_isKnowing : Room := { frames := 4, cells := 0, slots := 0, locals := 143 }
def wp_X8_isKnowing (x1 : Int32) (x2 : Int32) (h : hp_T) (Q : Int32 → Prop) : Prop :=
  wp_X8_its x1 (3 : Int32) h (fun v_1 => wp_X8_has v_1 x2 h (fun v_2 => (bo_ok v_2) ∧ (Q v_2)))
set_option maxRecDepth 100000 in
set_option maxHeartbeats 4000000 in
theorem mt_X8_isKnowing {l : Launch} {G : ab_G} {x1 : Int32} {x2 : Int32} {h : hp_T} {Q : Int32 → Prop} (hw : wf h) (f : wp_X8_isKnowing x1 x2 h Q) : ab_M l G yX8_isKnowing cX8_isKnowing 3 (some .boolean) rm_X8_isKnowing 0 0 [.ref (G.1 + 105), .int x1, .int x2] h (po_p h Q) := by
  refine ab_intro (own := RX8) (nm := "isKnowing") rfl rfl rfl (Nat.le_of_ble_eq_true rfl) (fun F C => ?_)
  show ab_W l G F 3 (ab_MQ G F (po_p h Q) 0 0) 0 0 h [(0, .ref (G.1 + 105)), (1, .int x1), (2, .int x2)] [] 0
  unfold wp_X8_isKnowing at f
  refine ab_aload_n C 0 dX8_isKnowing_0 rfl rfl ?_
  refine ab_iload_n C 1 dX8_isKnowing_1 rfl rfl ?_
  refine ab_iconst C (v := (3 : Int32)) dX8_isKnowing_2 (by decide) ?_
  refine ab_callV C (k := 0) (n := 0) (rest := []) [.int x1, .int (3 : Int32)] cl_X8_60 (mt_X8_its  hw f) rfl (by decide) kd_105 (wf_lt hw kd_105 rfl) ⟨rfl, rfl, Nat.le_of_ble_eq_true rfl, Nat.le_of_ble_eq_true rfl, Nat.zero_le _, Nat.zero_le _⟩ rfl rfl (Nat.le_of_ble_eq_true rfl) dX8_isKnowing_3 (ab_kp (k := 0) (n := 0) (fun v_1 f => ?_))
  refine ab_iload_n C 2 dX8_isKnowing_6 rfl rfl ?_
  refine ab_callS C (k := 0) (n := 0) (rest := []) [.int v_1, .int x2] cl_X8_63 (mt_X8_has  hw f) ⟨rfl, rfl, Nat.le_of_ble_eq_true rfl, Nat.le_of_ble_eq_true rfl, Nat.zero_le _, Nat.zero_le _⟩ rfl rfl (Nat.le_of_ble_eq_true rfl) dX8_isKnowing_7 (ab_kp (k := 0) (n := 0) (fun v_2 f => ?_))
  obtain ⟨c_3, f⟩ := f
  exact ab_zret C dX8_isKnowing_10 (bo_nar c_3) ⟨rfl, _, rfl, f⟩
/-! X8_isVersion -/
def rm_X8_isVersion : Room := { frames := 3, cells := 0, slots := 0, locals := 125 }
def wp_X8_isVersion (x0 : Int32) (h : hp_T) (Q : Int32 → Prop) : Prop :=
  wp_X8_in x0.toInt64 (0 : Int64) (999 : Int64) h (fun v_1 => (bo_ok v_1) ∧ (Q v_1))
set_option maxRecDepth 100000 in
set_option maxHeartbeats 4000000 in
theorem mt_X8_isVersion {l : Launch} {G : ab_G} {x0 : Int32} {h : hp_T} {Q : Int32 → Prop} (hw : wf h) (f : wp_X8_isVersion x0 h Q) : ab_M l G yX8_isVersion cX8_isVersion 1 (some .boolean) rm_X8_isVersion 0 0 [.int x0] h (po_p h Q) := by
  refine ab_intro (own := RX8) (nm := "isVersion") rfl rfl rfl (Nat.le_of_ble_eq_true rfl) (fun F C => ?_)
  show ab_W l G F 1 (ab_MQ G F (po_p h Q) 0 0) 0 0 h [(0, .int x0)] [] 0
  unfold wp_X8_isVersion at f
  refine ab_iload_n C 0 dX8_isVersion_0 rfl rfl ?_
  refine ab_i2l C dX8_isVersion_1 ?_
  refine ab_lconst C (v := (0 : Int64)) dX8_isVersion_2 (by decide) ?_
  refine ab_ldc2 C kw_t895 dX8_isVersion_3 ?_
  refine ab_callS C (k := 0) (n := 0) (rest := []) [.long x0.toInt64, .long (0 : Int64), .long (999 : Int64)] cl_X8_44 (mt_X8_in  hw f) ⟨rfl, rfl, Nat.le_of_ble_eq_true rfl, Nat.le_of_ble_eq_true rfl, Nat.zero_le _, Nat.zero_le _⟩ rfl rfl (Nat.le_of_ble_eq_true rfl) dX8_isVersion_6 (ab_kp (k := 0) (n := 0) (fun v_1 f => ?_))
  obtain ⟨c_2, f⟩ := f
  exact ab_zret C dX8_isVersion_9 (bo_nar c_2) ⟨rfl, _, rfl, f⟩
/-! X8_began -/
def rm_X8_began : Room := { frames := 5, cells := 0, slots := 0, locals := 165 }
def wp_X8_began_b68 (x1 : Int32) (x2 : Int32) (Q : Int32 → hp_T → Prop) (lp_29 : Int32 → Int32 → Int32 → hp_T → Prop) (y3 : Int32) (y4 : Int32) (y5 : Int32) (z0 : Int32) (h : hp_T) : Prop :=
  ((z0 = 0 → ((y3 = 0 → ((z0 = 0 → lp_29 (0 : Int32) y4 (y5 + (1 : Int32)) h) ∧ (¬ (z0 = 0) → lp_29 (1 : Int32) y4 (y5 + (1 : Int32)) h))) ∧ (¬ (y3 = 0) → lp_29 (1 : Int32) y4 (y5 + (1 : Int32)) h))) ∧ (¬ (z0 = 0) → ((y3 = 0 → wp_X8_its y5 (2 : Int32) h (fun v_19 => ((y3 = 0 → ((z0 = 0 → lp_29 (0 : Int32) v_19 (y5 + (1 : Int32)) h) ∧ (¬ (z0 = 0) → lp_29 (1 : Int32) v_19 (y5 + (1 : Int32)) h))) ∧ (¬ (y3 = 0) → lp_29 (1 : Int32) v_19 (y5 + (1 : Int32)) h)))) ∧ (¬ (y3 = 0) → wp_X8_its y5 (2 : Int32) h (fun v_22 => ((y4 ≤ v_22 → ((y3 = 0 → ((z0 = 0 → lp_29 (0 : Int32) y4 (y5 + (1 : Int32)) h) ∧ (¬ (z0 = 0) → lp_29 (1 : Int32) y4 (y5 + (1 : Int32)) h))) ∧ (¬ (y3 = 0) → lp_29 (1 : Int32) y4 (y5 + (1 : Int32)) h))) ∧ (¬ (y4 ≤ v_22) → wp_X8_its y5 (2 : Int32) h (fun v_26 => ((y3 = 0 → ((z0 = 0 → lp_29 (0 : Int32) v_26 (y5 + (1 : Int32)) h) ∧ (¬ (z0 = 0) → lp_29 (1 : Int32) v_26 (y5 + (1 : Int32)) h))) ∧ (¬ (y3 = 0) → lp_29 (1 : Int32) v_26 (y5 + (1 : Int32)) h))))))))))
set_option maxRecDepth 100000 in
set_option maxHeartbeats 4000000 in
theorem bt_X8_began_b68 {l : Launch} {G : ab_G} {F : ab_F} {x1 : Int32} {x2 : Int32} {Q : Int32 → hp_T → Prop} {lp_29 : Int32 → Int32 → Int32 → hp_T → Prop} (C : ab_C G F rm_X8_began cX8_began 7 RX8 (some .int) "began")  (il_29 : ∀ (y3 : Int32) (y4 : Int32) (y5 : Int32) (h : hp_T), wf h → lp_29 y3 y4 y5 h → ab_W l G F 7 (ab_MQ G F (po_h Q) 0 0) 0 0 h [(0, .ref (G.1 + 105)), (1, .int x1), (2, .int x2), (3, .int y3), (4, .int y4), (5, .int y5)] [] 29) : ∀ (y3 : Int32) (y4 : Int32) (y5 : Int32) (z0 : Int32) (h : hp_T), wf h → wp_X8_began_b68 x1 x2 Q lp_29 y3 y4 y5 z0 h → ab_W l G F 7 (ab_MQ G F (po_h Q) 0 0) 0 0 h [(0, .ref (G.1 + 105)), (1, .int x1), (2, .int x2), (3, .int y3), (4, .int y4), (5, .int y5)] [.int z0] 68 := by
  intro y3 y4 y5 z0 h hw f
  unfold wp_X8_began_b68 at f
  refine ab_istore C (lv' := [(6, .int z0), (0, .ref (G.1 + 105)), (1, .int x1), (2, .int x2), (3, .int y3), (4, .int y4), (5, .int y5)]) dX8_began_68 (by decide) rfl ?_
  refine ab_iload C 0 dX8_began_70 rfl ?_
  refine ab_if_eq C (tgt := 101) dX8_began_72 (by decide) (fun c_15 => ?_) (fun c_15 => ?_)
  · have f := f.1 c_15
    refine ab_iload C 5 dX8_began_101 rfl ?_
    refine ab_istore C (lv' := [(4, .int y4), (6, .int z0), (0, .ref (G.1 + 105)), (1, .int x1), (2, .int x2), (3, .int y3), (5, .int y5)]) dX8_began_103 (by decide) rfl ?_
    refine ab_iload_n C 5 dX8_began_105 rfl rfl ?_
    refine ab_if_ne C (tgt := 114) dX8_began_106 (by decide) (fun c_16 => ?_) (fun c_16 => ?_)
    · have f := f.2 c_16
      refine ab_iconst C (v := (1 : Int32)) dX8_began_114 (by decide) ?_
      refine ab_goto C (tgt := 119) dX8_began_115 (by decide) ?_
      refine ab_istore_n C (lv' := [(3, .int (1 : Int32)), (4, .int y4), (6, .int z0), (0, .ref (G.1 + 105)), (1, .int x1), (2, .int x2), (5, .int y5)]) dX8_began_119 rfl (by decide) rfl ?_
      refine ab_iinc C (lv' := [(5, .int (y5 + (1 : Int32))), (3, .int (1 : Int32)), (4, .int y4), (6, .int z0), (0, .ref (G.1 + 105)), (1, .int x1), (2, .int x2)]) 6 (v := (y5 + (1 : Int32))) dX8_began_120 rfl rfl (by decide) rfl ?_
      refine ab_goto C (tgt := 29) dX8_began_123 (by decide) ?_
      refine ab_sub (lv' := [(0, .ref (G.1 + 105)), (1, .int x1), (2, .int x2), (3, .int (1 : Int32)), (4, .int y4), (5, .int (y5 + (1 : Int32)))]) [4, 5, 6, 1, 2, 0] rfl ?_
      exact il_29 (1 : Int32) y4 (y5 + (1 : Int32)) h  hw f
    · have f := f.1 c_16
      refine ab_iload C 1 dX8_began_109 rfl ?_
      refine ab_if_eq C (tgt := 118) dX8_began_111 (by decide) (fun c_17 => ?_) (fun c_17 => ?_)
      · have f := f.1 c_17
        refine ab_iconst C (v := (0 : Int32)) dX8_began_118 (by decide) ?_
        refine ab_istore_n C (lv' := [(3, .int (0 : Int32)), (4, .int y4), (6, .int z0), (0, .ref (G.1 + 105)), (1, .int x1), (2, .int x2), (5, .int y5)]) dX8_began_119 rfl (by decide) rfl ?_
        refine ab_iinc C (lv' := [(5, .int (y5 + (1 : Int32))), (3, .int (0 : Int32)), (4, .int y4), (6, .int z0), (0, .ref (G.1 + 105)), (1, .int x1), (2, .int x2)]) 6 (v := (y5 + (1 : Int32))) dX8_began_120 rfl rfl (by decide) rfl ?_
        refine ab_goto C (tgt := 29) dX8_began_123 (by decide) ?_
        refine ab_sub (lv' := [(0, .ref (G.1 + 105)), (1, .int x1), (2, .int x2), (3, .int (0 : Int32)), (4, .int y4), (5, .int (y5 + (1 : Int32)))]) [4, 5, 6, 1, 2, 0] rfl ?_
        exact il_29 (0 : Int32) y4 (y5 + (1 : Int32)) h  hw f
      · have f := f.2 c_17
        refine ab_iconst C (v := (1 : Int32)) dX8_began_114 (by decide) ?_
        refine ab_goto C (tgt := 119) dX8_began_115 (by decide) ?_
        refine ab_istore_n C (lv' := [(3, .int (1 : Int32)), (4, .int y4), (6, .int z0), (0, .ref (G.1 + 105)), (1, .int x1), (2, .int x2), (5, .int y5)]) dX8_began_119 rfl (by decide) rfl ?_
        refine ab_iinc C (lv' := [(5, .int (y5 + (1 : Int32))), (3, .int (1 : Int32)), (4, .int y4), (6, .int z0), (0, .ref (G.1 + 105)), (1, .int x1), (2, .int x2)]) 6 (v := (y5 + (1 : Int32))) dX8_began_120 rfl rfl (by decide) rfl ?_
        refine ab_goto C (tgt := 29) dX8_began_123 (by decide) ?_
        refine ab_sub (lv' := [(0, .ref (G.1 + 105)), (1, .int x1), (2, .int x2), (3, .int (1 : Int32)), (4, .int y4), (5, .int (y5 + (1 : Int32)))]) [4, 5, 6, 1, 2, 0] rfl ?_
        exact il_29 (1 : Int32) y4 (y5 + (1 : Int32)) h  hw f
  · have f := f.2 c_15
    refine ab_iload_n C 4 dX8_began_75 rfl rfl ?_
    refine ab_if_eq C (tgt := 91) dX8_began_76 (by decide) (fun c_18 => ?_) (fun c_18 => ?_)
    · have f := f.1 c_18
      refine ab_aload_n C 1 dX8_began_91 rfl rfl ?_
      refine ab_iload C 6 dX8_began_92 rfl ?_
      refine ab_iconst C (v := (2 : Int32)) dX8_began_94 (by decide) ?_
      refine ab_callV C (k := 0) (n := 0) (rest := []) [.int y5, .int (2 : Int32)] cl_X8_60 (mt_X8_its  hw f) rfl (by decide) kd_105 (wf_lt hw kd_105 rfl) ⟨rfl, rfl, Nat.le_of_ble_eq_true rfl, Nat.le_of_ble_eq_true rfl, Nat.zero_le _, Nat.zero_le _⟩ rfl rfl (Nat.le_of_ble_eq_true rfl) dX8_began_95 (ab_kp (k := 0) (n := 0) (fun v_19 f => ?_))
      refine ab_goto C (tgt := 103) dX8_began_98 (by decide) ?_
      refine ab_istore C (lv' := [(4, .int v_19), (6, .int z0), (0, .ref (G.1 + 105)), (1, .int x1), (2, .int x2), (3, .int y3), (5, .int y5)]) dX8_began_103 (by decide) rfl ?_
      refine ab_iload_n C 5 dX8_began_105 rfl rfl ?_
      refine ab_if_ne C (tgt := 114) dX8_began_106 (by decide) (fun c_20 => ?_) (fun c_20 => ?_)
      · have f := f.2 c_20
        refine ab_iconst C (v := (1 : Int32)) dX8_began_114 (by decide) ?_
        refine ab_goto C (tgt := 119) dX8_began_115 (by decide) ?_
        refine ab_istore_n C (lv' := [(3, .int (1 : Int32)), (4, .int v_19), (6, .int z0), (0, .ref (G.1 + 105)), (1, .int x1), (2, .int x2), (5, .int y5)]) dX8_began_119 rfl (by decide) rfl ?_
        refine ab_iinc C (lv' := [(5, .int (y5 + (1 : Int32))), (3, .int (1 : Int32)), (4, .int v_19), (6, .int z0), (0, .ref (G.1 + 105)), (1, .int x1), (2, .int x2)]) 6 (v := (y5 + (1 : Int32))) dX8_began_120 rfl rfl (by decide) rfl ?_
        refine ab_goto C (tgt := 29) dX8_began_123 (by decide) ?_
        refine ab_sub (lv' := [(0, .ref (G.1 + 105)), (1, .int x1), (2, .int x2), (3, .int (1 : Int32)), (4, .int v_19), (5, .int (y5 + (1 : Int32)))]) [4, 5, 6, 1, 2, 0] rfl ?_
        exact il_29 (1 : Int32) v_19 (y5 + (1 : Int32)) h  hw f
      · have f := f.1 c_20
        refine ab_iload C 1 dX8_began_109 rfl ?_
        refine ab_if_eq C (tgt := 118) dX8_began_111 (by decide) (fun c_21 => ?_) (fun c_21 => ?_)
        · have f := f.1 c_21
          refine ab_iconst C (v := (0 : Int32)) dX8_began_118 (by decide) ?_
          refine ab_istore_n C (lv' := [(3, .int (0 : Int32)), (4, .int v_19), (6, .int z0), (0, .ref (G.1 + 105)), (1, .int x1), (2, .int x2), (5, .int y5)]) dX8_began_119 rfl (by decide) rfl ?_
          refine ab_iinc C (lv' := [(5, .int (y5 + (1 : Int32))), (3, .int (0 : Int32)), (4, .int v_19), (6, .int z0), (0, .ref (G.1 + 105)), (1, .int x1), (2, .int x2)]) 6 (v := (y5 + (1 : Int32))) dX8_began_120 rfl rfl (by decide) rfl ?_
          refine ab_goto C (tgt := 29) dX8_began_123 (by decide) ?_
          refine ab_sub (lv' := [(0, .ref (G.1 + 105)), (1, .int x1), (2, .int x2), (3, .int (0 : Int32)), (4, .int v_19), (5, .int (y5 + (1 : Int32)))]) [4, 5, 6, 1, 2, 0] rfl ?_
          exact il_29 (0 : Int32) v_19 (y5 + (1 : Int32)) h  hw f
        · have f := f.2 c_21
          refine ab_iconst C (v := (1 : Int32)) dX8_began_114 (by decide) ?_
          refine ab_goto C (tgt := 119) dX8_began_115 (by decide) ?_
          refine ab_istore_n C (lv' := [(3, .int (1 : Int32)), (4, .int v_19), (6, .int z0), (0, .ref (G.1 + 105)), (1, .int x1), (2, .int x2), (5, .int y5)]) dX8_began_119 rfl (by decide) rfl ?_
          refine ab_iinc C (lv' := [(5, .int (y5 + (1 : Int32))), (3, .int (1 : Int32)), (4, .int v_19), (6, .int z0), (0, .ref (G.1 + 105)), (1, .int x1), (2, .int x2)]) 6 (v := (y5 + (1 : Int32))) dX8_began_120 rfl rfl (by decide) rfl ?_
          refine ab_goto C (tgt := 29) dX8_began_123 (by decide) ?_
          refine ab_sub (lv' := [(0, .ref (G.1 + 105)), (1, .int x1), (2, .int x2), (3, .int (1 : Int32)), (4, .int v_19), (5, .int (y5 + (1 : Int32)))]) [4, 5, 6, 1, 2, 0] rfl ?_
          exact il_29 (1 : Int32) v_19 (y5 + (1 : Int32)) h  hw f
    · have f := f.2 c_18
      refine ab_aload_n C 1 dX8_began_79 rfl rfl ?_
      refine ab_iload C 6 dX8_began_80 rfl ?_
      refine ab_iconst C (v := (2 : Int32)) dX8_began_82 (by decide) ?_
      refine ab_callV C (k := 0) (n := 0) (rest := []) [.int y5, .int (2 : Int32)] cl_X8_60 (mt_X8_its  hw f) rfl (by decide) kd_105 (wf_lt hw kd_105 rfl) ⟨rfl, rfl, Nat.le_of_ble_eq_true rfl, Nat.le_of_ble_eq_true rfl, Nat.zero_le _, Nat.zero_le _⟩ rfl rfl (Nat.le_of_ble_eq_true rfl) dX8_began_83 (ab_kp (k := 0) (n := 0) (fun v_22 f => ?_))
      refine ab_iload C 5 dX8_began_86 rfl ?_
      refine ab_icmp_ge C (tgt := 101) dX8_began_88 (by decide) (fun c_23 => ?_) (fun c_23 => ?_)
      · have f := f.1 c_23
        refine ab_iload C 5 dX8_began_101 rfl ?_
        refine ab_istore C (lv' := [(4, .int y4), (6, .int z0), (0, .ref (G.1 + 105)), (1, .int x1), (2, .int x2), (3, .int y3), (5, .int y5)]) dX8_began_103 (by decide) rfl ?_
        refine ab_iload_n C 5 dX8_began_105 rfl rfl ?_
        refine ab_if_ne C (tgt := 114) dX8_began_106 (by decide) (fun c_24 => ?_) (fun c_24 => ?_)
        · have f := f.2 c_24
          refine ab_iconst C (v := (1 : Int32)) dX8_began_114 (by decide) ?_
          refine ab_goto C (tgt := 119) dX8_began_115 (by decide) ?_
          refine ab_istore_n C (lv' := [(3, .int (1 : Int32)), (4, .int y4), (6, .int z0), (0, .ref (G.1 + 105)), (1, .int x1), (2, .int x2), (5, .int y5)]) dX8_began_119 rfl (by decide) rfl ?_
          refine ab_iinc C (lv' := [(5, .int (y5 + (1 : Int32))), (3, .int (1 : Int32)), (4, .int y4), (6, .int z0), (0, .ref (G.1 + 105)), (1, .int x1), (2, .int x2)]) 6 (v := (y5 + (1 : Int32))) dX8_began_120 rfl rfl (by decide) rfl ?_
          refine ab_goto C (tgt := 29) dX8_began_123 (by decide) ?_
          refine ab_sub (lv' := [(0, .ref (G.1 + 105)), (1, .int x1), (2, .int x2), (3, .int (1 : Int32)), (4, .int y4), (5, .int (y5 + (1 : Int32)))]) [4, 5, 6, 1, 2, 0] rfl ?_
          exact il_29 (1 : Int32) y4 (y5 + (1 : Int32)) h  hw f
        · have f := f.1 c_24
          refine ab_iload C 1 dX8_began_109 rfl ?_
          refine ab_if_eq C (tgt := 118) dX8_began_111 (by decide) (fun c_25 => ?_) (fun c_25 => ?_)
          · have f := f.1 c_25
            refine ab_iconst C (v := (0 : Int32)) dX8_began_118 (by decide) ?_
            refine ab_istore_n C (lv' := [(3, .int (0 : Int32)), (4, .int y4), (6, .int z0), (0, .ref (G.1 + 105)), (1, .int x1), (2, .int x2), (5, .int y5)]) dX8_began_119 rfl (by decide) rfl ?_
            refine ab_iinc C (lv' := [(5, .int (y5 + (1 : Int32))), (3, .int (0 : Int32)), (4, .int y4), (6, .int z0), (0, .ref (G.1 + 105)), (1, .int x1), (2, .int x2)]) 6 (v := (y5 + (1 : Int32))) dX8_began_120 rfl rfl (by decide) rfl ?_
            refine ab_goto C (tgt := 29) dX8_began_123 (by decide) ?_
            refine ab_sub (lv' := [(0, .ref (G.1 + 105)), (1, .int x1), (2, .int x2), (3, .int (0 : Int32)), (4, .int y4), (5, .int (y5 + (1 : Int32)))]) [4, 5, 6, 1, 2, 0] rfl ?_
            exact il_29 (0 : Int32) y4 (y5 + (1 : Int32)) h  hw f
          · have f := f.2 c_25
            refine ab_iconst C (v := (1 : Int32)) dX8_began_114 (by decide) ?_
            refine ab_goto C (tgt := 119) dX8_began_115 (by decide) ?_
            refine ab_istore_n C (lv' := [(3, .int (1 : Int32)), (4, .int y4), (6, .int z0), (0, .ref (G.1 + 105)), (1, .int x1), (2, .int x2), (5, .int y5)]) dX8_began_119 rfl (by decide) rfl ?_
            refine ab_iinc C (lv' := [(5, .int (y5 + (1 : Int32))), (3, .int (1 : Int32)), (4, .int y4), (6, .int z0), (0, .ref (G.1 + 105)), (1, .int x1), (2, .int x2)]) 6 (v := (y5 + (1 : Int32))) dX8_began_120 rfl rfl (by decide) rfl ?_
            refine ab_goto C (tgt := 29) dX8_began_123 (by decide) ?_
            refine ab_sub (lv' := [(0, .ref (G.1 + 105)), (1, .int x1), (2, .int x2), (3, .int (1 : Int32)), (4, .int y4), (5, .int (y5 + (1 : Int32)))]) [4, 5, 6, 1, 2, 0] rfl ?_
            exact il_29 (1 : Int32) y4 (y5 + (1 : Int32)) h  hw f
      · have f := f.2 c_23
        refine ab_aload_n C 1 dX8_began_91 rfl rfl ?_
        refine ab_iload C 6 dX8_began_92 rfl ?_
        refine ab_iconst C (v := (2 : Int32)) dX8_began_94 (by decide) ?_
        refine ab_callV C (k := 0) (n := 0) (rest := []) [.int y5, .int (2 : Int32)] cl_X8_60 (mt_X8_its  hw f) rfl (by decide) kd_105 (wf_lt hw kd_105 rfl) ⟨rfl, rfl, Nat.le_of_ble_eq_true rfl, Nat.le_of_ble_eq_true rfl, Nat.zero_le _, Nat.zero_le _⟩ rfl rfl (Nat.le_of_ble_eq_true rfl) dX8_began_95 (ab_kp (k := 0) (n := 0) (fun v_26 f => ?_))
        refine ab_goto C (tgt := 103) dX8_began_98 (by decide) ?_
        refine ab_istore C (lv' := [(4, .int v_26), (6, .int z0), (0, .ref (G.1 + 105)), (1, .int x1), (2, .int x2), (3, .int y3), (5, .int y5)]) dX8_began_103 (by decide) rfl ?_
        refine ab_iload_n C 5 dX8_began_105 rfl rfl ?_
        refine ab_if_ne C (tgt := 114) dX8_began_106 (by decide) (fun c_27 => ?_) (fun c_27 => ?_)
        · have f := f.2 c_27
          refine ab_iconst C (v := (1 : Int32)) dX8_began_114 (by decide) ?_
          refine ab_goto C (tgt := 119) dX8_began_115 (by decide) ?_
          refine ab_istore_n C (lv' := [(3, .int (1 : Int32)), (4, .int v_26), (6, .int z0), (0, .ref (G.1 + 105)), (1, .int x1), (2, .int x2), (5, .int y5)]) dX8_began_119 rfl (by decide) rfl ?_
          refine ab_iinc C (lv' := [(5, .int (y5 + (1 : Int32))), (3, .int (1 : Int32)), (4, .int v_26), (6, .int z0), (0, .ref (G.1 + 105)), (1, .int x1), (2, .int x2)]) 6 (v := (y5 + (1 : Int32))) dX8_began_120 rfl rfl (by decide) rfl ?_
          refine ab_goto C (tgt := 29) dX8_began_123 (by decide) ?_
          refine ab_sub (lv' := [(0, .ref (G.1 + 105)), (1, .int x1), (2, .int x2), (3, .int (1 : Int32)), (4, .int v_26), (5, .int (y5 + (1 : Int32)))]) [4, 5, 6, 1, 2, 0] rfl ?_
          exact il_29 (1 : Int32) v_26 (y5 + (1 : Int32)) h  hw f
        · have f := f.1 c_27
          refine ab_iload C 1 dX8_began_109 rfl ?_
          refine ab_if_eq C (tgt := 118) dX8_began_111 (by decide) (fun c_28 => ?_) (fun c_28 => ?_)
          · have f := f.1 c_28
            refine ab_iconst C (v := (0 : Int32)) dX8_began_118 (by decide) ?_
            refine ab_istore_n C (lv' := [(3, .int (0 : Int32)), (4, .int v_26), (6, .int z0), (0, .ref (G.1 + 105)), (1, .int x1), (2, .int x2), (5, .int y5)]) dX8_began_119 rfl (by decide) rfl ?_
            refine ab_iinc C (lv' := [(5, .int (y5 + (1 : Int32))), (3, .int (0 : Int32)), (4, .int v_26), (6, .int z0), (0, .ref (G.1 + 105)), (1, .int x1), (2, .int x2)]) 6 (v := (y5 + (1 : Int32))) dX8_began_120 rfl rfl (by decide) rfl ?_
            refine ab_goto C (tgt := 29) dX8_began_123 (by decide) ?_
            refine ab_sub (lv' := [(0, .ref (G.1 + 105)), (1, .int x1), (2, .int x2), (3, .int (0 : Int32)), (4, .int v_26), (5, .int (y5 + (1 : Int32)))]) [4, 5, 6, 1, 2, 0] rfl ?_
            exact il_29 (0 : Int32) v_26 (y5 + (1 : Int32)) h  hw f
          · have f := f.2 c_28
            refine ab_iconst C (v := (1 : Int32)) dX8_began_114 (by decide) ?_
            refine ab_goto C (tgt := 119) dX8_began_115 (by decide) ?_
            refine ab_istore_n C (lv' := [(3, .int (1 : Int32)), (4, .int v_26), (6, .int z0), (0, .ref (G.1 + 105)), (1, .int x1), (2, .int x2), (5, .int y5)]) dX8_began_119 rfl (by decide) rfl ?_
            refine ab_iinc C (lv' := [(5, .int (y5 + (1 : Int32))), (3, .int (1 : Int32)), (4, .int v_26), (6, .int z0), (0, .ref (G.1 + 105)), (1, .int x1), (2, .int x2)]) 6 (v := (y5 + (1 : Int32))) dX8_began_120 rfl rfl (by decide) rfl ?_
            refine ab_goto C (tgt := 29) dX8_began_123 (by decide) ?_
            refine ab_sub (lv' := [(0, .ref (G.1 + 105)), (1, .int x1), (2, .int x2), (3, .int (1 : Int32)), (4, .int v_26), (5, .int (y5 + (1 : Int32)))]) [4, 5, 6, 1, 2, 0] rfl ?_
            exact il_29 (1 : Int32) v_26 (y5 + (1 : Int32)) h  hw f
def wp_X8_began_L29 (x1 : Int32) (x2 : Int32) (Q : Int32 → hp_T → Prop) : Nat → Int32 → Int32 → Int32 → hp_T → Prop
  | 0 => fun _ _ _ _ => False
  | nn + 1 => fun y3 y4 y5 h => (((hp_i h 106 0) ≤ y5 → ((y3 = 0 → wp_X8_errs (-1000000002 : Int32) h (fun v_10 h_11 => (Q v_10 h_11))) ∧ (¬ (y3 = 0) → (Q y4 h)))) ∧ (¬ ((hp_i h 106 0) ≤ y5) → wp_X8_isKnowing y5 x1 h (fun v_13 => ((v_13 = 0 → (wp_X8_began_b68 x1 x2 Q (wp_X8_began_L29 x1 x2 Q nn) y3 y4 y5 (0 : Int32) h)) ∧ (¬ (v_13 = 0) → wp_X8_its y5 ((5 : Int32) + x1) h (fun v_29 => ((v_29 = x2 → (wp_X8_began_b68 x1 x2 Q (wp_X8_began_L29 x1 x2 Q nn) y3 y4 y5 (1 : Int32) h)) ∧ (¬ (v_29 = x2) → (wp_X8_began_b68 x1 x2 Q (wp_X8_began_L29 x1 x2 Q nn) y3 y4 y5 (0 : Int32) h)))))))))
set_option maxRecDepth 100000 in
set_option maxHeartbeats 4000000 in
theorem bt_X8_began_L29 {l : Launch} {G : ab_G} {F : ab_F} {x1 : Int32} {x2 : Int32} {Q : Int32 → hp_T → Prop}  (C : ab_C G F rm_X8_began cX8_began 7 RX8 (some .int) "began")   : ∀ (nn : Nat) (y3 : Int32) (y4 : Int32) (y5 : Int32) (h : hp_T), wf h → wp_X8_began_L29 x1 x2 Q nn y3 y4 y5 h → ab_W l G F 7 (ab_MQ G F (po_h Q) 0 0) 0 0 h [(0, .ref (G.1 + 105)), (1, .int x1), (2, .int x2), (3, .int y3), (4, .int y4), (5, .int y5)] [] 29 := by
  intro nn
  induction nn with
  | zero =>
    intro y3 y4 y5 h hw f
    exact absurd f id
  | succ nn ih =>
    intro y3 y4 y5 h hw f
    unfold wp_X8_began_L29 at f
    refine ab_iload C 5 dX8_began_29 rfl ?_
    refine ab_aload_n C 0 dX8_began_31 rfl rfl ?_
    refine ab_getR C (q := 106) fl_X8_7 rfl kd_105 (wf_lt hw kd_105 rfl) (wr_8_0 hw) dX8_began_32 ?_
    refine ab_iconst C (v := (0 : Int32)) dX8_began_35 (by decide) ?_
    refine ab_iald C (by rw [kd_106]; decide) (wf_lt hw kd_106 rfl) (wf_len hw kd_106 rfl rfl (by decide)) (vp_lit (by decide)) (j := 0) (by decide) dX8_began_36 ?_
    refine ab_icmp_ge C (tgt := 126) dX8_began_37 (by decide) (fun c_8 => ?_) (fun c_8 => ?_)
    · have f := f.1 c_8
      refine ab_iload_n C 3 dX8_began_126 rfl rfl ?_
      refine ab_if_eq C (tgt := 135) dX8_began_127 (by decide) (fun c_9 => ?_) (fun c_9 => ?_)
      · have f := f.1 c_9
        refine ab_aload_n C 0 dX8_began_135 rfl rfl ?_
        refine ab_ldcw C kw_t1089 dX8_began_136 ?_
        refine ab_callV C (k := 0) (n := 0) (rest := []) [.int (-1000000002 : Int32)] cl_X8_84 (mt_X8_errs  hw f) rfl (by decide) kd_105 (wf_lt hw kd_105 rfl) ⟨rfl, rfl, Nat.le_of_ble_eq_true rfl, Nat.le_of_ble_eq_true rfl, Nat.zero_le _, Nat.zero_le _⟩ rfl rfl (Nat.le_of_ble_eq_true rfl) dX8_began_139 (ab_kh (k := 0) (n := 0) (fun v_10 h_11 hw_12 f => ?_))
        exact ab_iret C dX8_began_142 ⟨hw_12, _, rfl, f⟩
      · have f := f.2 c_9
        refine ab_iload C 4 dX8_began_130 rfl ?_
        refine ab_goto C (tgt := 142) dX8_began_132 (by decide) ?_
        exact ab_iret C dX8_began_142 ⟨hw, _, rfl, f⟩
    · have f := f.2 c_8
      refine ab_aload_n C 0 dX8_began_40 rfl rfl ?_
      refine ab_iload C 5 dX8_began_41 rfl ?_
      refine ab_iload_n C 1 dX8_began_43 rfl rfl ?_
      refine ab_callV C (k := 0) (n := 0) (rest := []) [.int y5, .int x1] cl_X8_118 (mt_X8_isKnowing  hw f) rfl (by decide) kd_105 (wf_lt hw kd_105 rfl) ⟨rfl, rfl, Nat.le_of_ble_eq_true rfl, Nat.le_of_ble_eq_true rfl, Nat.zero_le _, Nat.zero_le _⟩ rfl rfl (Nat.le_of_ble_eq_true rfl) dX8_began_44 (ab_kp (k := 0) (n := 0) (fun v_13 f => ?_))
      refine ab_if_eq C (tgt := 67) dX8_began_47 (by decide) (fun c_14 => ?_) (fun c_14 => ?_)
      · have f := f.1 c_14
        refine ab_iconst C (v := (0 : Int32)) dX8_began_67 (by decide) ?_
        exact bt_X8_began_b68 C   ih  y3 y4 y5 (0 : Int32) h  hw f
      · have f := f.2 c_14
        refine ab_aload_n C 0 dX8_began_50 rfl rfl ?_
        refine ab_iload C 5 dX8_began_51 rfl ?_
        refine ab_iconst C (v := (5 : Int32)) dX8_began_53 (by decide) ?_
        refine ab_iload_n C 1 dX8_began_54 rfl rfl ?_
        refine ab_iadd C dX8_began_55 ?_
        refine ab_callV C (k := 0) (n := 0) (rest := []) [.int y5, .int ((5 : Int32) + x1)] cl_X8_60 (mt_X8_its  hw f) rfl (by decide) kd_105 (wf_lt hw kd_105 rfl) ⟨rfl, rfl, Nat.le_of_ble_eq_true rfl, Nat.le_of_ble_eq_true rfl, Nat.zero_le _, Nat.zero_le _⟩ rfl rfl (Nat.le_of_ble_eq_true rfl) dX8_began_56 (ab_kp (k := 0) (n := 0) (fun v_29 f => ?_))
        refine ab_iload_n C 2 dX8_began_59 rfl rfl ?_
        refine ab_icmp_ne C (tgt := 67) dX8_began_60 (by decide) (fun c_30 => ?_) (fun c_30 => ?_)
        · have f := f.2 c_30
          refine ab_iconst C (v := (0 : Int32)) dX8_began_67 (by decide) ?_
          exact bt_X8_began_b68 C   ih  y3 y4 y5 (0 : Int32) h  hw f
        · have f := f.1 c_30
          refine ab_iconst C (v := (1 : Int32)) dX8_began_63 (by decide) ?_
          refine ab_goto C (tgt := 68) dX8_began_64 (by decide) ?_
          exact bt_X8_began_b68 C   ih  y3 y4 y5 (1 : Int32) h  hw f
def wp_X8_began (x1 : Int32) (x2 : Int32) (h : hp_T) (Q : Int32 → hp_T → Prop) : Prop :=
  wp_X8_isKnack x1 h (fun v_1 => ((v_1 = 0 → wp_X8_errs (-1000000001 : Int32) h (fun v_3 h_4 => (Q v_3 h_4))) ∧ (¬ (v_1 = 0) → wp_X8_isVersion x2 h (fun v_6 => ((v_6 = 0 → wp_X8_errs (-1000000001 : Int32) h (fun v_31 h_32 => (Q v_31 h_32))) ∧ (¬ (v_6 = 0) → (∃ n0, wp_X8_began_L29 x1 x2 Q  n0 (0 : Int32) (0 : Int32) (0 : Int32) h)))))))
set_option maxRecDepth 100000 in
set_option maxHeartbeats 4000000 in
theorem mt_X8_began {l : Launch} {G : ab_G} {x1 : Int32} {x2 : Int32} {h : hp_T} {Q : Int32 → hp_T → Prop} (hw : wf h) (f : wp_X8_began x1 x2 h Q) : ab_M l G yX8_began cX8_began 7 (some .int) rm_X8_began 0 0 [.ref (G.1 + 105), .int x1, .int x2] h (po_h Q) := by
  refine ab_intro (own := RX8) (nm := "began") rfl rfl rfl (Nat.le_of_ble_eq_true rfl) (fun F C => ?_)
  show ab_W l G F 7 (ab_MQ G F (po_h Q) 0 0) 0 0 h [(0, .ref (G.1 + 105)), (1, .int x1), (2, .int x2)] [] 0
  unfold wp_X8_began at f
  refine ab_iload_n C 1 dX8_began_0 rfl rfl ?_
  refine ab_callS C (k := 0) (n := 0) (rest := []) [.int x1] cl_X8_113 (mt_X8_isKnack  hw f) ⟨rfl, rfl, Nat.le_of_ble_eq_true rfl, Nat.le_of_ble_eq_true rfl, Nat.zero_le _, Nat.zero_le _⟩ rfl rfl (Nat.le_of_ble_eq_true rfl) dX8_began_1 (ab_kp (k := 0) (n := 0) (fun v_1 f => ?_))
  refine ab_if_eq C (tgt := 14) dX8_began_4 (by decide) (fun c_2 => ?_) (fun c_2 => ?_)
  · have f := f.1 c_2
    refine ab_aload_n C 0 dX8_began_14 rfl rfl ?_
    refine ab_ldc C kw_t821 dX8_began_15 ?_
    refine ab_callV C (k := 0) (n := 0) (rest := []) [.int (-1000000001 : Int32)] cl_X8_84 (mt_X8_errs  hw f) rfl (by decide) kd_105 (wf_lt hw kd_105 rfl) ⟨rfl, rfl, Nat.le_of_ble_eq_true rfl, Nat.le_of_ble_eq_true rfl, Nat.zero_le _, Nat.zero_le _⟩ rfl rfl (Nat.le_of_ble_eq_true rfl) dX8_began_17 (ab_kh (k := 0) (n := 0) (fun v_3 h_4 hw_5 f => ?_))
    exact ab_iret C dX8_began_20 ⟨hw_5, _, rfl, f⟩
  · have f := f.2 c_2
    refine ab_iload_n C 2 dX8_began_7 rfl rfl ?_
    refine ab_callS C (k := 0) (n := 0) (rest := []) [.int x2] cl_X8_275 (mt_X8_isVersion  hw f) ⟨rfl, rfl, Nat.le_of_ble_eq_true rfl, Nat.le_of_ble_eq_true rfl, Nat.zero_le _, Nat.zero_le _⟩ rfl rfl (Nat.le_of_ble_eq_true rfl) dX8_began_8 (ab_kp (k := 0) (n := 0) (fun v_6 f => ?_))
    refine ab_if_ne C (tgt := 21) dX8_began_11 (by decide) (fun c_7 => ?_) (fun c_7 => ?_)
    · have f := f.2 c_7
      refine ab_iconst C (v := (0 : Int32)) dX8_began_21 (by decide) ?_
      refine ab_istore_n C (lv' := [(3, .int (0 : Int32)), (0, .ref (G.1 + 105)), (1, .int x1), (2, .int x2)]) dX8_began_22 rfl (by decide) rfl ?_
      refine ab_iconst C (v := (0 : Int32)) dX8_began_23 (by decide) ?_
      refine ab_istore C (lv' := [(4, .int (0 : Int32)), (3, .int (0 : Int32)), (0, .ref (G.1 + 105)), (1, .int x1), (2, .int x2)]) dX8_began_24 (by decide) rfl ?_
      refine ab_iconst C (v := (0 : Int32)) dX8_began_26 (by decide) ?_
      refine ab_istore C (lv' := [(5, .int (0 : Int32)), (4, .int (0 : Int32)), (3, .int (0 : Int32)), (0, .ref (G.1 + 105)), (1, .int x1), (2, .int x2)]) dX8_began_27 (by decide) rfl ?_
      obtain ⟨n0, f⟩ := f
      refine ab_sub (lv' := [(0, .ref (G.1 + 105)), (1, .int x1), (2, .int x2), (3, .int (0 : Int32)), (4, .int (0 : Int32)), (5, .int (0 : Int32))]) [3, 4, 5, 2, 1, 0] rfl ?_
      exact bt_X8_began_L29 C    n0 (0 : Int32) (0 : Int32) (0 : Int32) h  hw f
    · have f := f.1 c_7
      refine ab_aload_n C 0 dX8_began_14 rfl rfl ?_
      refine ab_ldc C kw_t821 dX8_began_15 ?_
      refine ab_callV C (k := 0) (n := 0) (rest := []) [.int (-1000000001 : Int32)] cl_X8_84 (mt_X8_errs  hw f) rfl (by decide) kd_105 (wf_lt hw kd_105 rfl) ⟨rfl, rfl, Nat.le_of_ble_eq_true rfl, Nat.le_of_ble_eq_true rfl, Nat.zero_le _, Nat.zero_le _⟩ rfl rfl (Nat.le_of_ble_eq_true rfl) dX8_began_17 (ab_kh (k := 0) (n := 0) (fun v_31 h_32 hw_33 f => ?_))
      exact ab_iret C dX8_began_20 ⟨hw_33, _, rfl, f⟩
/-! X8_body -/
def rm_X8_body : Room := { frames := 3, cells := 0, slots := 0, locals := 125 }
def wp_X8_body (x1 : Int32) (h : hp_T) (Q : Int32 → hp_T → Prop) : Prop :=
  wp_X8_in x1.toInt64 (0 : Int64) (((hp_i h 105 15) - (1 : Int32)).toInt64) h (fun v_1 => ((v_1 = 0 → wp_X8_errs (-1000000002 : Int32) h (fun v_3 h_4 => (Q v_3 h_4))) ∧ (¬ (v_1 = 0) → (vp_in x1 30) ∧ (Q (hp_i h 112 x1.toNatClampNeg) h))))
set_option maxRecDepth 100000 in
set_option maxHeartbeats 4000000 in
theorem mt_X8_body {l : Launch} {G : ab_G} {x1 : Int32} {h : hp_T} {Q : Int32 → hp_T → Prop} (hw : wf h) (f : wp_X8_body x1 h Q) : ab_M l G yX8_body cX8_body 2 (some .int) rm_X8_body 0 0 [.ref (G.1 + 105), .int x1] h (po_h Q) := by
  refine ab_intro (own := RX8) (nm := "body") rfl rfl rfl (Nat.le_of_ble_eq_true rfl) (fun F C => ?_)
  show ab_W l G F 2 (ab_MQ G F (po_h Q) 0 0) 0 0 h [(0, .ref (G.1 + 105)), (1, .int x1)] [] 0
  unfold wp_X8_body at f
  refine ab_iload_n C 1 dX8_body_0 rfl rfl ?_
  refine ab_i2l C dX8_body_1 ?_
  refine ab_lconst C (v := (0 : Int64)) dX8_body_2 (by decide) ?_
  refine ab_aload_n C 0 dX8_body_3 rfl rfl ?_
  refine ab_getI C fl_X8_278 rfl kd_105 (wf_lt hw kd_105 rfl) dX8_body_4 ?_
  refine ab_iconst C (v := (1 : Int32)) dX8_body_7 (by decide) ?_
  refine ab_isub C dX8_body_8 ?_
  refine ab_i2l C dX8_body_9 ?_
  refine ab_callS C (k := 0) (n := 0) (rest := []) [.long x1.toInt64, .long (0 : Int64), .long (((hp_i h 105 15) - (1 : Int32)).toInt64)] cl_X8_44 (mt_X8_in  hw f) ⟨rfl, rfl, Nat.le_of_ble_eq_true rfl, Nat.le_of_ble_eq_true rfl, Nat.zero_le _, Nat.zero_le _⟩ rfl rfl (Nat.le_of_ble_eq_true rfl) dX8_body_10 (ab_kp (k := 0) (n := 0) (fun v_1 f => ?_))
  refine ab_if_eq C (tgt := 25) dX8_body_13 (by decide) (fun c_2 => ?_) (fun c_2 => ?_)
  · have f := f.1 c_2
    refine ab_aload_n C 0 dX8_body_25 rfl rfl ?_
    refine ab_ldcw C kw_t1089 dX8_body_26 ?_
    refine ab_callV C (k := 0) (n := 0) (rest := []) [.int (-1000000002 : Int32)] cl_X8_84 (mt_X8_errs  hw f) rfl (by decide) kd_105 (wf_lt hw kd_105 rfl) ⟨rfl, rfl, Nat.le_of_ble_eq_true rfl, Nat.le_of_ble_eq_true rfl, Nat.zero_le _, Nat.zero_le _⟩ rfl rfl (Nat.le_of_ble_eq_true rfl) dX8_body_29 (ab_kh (k := 0) (n := 0) (fun v_3 h_4 hw_5 f => ?_))
    exact ab_iret C dX8_body_32 ⟨hw_5, _, rfl, f⟩
  · have f := f.2 c_2
    refine ab_aload_n C 0 dX8_body_16 rfl rfl ?_
    refine ab_getR C (q := 112) fl_X8_28 rfl kd_105 (wf_lt hw kd_105 rfl) (wr_8_14 hw) dX8_body_17 ?_
    refine ab_iload_n C 1 dX8_body_20 rfl rfl ?_
    obtain ⟨c_6, f⟩ := f
    refine ab_iald C (by rw [kd_112]; decide) (wf_lt hw kd_112 rfl) (wf_len hw kd_112 rfl rfl (by decide)) c_6 (j := x1.toNatClampNeg) rfl dX8_body_21 ?_
    refine ab_goto C (tgt := 32) dX8_body_22 (by decide) ?_
    exact ab_iret C dX8_body_32 ⟨hw, _, rfl, f⟩
/-! X8_isBits -/
def rm_X8_isBits : Room := { frames := 3, cells := 0, slots := 0, locals := 125 }
def wp_X8_isBits (x0 : Int32) (h : hp_T) (Q : Int32 → Prop) : Prop :=
  wp_X8_in x0.toInt64 (0 : Int64) (63 : Int64) h (fun v_1 => (bo_ok v_1) ∧ (Q v_1))
set_option maxRecDepth 100000 in
set_option maxHeartbeats 4000000 in
theorem mt_X8_isBits {l : Launch} {G : ab_G} {x0 : Int32} {h : hp_T} {Q : Int32 → Prop} (hw : wf h) (f : wp_X8_isBits x0 h Q) : ab_M l G yX8_isBits cX8_isBits 1 (some .boolean) rm_X8_isBits 0 0 [.int x0] h (po_p h Q) := by
  refine ab_intro (own := RX8) (nm := "isBits") rfl rfl rfl (Nat.le_of_ble_eq_true rfl) (fun F C => ?_)
  show ab_W l G F 1 (ab_MQ G F (po_p h Q) 0 0) 0 0 h [(0, .int x0)] [] 0
  unfold wp_X8_isBits at f
  refine ab_iload_n C 0 dX8_isBits_0 rfl rfl ?_
  refine ab_i2l C dX8_isBits_1 ?_
  refine ab_lconst C (v := (0 : Int64)) dX8_isBits_2 (by decide) ?_
  refine ab_ldc2 C kw_t911 dX8_isBits_3 ?_
  refine ab_callS C (k := 0) (n := 0) (rest := []) [.long x0.toInt64, .long (0 : Int64), .long (63 : Int64)] cl_X8_44 (mt_X8_in  hw f) ⟨rfl, rfl, Nat.le_of_ble_eq_true rfl, Nat.le_of_ble_eq_true rfl, Nat.zero_le _, Nat.zero_le _⟩ rfl rfl (Nat.le_of_ble_eq_true rfl) dX8_isBits_6 (ab_kp (k := 0) (n := 0) (fun v_1 f => ?_))
  obtain ⟨c_2, f⟩ := f
  exact ab_zret C dX8_isBits_9 (bo_nar c_2) ⟨rfl, _, rfl, f⟩
/-! X8_book -/
def rm_X8_book : Room := { frames := 4, cells := 0, slots := 0, locals := 145 }
def wp_X8_book (x1 : Int32) (h : hp_T) (Q : Int32 → hp_T → Prop) : Prop :=
  wp_X8_isBits x1 h (fun v_1 => ((v_1 = 0 → wp_X8_errs (-1000000001 : Int32) h (fun v_6 h_7 => (Q v_6 h_7))) ∧ (¬ (v_1 = 0) → (∀ h_3, h_3 = hp_si h 106 4 x1 → (Q (hp_i h 106 4) h_3)))))
set_option maxRecDepth 100000 in
set_option maxHeartbeats 4000000 in
theorem mt_X8_book {l : Launch} {G : ab_G} {x1 : Int32} {h : hp_T} {Q : Int32 → hp_T → Prop} (hw : wf h) (f : wp_X8_book x1 h Q) : ab_M l G yX8_book cX8_book 3 (some .int) rm_X8_book 0 0 [.ref (G.1 + 105), .int x1] h (po_h Q) := by
  refine ab_intro (own := RX8) (nm := "book") rfl rfl rfl (Nat.le_of_ble_eq_true rfl) (fun F C => ?_)
  show ab_W l G F 3 (ab_MQ G F (po_h Q) 0 0) 0 0 h [(0, .ref (G.1 + 105)), (1, .int x1)] [] 0
  unfold wp_X8_book at f
  refine ab_iload_n C 1 dX8_book_0 rfl rfl ?_
  refine ab_callS C (k := 0) (n := 0) (rest := []) [.int x1] cl_X8_121 (mt_X8_isBits  hw f) ⟨rfl, rfl, Nat.le_of_ble_eq_true rfl, Nat.le_of_ble_eq_true rfl, Nat.zero_le _, Nat.zero_le _⟩ rfl rfl (Nat.le_of_ble_eq_true rfl) dX8_book_1 (ab_kp (k := 0) (n := 0) (fun v_1 f => ?_))
  refine ab_if_ne C (tgt := 14) dX8_book_4 (by decide) (fun c_2 => ?_) (fun c_2 => ?_)
  · have f := f.2 c_2
    refine ab_aload_n C 0 dX8_book_14 rfl rfl ?_
    refine ab_getR C (q := 106) fl_X8_7 rfl kd_105 (wf_lt hw kd_105 rfl) (wr_8_0 hw) dX8_book_15 ?_
    refine ab_iconst C (v := (4 : Int32)) dX8_book_18 (by decide) ?_
    refine ab_iald C (by rw [kd_106]; decide) (wf_lt hw kd_106 rfl) (wf_len hw kd_106 rfl rfl (by decide)) (vp_lit (by decide)) (j := 4) (by decide) dX8_book_19 ?_
    refine ab_istore_n C (lv' := [(2, .int (hp_i h 106 4)), (0, .ref (G.1 + 105)), (1, .int x1)]) dX8_book_20 rfl (by decide) rfl ?_
    refine ab_aload_n C 1 dX8_book_21 rfl rfl ?_
    refine ab_getR C (q := 106) fl_X8_7 rfl kd_105 (wf_lt hw kd_105 rfl) (wr_8_0 hw) dX8_book_22 ?_
    refine ab_iconst C (v := (4 : Int32)) dX8_book_25 (by decide) ?_
    refine ab_iload_n C 2 dX8_book_26 rfl rfl ?_
    refine ab_iast C (by rw [kd_106]; decide) (wf_lt hw kd_106 rfl) (wf_len hw kd_106 rfl rfl (by decide)) (vp_lit (by decide)) (j := 4) (by decide) dX8_book_27 (fun h_3 e_4 => ?_)
    have f := f h_3 e_4
    have hw_5 := wf_si e_4 hw
    refine ab_iload_n C 0 dX8_book_28 rfl rfl ?_
    exact ab_iret C dX8_book_29 ⟨hw_5, _, rfl, f⟩
  · have f := f.1 c_2
    refine ab_aload_n C 0 dX8_book_7 rfl rfl ?_
    refine ab_ldc C kw_t821 dX8_book_8 ?_
    refine ab_callV C (k := 0) (n := 0) (rest := []) [.int (-1000000001 : Int32)] cl_X8_84 (mt_X8_errs  hw f) rfl (by decide) kd_105 (wf_lt hw kd_105 rfl) ⟨rfl, rfl, Nat.le_of_ble_eq_true rfl, Nat.le_of_ble_eq_true rfl, Nat.zero_le _, Nat.zero_le _⟩ rfl rfl (Nat.le_of_ble_eq_true rfl) dX8_book_10 (ab_kh (k := 0) (n := 0) (fun v_6 h_7 hw_8 f => ?_))
    exact ab_iret C dX8_book_13 ⟨hw_8, _, rfl, f⟩
/-! X8_comes -/
def rm_X8_comes : Room := { frames := 3, cells := 0, slots := 0, locals := 121 }
def wp_X8_comes_L57 (x1 : Int32) (x2 : Int32) (x3 : Int32) (x4 : Int32) (x5 : Int32) (Q : hp_T → Prop) : Nat → Int32 → hp_T → Prop
  | 0 => fun _ _ => False
  | nn + 1 => fun y6 h => (((6 : Int32) ≤ y6 → (Q h)) ∧ (¬ ((6 : Int32) ≤ y6) → wp_X8_at x1 ((5 : Int32) + y6) h (fun v_22 => wp_X8_has x3 y6 h (fun v_23 => ((v_23 = 0 → (vp_in v_22 357) ∧ (∀ h_26, h_26 = hp_si h 106 v_22.toNatClampNeg (0 : Int32) → wp_X8_at x1 ((11 : Int32) + y6) h_26 (fun v_29 => (vp_in v_29 357) ∧ (∀ h_31, h_31 = hp_si h_26 106 v_29.toNatClampNeg (0 : Int32) → (wp_X8_comes_L57 x1 x2 x3 x4 x5 Q nn) (y6 + (1 : Int32)) h_31)))) ∧ (¬ (v_23 = 0) → (vp_in v_22 357) ∧ (∀ h_35, h_35 = hp_si h 106 v_22.toNatClampNeg (1 : Int32) → wp_X8_at x1 ((11 : Int32) + y6) h_35 (fun v_38 => (vp_in v_38 357) ∧ (∀ h_40, h_40 = hp_si h_35 106 v_38.toNatClampNeg (0 : Int32) → (wp_X8_comes_L57 x1 x2 x3 x4 x5 Q nn) (y6 + (1 : Int32)) h_40)))))))))
set_option maxRecDepth 100000 in
set_option maxHeartbeats 4000000 in
theorem bt_X8_comes_L57 {l : Launch} {G : ab_G} {F : ab_F} {x1 : Int32} {x2 : Int32} {x3 : Int32} {x4 : Int32} {x5 : Int32} {Q : hp_T → Prop}  (C : ab_C G F rm_X8_comes cX8_comes 7 RX8 none "comes")   : ∀ (nn : Nat) (y6 : Int32) (h : hp_T), wf h → wp_X8_comes_L57 x1 x2 x3 x4 x5 Q nn y6 h → ab_W l G F 7 (ab_MQ G F (po_v Q) 0 0) 0 0 h [(0, .ref (G.1 + 105)), (1, .int x1), (3, .int x3), (6, .int y6)] [] 57 := by
  intro nn
  induction nn with
  | zero =>
    intro y6 h hw f
    exact absurd f id
  | succ nn ih =>
    intro y6 h hw f
    unfold wp_X8_comes_L57 at f
    refine ab_iload C 3 dX8_comes_57 rfl ?_
    refine ab_bipush C (v := (6 : Int32)) dX8_comes_59 (by decide) ?_
    refine ab_icmp_ge C (tgt := 112) dX8_comes_61 (by decide) (fun c_21 => ?_) (fun c_21 => ?_)
    · have f := f.1 c_21
      exact ab_vret C dX8_comes_112 ⟨hw, rfl, f⟩
    · have f := f.2 c_21
      refine ab_aload_n C 0 dX8_comes_64 rfl rfl ?_
      refine ab_getR C (q := 106) fl_X8_7 rfl kd_105 (wf_lt hw kd_105 rfl) (wr_8_0 hw) dX8_comes_65 ?_
      refine ab_iload_n C 1 dX8_comes_68 rfl rfl ?_
      refine ab_iconst C (v := (5 : Int32)) dX8_comes_69 (by decide) ?_
      refine ab_iload C 3 dX8_comes_70 rfl ?_
      refine ab_iadd C dX8_comes_72 ?_
      refine ab_callS C (k := 0) (n := 0) (rest := [.ref (G.1 + 106)]) [.int x1, .int ((5 : Int32) + y6)] cl_X8_56 (mt_X8_at  hw f) ⟨rfl, rfl, Nat.le_of_ble_eq_true rfl, Nat.le_of_ble_eq_true rfl, Nat.zero_le _, Nat.zero_le _⟩ rfl rfl (Nat.le_of_ble_eq_true rfl) dX8_comes_73 (ab_kp (k := 0) (n := 0) (fun v_22 f => ?_))
      refine ab_iload_n C 2 dX8_comes_76 rfl rfl ?_
      refine ab_iload C 3 dX8_comes_77 rfl ?_
      refine ab_callS C (k := 0) (n := 0) (rest := [.int v_22, .ref (G.1 + 106)]) [.int x3, .int y6] cl_X8_63 (mt_X8_has  hw f) ⟨rfl, rfl, Nat.le_of_ble_eq_true rfl, Nat.le_of_ble_eq_true rfl, Nat.zero_le _, Nat.zero_le _⟩ rfl rfl (Nat.le_of_ble_eq_true rfl) dX8_comes_79 (ab_kp (k := 0) (n := 0) (fun v_23 f => ?_))
      refine ab_if_eq C (tgt := 89) dX8_comes_82 (by decide) (fun c_24 => ?_) (fun c_24 => ?_)
      · have f := f.1 c_24
        refine ab_iconst C (v := (0 : Int32)) dX8_comes_89 (by decide) ?_
        obtain ⟨c_25, f⟩ := f
        refine ab_iast C (by rw [kd_106]; decide) (wf_lt hw kd_106 rfl) (wf_len hw kd_106 rfl rfl (by decide)) c_25 (j := v_22.toNatClampNeg) rfl dX8_comes_90 (fun h_26 e_27 => ?_)
        have f := f h_26 e_27
        have hw_28 := wf_si e_27 hw
        refine ab_aload_n C 0 dX8_comes_91 rfl rfl ?_
        refine ab_getR C (q := 106) fl_X8_7 rfl kd_105 (wf_lt hw_28 kd_105 rfl) (wr_8_0 hw_28) dX8_comes_92 ?_
        refine ab_iload_n C 1 dX8_comes_95 rfl rfl ?_
        refine ab_bipush C (v := (11 : Int32)) dX8_comes_96 (by decide) ?_
        refine ab_iload C 3 dX8_comes_98 rfl ?_
        refine ab_iadd C dX8_comes_100 ?_
        refine ab_callS C (k := 0) (n := 0) (rest := [.ref (G.1 + 106)]) [.int x1, .int ((11 : Int32) + y6)] cl_X8_56 (mt_X8_at  hw_28 f) ⟨rfl, rfl, Nat.le_of_ble_eq_true rfl, Nat.le_of_ble_eq_true rfl, Nat.zero_le _, Nat.zero_le _⟩ rfl rfl (Nat.le_of_ble_eq_true rfl) dX8_comes_101 (ab_kp (k := 0) (n := 0) (fun v_29 f => ?_))
        refine ab_iconst C (v := (0 : Int32)) dX8_comes_104 (by decide) ?_
        obtain ⟨c_30, f⟩ := f
        refine ab_iast C (by rw [kd_106]; decide) (wf_lt hw_28 kd_106 rfl) (wf_len hw_28 kd_106 rfl rfl (by decide)) c_30 (j := v_29.toNatClampNeg) rfl dX8_comes_105 (fun h_31 e_32 => ?_)
        have f := f h_31 e_32
        have hw_33 := wf_si e_32 hw_28
        refine ab_iinc C (lv' := [(6, .int (y6 + (1 : Int32))), (0, .ref (G.1 + 105)), (1, .int x1), (3, .int x3)]) 3 (v := (y6 + (1 : Int32))) dX8_comes_106 rfl rfl (by decide) rfl ?_
        refine ab_goto C (tgt := 57) dX8_comes_109 (by decide) ?_
        refine ab_sub (lv' := [(0, .ref (G.1 + 105)), (1, .int x1), (3, .int x3), (6, .int (y6 + (1 : Int32)))]) [1, 2, 3, 0] rfl ?_
        exact ih (y6 + (1 : Int32)) h_31  hw_33 f
      · have f := f.2 c_24
        refine ab_iconst C (v := (1 : Int32)) dX8_comes_85 (by decide) ?_
        refine ab_goto C (tgt := 90) dX8_comes_86 (by decide) ?_
        obtain ⟨c_34, f⟩ := f
        refine ab_iast C (by rw [kd_106]; decide) (wf_lt hw kd_106 rfl) (wf_len hw kd_106 rfl rfl (by decide)) c_34 (j := v_22.toNatClampNeg) rfl dX8_comes_90 (fun h_35 e_36 => ?_)
        have f := f h_35 e_36
        have hw_37 := wf_si e_36 hw
        refine ab_aload_n C 0 dX8_comes_91 rfl rfl ?_
        refine ab_getR C (q := 106) fl_X8_7 rfl kd_105 (wf_lt hw_37 kd_105 rfl) (wr_8_0 hw_37) dX8_comes_92 ?_
        refine ab_iload_n C 1 dX8_comes_95 rfl rfl ?_
        refine ab_bipush C (v := (11 : Int32)) dX8_comes_96 (by decide) ?_
        refine ab_iload C 3 dX8_comes_98 rfl ?_
        refine ab_iadd C dX8_comes_100 ?_
        refine ab_callS C (k := 0) (n := 0) (rest := [.ref (G.1 + 106)]) [.int x1, .int ((11 : Int32) + y6)] cl_X8_56 (mt_X8_at  hw_37 f) ⟨rfl, rfl, Nat.le_of_ble_eq_true rfl, Nat.le_of_ble_eq_true rfl, Nat.zero_le _, Nat.zero_le _⟩ rfl rfl (Nat.le_of_ble_eq_true rfl) dX8_comes_101 (ab_kp (k := 0) (n := 0) (fun v_38 f => ?_))
        refine ab_iconst C (v := (0 : Int32)) dX8_comes_104 (by decide) ?_
        obtain ⟨c_39, f⟩ := f
        refine ab_iast C (by rw [kd_106]; decide) (wf_lt hw_37 kd_106 rfl) (wf_len hw_37 kd_106 rfl rfl (by decide)) c_39 (j := v_38.toNatClampNeg) rfl dX8_comes_105 (fun h_40 e_41 => ?_)
        have f := f h_40 e_41
        have hw_42 := wf_si e_41 hw_37
        refine ab_iinc C (lv' := [(6, .int (y6 + (1 : Int32))), (0, .ref (G.1 + 105)), (1, .int x1), (3, .int x3)]) 3 (v := (y6 + (1 : Int32))) dX8_comes_106 rfl rfl (by decide) rfl ?_
        refine ab_goto C (tgt := 57) dX8_comes_109 (by decide) ?_
        refine ab_sub (lv' := [(0, .ref (G.1 + 105)), (1, .int x1), (3, .int x3), (6, .int (y6 + (1 : Int32)))]) [1, 2, 3, 0] rfl ?_
        exact ih (y6 + (1 : Int32)) h_40  hw_42 f
def wp_X8_comes (x1 : Int32) (x2 : Int32) (x3 : Int32) (x4 : Int32) (x5 : Int32) (h : hp_T) (Q : hp_T → Prop) : Prop :=
  wp_X8_at x1 (0 : Int32) h (fun v_1 => (vp_in v_1 357) ∧ (∀ h_3, h_3 = hp_si h 106 v_1.toNatClampNeg (x2 / (10 : Int32)) → wp_X8_at x1 (1 : Int32) h_3 (fun v_6 => (vp_in v_6 357) ∧ (∀ h_8, h_8 = hp_si h_3 106 v_6.toNatClampNeg (x2 - x2 / (10 : Int32) * (10 : Int32)) → wp_X8_at x1 (2 : Int32) h_8 (fun v_11 => (vp_in v_11 357) ∧ (∀ h_13, h_13 = hp_si h_8 106 v_11.toNatClampNeg x5 → wp_X8_at x1 (3 : Int32) h_13 (fun v_16 => (vp_in v_16 357) ∧ (∀ h_18, h_18 = hp_si h_13 106 v_16.toNatClampNeg (x3 ||| x4) → (∃ n0, wp_X8_comes_L57 x1 x2 x3 x4 x5 Q  n0 (0 : Int32) h_18)))))))))
set_option maxRecDepth 100000 in
set_option maxHeartbeats 4000000 in
theorem mt_X8_comes {l : Launch} {G : ab_G} {x1 : Int32} {x2 : Int32} {x3 : Int32} {x4 : Int32} {x5 : Int32} {h : hp_T} {Q : hp_T → Prop} (hw : wf h) (f : wp_X8_comes x1 x2 x3 x4 x5 h Q) : ab_M l G yX8_comes cX8_comes 7 none rm_X8_comes 0 0 [.ref (G.1 + 105), .int x1, .int x2, .int x3, .int x4, .int x5] h (po_v Q) := by
  refine ab_intro (own := RX8) (nm := "comes") rfl rfl rfl (Nat.le_of_ble_eq_true rfl) (fun F C => ?_)
  show ab_W l G F 7 (ab_MQ G F (po_v Q) 0 0) 0 0 h [(0, .ref (G.1 + 105)), (1, .int x1), (2, .int x2), (3, .int x3), (4, .int x4), (5, .int x5)] [] 0
  unfold wp_X8_comes at f
  refine ab_aload_n C 0 dX8_comes_0 rfl rfl ?_
  refine ab_getR C (q := 106) fl_X8_7 rfl kd_105 (wf_lt hw kd_105 rfl) (wr_8_0 hw) dX8_comes_1 ?_
  refine ab_iload_n C 1 dX8_comes_4 rfl rfl ?_
  refine ab_iconst C (v := (0 : Int32)) dX8_comes_5 (by decide) ?_
  refine ab_callS C (k := 0) (n := 0) (rest := [.ref (G.1 + 106)]) [.int x1, .int (0 : Int32)] cl_X8_56 (mt_X8_at  hw f) ⟨rfl, rfl, Nat.le_of_ble_eq_true rfl, Nat.le_of_ble_eq_true rfl, Nat.zero_le _, Nat.zero_le _⟩ rfl rfl (Nat.le_of_ble_eq_true rfl) dX8_comes_6 (ab_kp (k := 0) (n := 0) (fun v_1 f => ?_))
  refine ab_iload_n C 2 dX8_comes_9 rfl rfl ?_
  refine ab_bipush C (v := (10 : Int32)) dX8_comes_10 (by decide) ?_
  refine ab_idiv C dX8_comes_12 (by decide) ?_
  obtain ⟨c_2, f⟩ := f
  refine ab_iast C (by rw [kd_106]; decide) (wf_lt hw kd_106 rfl) (wf_len hw kd_106 rfl rfl (by decide)) c_2 (j := v_1.toNatClampNeg) rfl dX8_comes_13 (fun h_3 e_4 => ?_)
  have f := f h_3 e_4
  have hw_5 := wf_si e_4 hw
  refine ab_aload_n C 0 dX8_comes_14 rfl rfl ?_
  refine ab_getR C (q := 106) fl_X8_7 rfl kd_105 (wf_lt hw_5 kd_105 rfl) (wr_8_0 hw_5) dX8_comes_15 ?_
  refine ab_iload_n C 1 dX8_comes_18 rfl rfl ?_
  refine ab_iconst C (v := (1 : Int32)) dX8_comes_19 (by decide) ?_
  refine ab_callS C (k := 0) (n := 0) (rest := [.ref (G.1 + 106)]) [.int x1, .int (1 : Int32)] cl_X8_56 (mt_X8_at  hw_5 f) ⟨rfl, rfl, Nat.le_of_ble_eq_true rfl, Nat.le_of_ble_eq_true rfl, Nat.zero_le _, Nat.zero_le _⟩ rfl rfl (Nat.le_of_ble_eq_true rfl) dX8_comes_20 (ab_kp (k := 0) (n := 0) (fun v_6 f => ?_))
  refine ab_iload_n C 2 dX8_comes_23 rfl rfl ?_
  refine ab_bipush C (v := (10 : Int32)) dX8_comes_24 (by decide) ?_
  refine ab_irem C dX8_comes_26 (by decide) ?_
  obtain ⟨c_7, f⟩ := f
  refine ab_iast C (by rw [kd_106]; decide) (wf_lt hw_5 kd_106 rfl) (wf_len hw_5 kd_106 rfl rfl (by decide)) c_7 (j := v_6.toNatClampNeg) rfl dX8_comes_27 (fun h_8 e_9 => ?_)
  have f := f h_8 e_9
  have hw_10 := wf_si e_9 hw_5
  refine ab_aload_n C 0 dX8_comes_28 rfl rfl ?_
  refine ab_getR C (q := 106) fl_X8_7 rfl kd_105 (wf_lt hw_10 kd_105 rfl) (wr_8_0 hw_10) dX8_comes_29 ?_
  refine ab_iload_n C 1 dX8_comes_32 rfl rfl ?_
  refine ab_iconst C (v := (2 : Int32)) dX8_comes_33 (by decide) ?_
  refine ab_callS C (k := 0) (n := 0) (rest := [.ref (G.1 + 106)]) [.int x1, .int (2 : Int32)] cl_X8_56 (mt_X8_at  hw_10 f) ⟨rfl, rfl, Nat.le_of_ble_eq_true rfl, Nat.le_of_ble_eq_true rfl, Nat.zero_le _, Nat.zero_le _⟩ rfl rfl (Nat.le_of_ble_eq_true rfl) dX8_comes_34 (ab_kp (k := 0) (n := 0) (fun v_11 f => ?_))
  refine ab_iload C 5 dX8_comes_37 rfl ?_
  obtain ⟨c_12, f⟩ := f
  refine ab_iast C (by rw [kd_106]; decide) (wf_lt hw_10 kd_106 rfl) (wf_len hw_10 kd_106 rfl rfl (by decide)) c_12 (j := v_11.toNatClampNeg) rfl dX8_comes_39 (fun h_13 e_14 => ?_)
  have f := f h_13 e_14
  have hw_15 := wf_si e_14 hw_10
  refine ab_aload_n C 0 dX8_comes_40 rfl rfl ?_
  refine ab_getR C (q := 106) fl_X8_7 rfl kd_105 (wf_lt hw_15 kd_105 rfl) (wr_8_0 hw_15) dX8_comes_41 ?_
  refine ab_iload_n C 1 dX8_comes_44 rfl rfl ?_
  refine ab_iconst C (v := (3 : Int32)) dX8_comes_45 (by decide) ?_
  refine ab_callS C (k := 0) (n := 0) (rest := [.ref (G.1 + 106)]) [.int x1, .int (3 : Int32)] cl_X8_56 (mt_X8_at  hw_15 f) ⟨rfl, rfl, Nat.le_of_ble_eq_true rfl, Nat.le_of_ble_eq_true rfl, Nat.zero_le _, Nat.zero_le _⟩ rfl rfl (Nat.le_of_ble_eq_true rfl) dX8_comes_46 (ab_kp (k := 0) (n := 0) (fun v_16 f => ?_))
  refine ab_iload_n C 3 dX8_comes_49 rfl rfl ?_
  refine ab_iload C 4 dX8_comes_50 rfl ?_
  refine ab_ior C dX8_comes_52 ?_
  obtain ⟨c_17, f⟩ := f
  refine ab_iast C (by rw [kd_106]; decide) (wf_lt hw_15 kd_106 rfl) (wf_len hw_15 kd_106 rfl rfl (by decide)) c_17 (j := v_16.toNatClampNeg) rfl dX8_comes_53 (fun h_18 e_19 => ?_)
  have f := f h_18 e_19
  have hw_20 := wf_si e_19 hw_15
  refine ab_iconst C (v := (0 : Int32)) dX8_comes_54 (by decide) ?_
  refine ab_istore C (lv' := [(6, .int (0 : Int32)), (0, .ref (G.1 + 105)), (1, .int x1), (2, .int x2), (3, .int x3), (4, .int x4), (5, .int x5)]) dX8_comes_55 (by decide) rfl ?_
  obtain ⟨n0, f⟩ := f
  refine ab_sub (lv' := [(0, .ref (G.1 + 105)), (1, .int x1), (3, .int x3), (6, .int (0 : Int32))]) [1, 2, 4, 0] rfl ?_
  exact bt_X8_comes_L57 C    n0 (0 : Int32) h_18  hw_20 f
/-! X8_isMan -/
def rm_X8_isMan : Room := { frames := 3, cells := 0, slots := 0, locals := 125 }
def wp_X8_isMan (x0 : Int32) (h : hp_T) (Q : Int32 → Prop) : Prop :=
  wp_X8_in x0.toInt64 (0 : Int64) (69 : Int64) h (fun v_1 => (bo_ok v_1) ∧ (Q v_1))
set_option maxRecDepth 100000 in
set_option maxHeartbeats 4000000 in
theorem mt_X8_isMan {l : Launch} {G : ab_G} {x0 : Int32} {h : hp_T} {Q : Int32 → Prop} (hw : wf h) (f : wp_X8_isMan x0 h Q) : ab_M l G yX8_isMan cX8_isMan 1 (some .boolean) rm_X8_isMan 0 0 [.int x0] h (po_p h Q) := by
  refine ab_intro (own := RX8) (nm := "isMan") rfl rfl rfl (Nat.le_of_ble_eq_true rfl) (fun F C => ?_)
  show ab_W l G F 1 (ab_MQ G F (po_p h Q) 0 0) 0 0 h [(0, .int x0)] [] 0
  unfold wp_X8_isMan at f
  refine ab_iload_n C 0 dX8_isMan_0 rfl rfl ?_
  refine ab_i2l C dX8_isMan_1 ?_
  refine ab_lconst C (v := (0 : Int64)) dX8_isMan_2 (by decide) ?_
  refine ab_ldc2 C kw_t817 dX8_isMan_3 ?_
  refine ab_callS C (k := 0) (n := 0) (rest := []) [.long x0.toInt64, .long (0 : Int64), .long (69 : Int64)] cl_X8_44 (mt_X8_in  hw f) ⟨rfl, rfl, Nat.le_of_ble_eq_true rfl, Nat.le_of_ble_eq_true rfl, Nat.zero_le _, Nat.zero_le _⟩ rfl rfl (Nat.le_of_ble_eq_true rfl) dX8_isMan_6 (ab_kp (k := 0) (n := 0) (fun v_1 f => ?_))
  obtain ⟨c_2, f⟩ := f
  exact ab_zret C dX8_isMan_9 (bo_nar c_2) ⟨rfl, _, rfl, f⟩
/-! X8_bunk -/
def rm_X8_bunk : Room := { frames := 4, cells := 0, slots := 0, locals := 147 }
def wp_X8_bunk (x1 : Int32) (h : hp_T) (Q : Int32 → hp_T → Prop) : Prop :=
  wp_X8_isMan x1 h (fun v_1 => ((v_1 = 0 → wp_X8_errs (-1000000001 : Int32) h (fun v_17 h_18 => (Q v_17 h_18))) ∧ (¬ (v_1 = 0) → (((hp_i h 106 0) = (6 : Int32) → wp_X8_errs (-1000000004 : Int32) h (fun v_14 h_15 => (Q v_14 h_15))) ∧ (¬ ((hp_i h 106 0) = (6 : Int32)) → wp_X8_comes (hp_i h 106 0) x1 (0 : Int32) (0 : Int32) (-1 : Int32) h (fun h_4 => wp_X8_at (hp_i h 106 0) (4 : Int32) h_4 (fun v_6 => (vp_in v_6 357) ∧ (∀ h_8, h_8 = hp_si h_4 106 v_6.toNatClampNeg (-1 : Int32) → (∀ h_11, h_11 = hp_si h_8 106 0 ((hp_i h_8 106 0) + (1 : Int32)) → (Q (hp_i h 106 0) h_11))))))))))
set_option maxRecDepth 100000 in
set_option maxHeartbeats 4000000 in
theorem mt_X8_bunk {l : Launch} {G : ab_G} {x1 : Int32} {h : hp_T} {Q : Int32 → hp_T → Prop} (hw : wf h) (f : wp_X8_bunk x1 h Q) : ab_M l G yX8_bunk cX8_bunk 3 (some .int) rm_X8_bunk 0 0 [.ref (G.1 + 105), .int x1] h (po_h Q) := by
  refine ab_intro (own := RX8) (nm := "bunk") rfl rfl rfl (Nat.le_of_ble_eq_true rfl) (fun F C => ?_)
  show ab_W l G F 3 (ab_MQ G F (po_h Q) 0 0) 0 0 h [(0, .ref (G.1 + 105)), (1, .int x1)] [] 0
  unfold wp_X8_bunk at f
  refine ab_iload_n C 1 dX8_bunk_0 rfl rfl ?_
  refine ab_callS C (k := 0) (n := 0) (rest := []) [.int x1] cl_X8_80 (mt_X8_isMan  hw f) ⟨rfl, rfl, Nat.le_of_ble_eq_true rfl, Nat.le_of_ble_eq_true rfl, Nat.zero_le _, Nat.zero_le _⟩ rfl rfl (Nat.le_of_ble_eq_true rfl) dX8_bunk_1 (ab_kp (k := 0) (n := 0) (fun v_1 f => ?_))
  refine ab_if_ne C (tgt := 14) dX8_bunk_4 (by decide) (fun c_2 => ?_) (fun c_2 => ?_)
  · have f := f.2 c_2
    refine ab_aload_n C 0 dX8_bunk_14 rfl rfl ?_
    refine ab_getR C (q := 106) fl_X8_7 rfl kd_105 (wf_lt hw kd_105 rfl) (wr_8_0 hw) dX8_bunk_15 ?_
    refine ab_iconst C (v := (0 : Int32)) dX8_bunk_18 (by decide) ?_
    refine ab_iald C (by rw [kd_106]; decide) (wf_lt hw kd_106 rfl) (wf_len hw kd_106 rfl rfl (by decide)) (vp_lit (by decide)) (j := 0) (by decide) dX8_bunk_19 ?_
    refine ab_bipush C (v := (6 : Int32)) dX8_bunk_20 (by decide) ?_
    refine ab_icmp_ne C (tgt := 32) dX8_bunk_22 (by decide) (fun c_3 => ?_) (fun c_3 => ?_)
    · have f := f.2 c_3
      refine ab_aload_n C 0 dX8_bunk_32 rfl rfl ?_
      refine ab_getR C (q := 106) fl_X8_7 rfl kd_105 (wf_lt hw kd_105 rfl) (wr_8_0 hw) dX8_bunk_33 ?_
      refine ab_iconst C (v := (0 : Int32)) dX8_bunk_36 (by decide) ?_
      refine ab_iald C (by rw [kd_106]; decide) (wf_lt hw kd_106 rfl) (wf_len hw kd_106 rfl rfl (by decide)) (vp_lit (by decide)) (j := 0) (by decide) dX8_bunk_37 ?_
      refine ab_istore_n C (lv' := [(2, .int (hp_i h 106 0)), (0, .ref (G.1 + 105)), (1, .int x1)]) dX8_bunk_38 rfl (by decide) rfl ?_
      refine ab_aload_n C 1 dX8_bunk_39 rfl rfl ?_
      refine ab_iload_n C 0 dX8_bunk_40 rfl rfl ?_
      refine ab_iload_n C 2 dX8_bunk_41 rfl rfl ?_
      refine ab_iconst C (v := (0 : Int32)) dX8_bunk_42 (by decide) ?_
      refine ab_iconst C (v := (0 : Int32)) dX8_bunk_43 (by decide) ?_
      refine ab_iconst C (v := (-1 : Int32)) dX8_bunk_44 (by decide) ?_
      refine ab_callV C (k := 0) (n := 0) (rest := []) [.int (hp_i h 106 0), .int x1, .int (0 : Int32), .int (0 : Int32), .int (-1 : Int32)] cl_X8_88 (mt_X8_comes  hw f) rfl (by decide) kd_105 (wf_lt hw kd_105 rfl) ⟨rfl, rfl, Nat.le_of_ble_eq_true rfl, Nat.le_of_ble_eq_true rfl, Nat.zero_le _, Nat.zero_le _⟩ rfl rfl (Nat.le_of_ble_eq_true rfl) dX8_bunk_45 (ab_kv (k := 0) (n := 0) (fun h_4 hw_5 f => ?_))
      refine ab_aload_n C 1 dX8_bunk_48 rfl rfl ?_
      refine ab_getR C (q := 106) fl_X8_7 rfl kd_105 (wf_lt hw_5 kd_105 rfl) (wr_8_0 hw_5) dX8_bunk_49 ?_
      refine ab_iload_n C 0 dX8_bunk_52 rfl rfl ?_
      refine ab_iconst C (v := (4 : Int32)) dX8_bunk_53 (by decide) ?_
      refine ab_callS C (k := 0) (n := 0) (rest := [.ref (G.1 + 106)]) [.int (hp_i h 106 0), .int (4 : Int32)] cl_X8_56 (mt_X8_at  hw_5 f) ⟨rfl, rfl, Nat.le_of_ble_eq_true rfl, Nat.le_of_ble_eq_true rfl, Nat.zero_le _, Nat.zero_le _⟩ rfl rfl (Nat.le_of_ble_eq_true rfl) dX8_bunk_54 (ab_kp (k := 0) (n := 0) (fun v_6 f => ?_))
      refine ab_iconst C (v := (-1 : Int32)) dX8_bunk_57 (by decide) ?_
      obtain ⟨c_7, f⟩ := f
      refine ab_iast C (by rw [kd_106]; decide) (wf_lt hw_5 kd_106 rfl) (wf_len hw_5 kd_106 rfl rfl (by decide)) c_7 (j := v_6.toNatClampNeg) rfl dX8_bunk_58 (fun h_8 e_9 => ?_)
      have f := f h_8 e_9
      have hw_10 := wf_si e_9 hw_5
      refine ab_aload_n C 1 dX8_bunk_59 rfl rfl ?_
      refine ab_getR C (q := 106) fl_X8_7 rfl kd_105 (wf_lt hw_10 kd_105 rfl) (wr_8_0 hw_10) dX8_bunk_60 ?_
      refine ab_iconst C (v := (0 : Int32)) dX8_bunk_63 (by decide) ?_
      refine ab_dup2 C dX8_bunk_64 rfl rfl ?_
      refine ab_iald C (by rw [kd_106]; decide) (wf_lt hw_10 kd_106 rfl) (wf_len hw_10 kd_106 rfl rfl (by decide)) (vp_lit (by decide)) (j := 0) (by decide) dX8_bunk_65 ?_
      refine ab_iconst C (v := (1 : Int32)) dX8_bunk_66 (by decide) ?_
      refine ab_iadd C dX8_bunk_67 ?_
      refine ab_iast C (by rw [kd_106]; decide) (wf_lt hw_10 kd_106 rfl) (wf_len hw_10 kd_106 rfl rfl (by decide)) (vp_lit (by decide)) (j := 0) (by decide) dX8_bunk_68 (fun h_11 e_12 => ?_)
      have f := f h_11 e_12
      have hw_13 := wf_si e_12 hw_10
      refine ab_iload_n C 0 dX8_bunk_69 rfl rfl ?_
      exact ab_iret C dX8_bunk_70 ⟨hw_13, _, rfl, f⟩
    · have f := f.1 c_3
      refine ab_aload_n C 0 dX8_bunk_25 rfl rfl ?_
      refine ab_ldc C kw_t826 dX8_bunk_26 ?_
      refine ab_callV C (k := 0) (n := 0) (rest := []) [.int (-1000000004 : Int32)] cl_X8_84 (mt_X8_errs  hw f) rfl (by decide) kd_105 (wf_lt hw kd_105 rfl) ⟨rfl, rfl, Nat.le_of_ble_eq_true rfl, Nat.le_of_ble_eq_true rfl, Nat.zero_le _, Nat.zero_le _⟩ rfl rfl (Nat.le_of_ble_eq_true rfl) dX8_bunk_28 (ab_kh (k := 0) (n := 0) (fun v_14 h_15 hw_16 f => ?_))
      exact ab_iret C dX8_bunk_31 ⟨hw_16, _, rfl, f⟩
  · have f := f.1 c_2
    refine ab_aload_n C 0 dX8_bunk_7 rfl rfl ?_
    refine ab_ldc C kw_t821 dX8_bunk_8 ?_
    refine ab_callV C (k := 0) (n := 0) (rest := []) [.int (-1000000001 : Int32)] cl_X8_84 (mt_X8_errs  hw f) rfl (by decide) kd_105 (wf_lt hw kd_105 rfl) ⟨rfl, rfl, Nat.le_of_ble_eq_true rfl, Nat.le_of_ble_eq_true rfl, Nat.zero_le _, Nat.zero_le _⟩ rfl rfl (Nat.le_of_ble_eq_true rfl) dX8_bunk_10 (ab_kh (k := 0) (n := 0) (fun v_17 h_18 hw_19 f => ?_))
    exact ab_iret C dX8_bunk_13 ⟨hw_19, _, rfl, f⟩
/-! X8_held -/
def rm_X8_held : Room := { frames := 2, cells := 0, slots := 0, locals := 100 }
def wp_X8_held (x0 : Int32) (x1 : Int32) (x2 : Int32) (h : hp_T) (Q : Int32 → Prop) : Prop :=
  ((x1 ≤ x0 → ((x0 ≤ x2 → (Q x0)) ∧ (¬ (x0 ≤ x2) → (Q x2)))) ∧ (¬ (x1 ≤ x0) → (Q x1)))
set_option maxRecDepth 100000 in
set_option maxHeartbeats 4000000 in
theorem mt_X8_held {l : Launch} {G : ab_G} {x0 : Int32} {x1 : Int32} {x2 : Int32} {h : hp_T} {Q : Int32 → Prop} (hw : wf h) (f : wp_X8_held x0 x1 x2 h Q) : ab_M l G yX8_held cX8_held 3 (some .int) rm_X8_held 0 0 [.int x0, .int x1, .int x2] h (po_p h Q) := by
  refine ab_intro (own := RX8) (nm := "held") rfl rfl rfl (Nat.le_of_ble_eq_true rfl) (fun F C => ?_)
  show ab_W l G F 3 (ab_MQ G F (po_p h Q) 0 0) 0 0 h [(0, .int x0), (1, .int x1), (2, .int x2)] [] 0
  unfold wp_X8_held at f
  refine ab_iload_n C 0 dX8_held_0 rfl rfl ?_
  refine ab_iload_n C 1 dX8_held_1 rfl rfl ?_
  refine ab_icmp_ge C (tgt := 9) dX8_held_2 (by decide) (fun c_1 => ?_) (fun c_1 => ?_)
  · have f := f.1 c_1
    refine ab_iload_n C 0 dX8_held_9 rfl rfl ?_
    refine ab_iload_n C 2 dX8_held_10 rfl rfl ?_
    refine ab_icmp_le C (tgt := 18) dX8_held_11 (by decide) (fun c_2 => ?_) (fun c_2 => ?_)
    · have f := f.1 c_2
      refine ab_iload_n C 0 dX8_held_18 rfl rfl ?_
      exact ab_iret C dX8_held_19 ⟨rfl, _, rfl, f⟩
    · have f := f.2 c_2
      refine ab_iload_n C 2 dX8_held_14 rfl rfl ?_
      refine ab_goto C (tgt := 19) dX8_held_15 (by decide) ?_
      exact ab_iret C dX8_held_19 ⟨rfl, _, rfl, f⟩
  · have f := f.2 c_1
    refine ab_iload_n C 1 dX8_held_5 rfl rfl ?_
    refine ab_goto C (tgt := 19) dX8_held_6 (by decide) ?_
    exact ab_iret C dX8_held_19 ⟨rfl, _, rfl, f⟩
/-! X8_ones -/
def rm_X8_ones : Room := { frames := 2, cells := 0, slots := 0, locals := 100 }
def wp_X8_ones_L4 (x0 : Int32) (h : hp_T) (Q : Int32 → Prop) : Nat → Int32 → Int32 → Prop
  | 0 => fun _ _ => False
  | nn + 1 => fun y1 y2 => ((y2 = 0 → (Q y1)) ∧ (¬ (y2 = 0) → (wp_X8_ones_L4 x0 h Q nn) (y1 + (1 : Int32)) (y2 &&& (y2 - (1 : Int32)))))
set_option maxRecDepth 100000 in
set_option maxHeartbeats 4000000 in
theorem bt_X8_ones_L4 {l : Launch} {G : ab_G} {F : ab_F} {x0 : Int32} {h : hp_T} {Q : Int32 → Prop}  (C : ab_C G F rm_X8_ones cX8_ones 3 RX8 (some .int) "ones")  (hw : wf h)  : ∀ (nn : Nat) (y1 : Int32) (y2 : Int32), wp_X8_ones_L4 x0 h Q nn y1 y2 → ab_W l G F 3 (ab_MQ G F (po_p h Q) 0 0) 0 0 h [(1, .int y1), (2, .int y2)] [] 4 := by
  intro nn
  induction nn with
  | zero =>
    intro y1 y2 f
    exact absurd f id
  | succ nn ih =>
    intro y1 y2 f
    unfold wp_X8_ones_L4 at f
    refine ab_iload_n C 1 dX8_ones_4 rfl rfl ?_
    refine ab_if_eq C (tgt := 20) dX8_ones_5 (by decide) (fun c_1 => ?_) (fun c_1 => ?_)
    · have f := f.1 c_1
      refine ab_iload_n C 0 dX8_ones_20 rfl rfl ?_
      exact ab_iret C dX8_ones_21 ⟨rfl, _, rfl, f⟩
    · have f := f.2 c_1
      refine ab_iinc C (lv' := [(1, .int (y1 + (1 : Int32))), (2, .int y2)]) 0 (v := (y1 + (1 : Int32))) dX8_ones_8 rfl rfl (by decide) rfl ?_
      refine ab_iload_n C 1 dX8_ones_11 rfl rfl ?_
      refine ab_iload_n C 1 dX8_ones_12 rfl rfl ?_
      refine ab_iconst C (v := (1 : Int32)) dX8_ones_13 (by decide) ?_
      refine ab_isub C dX8_ones_14 ?_
      refine ab_iand C dX8_ones_15 ?_
      refine ab_istore_n C (lv' := [(2, .int (y2 &&& (y2 - (1 : Int32)))), (1, .int (y1 + (1 : Int32)))]) dX8_ones_16 rfl (by decide) rfl ?_
      refine ab_goto C (tgt := 4) dX8_ones_17 (by decide) ?_
      refine ab_sub (lv' := [(1, .int (y1 + (1 : Int32))), (2, .int (y2 &&& (y2 - (1 : Int32))))]) [1, 0] rfl ?_
      exact ih (y1 + (1 : Int32)) (y2 &&& (y2 - (1 : Int32)))   f
def wp_X8_ones (x0 : Int32) (h : hp_T) (Q : Int32 → Prop) : Prop :=
  (∃ n0, wp_X8_ones_L4 x0 h Q  n0 (0 : Int32) x0)
set_option maxRecDepth 100000 in
set_option maxHeartbeats 4000000 in
theorem mt_X8_ones {l : Launch} {G : ab_G} {x0 : Int32} {h : hp_T} {Q : Int32 → Prop} (hw : wf h) (f : wp_X8_ones x0 h Q) : ab_M l G yX8_ones cX8_ones 3 (some .int) rm_X8_ones 0 0 [.int x0] h (po_p h Q) := by
  refine ab_intro (own := RX8) (nm := "ones") rfl rfl rfl (Nat.le_of_ble_eq_true rfl) (fun F C => ?_)
  show ab_W l G F 3 (ab_MQ G F (po_p h Q) 0 0) 0 0 h [(0, .int x0)] [] 0
  unfold wp_X8_ones at f
  refine ab_iconst C (v := (0 : Int32)) dX8_ones_0 (by decide) ?_
  refine ab_istore_n C (lv' := [(1, .int (0 : Int32)), (0, .int x0)]) dX8_ones_1 rfl (by decide) rfl ?_
  refine ab_iload_n C 1 dX8_ones_2 rfl rfl ?_
  refine ab_istore_n C (lv' := [(2, .int x0), (1, .int (0 : Int32)), (0, .int x0)]) dX8_ones_3 rfl (by decide) rfl ?_
  obtain ⟨n0, f⟩ := f
  refine ab_sub (lv' := [(1, .int (0 : Int32)), (2, .int x0)]) [1, 0] rfl ?_
  exact bt_X8_ones_L4 C  hw  n0 (0 : Int32) x0   f
/-! X8_by -/
def rm_X8_by : Room := { frames := 2, cells := 0, slots := 0, locals := 100 }
def wp_X8_by (x0 : Int32) (x1 : Int32) (x2 : Int32) (h : hp_T) (Q : Int32 → Prop) : Prop :=
  ((x0 = (-19 : Int32) → ((x2 = 0 → (Q (0 : Int32))) ∧ (¬ (x2 = 0) → ((x2 = (-1 : Int32) → (Q ((0 : Int32) - x1))) ∧ (¬ (x2 = (-1 : Int32)) → (¬ x2 = 0) ∧ (Q (x1 / x2))))))) ∧ (¬ (x0 = (-19 : Int32)) → ((x0 = (-18 : Int32) → (Q (x1 * x2))) ∧ (¬ (x0 = (-18 : Int32)) → ((x0 = (-17 : Int32) → (Q (x1 - x2))) ∧ (¬ (x0 = (-17 : Int32)) → ((x0 = (-16 : Int32) → (Q (x1 + x2))) ∧ (¬ (x0 = (-16 : Int32)) → ((x0 = (-15 : Int32) → ((x1 ≤ x2 → (Q (0 : Int32))) ∧ (¬ (x1 ≤ x2) → (Q (1 : Int32))))) ∧ (¬ (x0 = (-15 : Int32)) → ((x0 = (-14 : Int32) → ((x1 = x2 → (Q (1 : Int32))) ∧ (¬ (x1 = x2) → (Q (0 : Int32))))) ∧ (¬ (x0 = (-14 : Int32)) → ((x0 = (-13 : Int32) → ((x2 ≤ x1 → (Q (0 : Int32))) ∧ (¬ (x2 ≤ x1) → (Q (1 : Int32))))) ∧ (¬ (x0 = (-13 : Int32)) → ((x0 = (-12 : Int32) → ((x1 = 0 → (Q (0 : Int32))) ∧ (¬ (x1 = 0) → ((x2 = 0 → (Q (0 : Int32))) ∧ (¬ (x2 = 0) → (Q (1 : Int32))))))) ∧ (¬ (x0 = (-12 : Int32)) → ((x0 = (-11 : Int32) → ((x1 = 0 → ((x2 = 0 → (Q (0 : Int32))) ∧ (¬ (x2 = 0) → (Q (1 : Int32))))) ∧ (¬ (x1 = 0) → (Q (1 : Int32))))) ∧ (¬ (x0 = (-11 : Int32)) → ((x2 = 0 → (Q (0 : Int32))) ∧ (¬ (x2 = 0) → ((x2 = (-1 : Int32) → (Q (0 : Int32))) ∧ (¬ (x2 = (-1 : Int32)) → (¬ x2 = 0) ∧ (Q (x1 - x1 / x2 * x2))))))))))))))))))))))))
set_option maxRecDepth 100000 in
set_option maxHeartbeats 4000000 in
theorem mt_X8_by {l : Launch} {G : ab_G} {x0 : Int32} {x1 : Int32} {x2 : Int32} {h : hp_T} {Q : Int32 → Prop} (hw : wf h) (f : wp_X8_by x0 x1 x2 h Q) : ab_M l G yX8_by cX8_by 3 (some .int) rm_X8_by 0 0 [.int x0, .int x1, .int x2] h (po_p h Q) := by
  refine ab_intro (own := RX8) (nm := "by") rfl rfl rfl (Nat.le_of_ble_eq_true rfl) (fun F C => ?_)
  show ab_W l G F 3 (ab_MQ G F (po_p h Q) 0 0) 0 0 h [(0, .int x0), (1, .int x1), (2, .int x2)] [] 0
  unfold wp_X8_by at f
  refine ab_iload_n C 0 dX8_by_0 rfl rfl ?_
  by_cases c_1 : x0 = (-19 : Int32)
  · have f := f.1 c_1
    refine ab_tabC C (off := 124) (tgt := 125) dX8_by_1 c_1 (by decide) (by decide) (by decide) (by decide) ?_
    refine ab_iload_n C 2 dX8_by_125 rfl rfl ?_
    refine ab_if_ne C (tgt := 133) dX8_by_126 (by decide) (fun c_2 => ?_) (fun c_2 => ?_)
    · have f := f.2 c_2
      refine ab_iload_n C 2 dX8_by_133 rfl rfl ?_
      refine ab_iconst C (v := (-1 : Int32)) dX8_by_134 (by decide) ?_
      refine ab_icmp_ne C (tgt := 144) dX8_by_135 (by decide) (fun c_3 => ?_) (fun c_3 => ?_)
      · have f := f.2 c_3
        refine ab_iload_n C 1 dX8_by_144 rfl rfl ?_
        refine ab_iload_n C 2 dX8_by_145 rfl rfl ?_
        obtain ⟨c_4, f⟩ := f
        refine ab_idiv C dX8_by_146 c_4 ?_
        exact ab_iret C dX8_by_147 ⟨rfl, _, rfl, f⟩
      · have f := f.1 c_3
        refine ab_iconst C (v := (0 : Int32)) dX8_by_138 (by decide) ?_
        refine ab_iload_n C 1 dX8_by_139 rfl rfl ?_
        refine ab_isub C dX8_by_140 ?_
        refine ab_goto C (tgt := 147) dX8_by_141 (by decide) ?_
        exact ab_iret C dX8_by_147 ⟨rfl, _, rfl, f⟩
    · have f := f.1 c_2
      refine ab_iconst C (v := (0 : Int32)) dX8_by_129 (by decide) ?_
      refine ab_goto C (tgt := 147) dX8_by_130 (by decide) ?_
      exact ab_iret C dX8_by_147 ⟨rfl, _, rfl, f⟩
  have f := f.2 c_1
  by_cases c_5 : x0 = (-18 : Int32)
  · have f := f.1 c_5
    refine ab_tabC C (off := 120) (tgt := 121) dX8_by_1 c_5 (by decide) (by decide) (by decide) (by decide) ?_
    refine ab_iload_n C 1 dX8_by_121 rfl rfl ?_
    refine ab_iload_n C 2 dX8_by_122 rfl rfl ?_
    refine ab_imul C dX8_by_123 ?_
    exact ab_iret C dX8_by_124 ⟨rfl, _, rfl, f⟩
  have f := f.2 c_5
  by_cases c_6 : x0 = (-17 : Int32)
  · have f := f.1 c_6
    refine ab_tabC C (off := 116) (tgt := 117) dX8_by_1 c_6 (by decide) (by decide) (by decide) (by decide) ?_
    refine ab_iload_n C 1 dX8_by_117 rfl rfl ?_
    refine ab_iload_n C 2 dX8_by_118 rfl rfl ?_
    refine ab_isub C dX8_by_119 ?_
    exact ab_iret C dX8_by_120 ⟨rfl, _, rfl, f⟩
  have f := f.2 c_6
  by_cases c_7 : x0 = (-16 : Int32)
  · have f := f.1 c_7
    refine ab_tabC C (off := 112) (tgt := 113) dX8_by_1 c_7 (by decide) (by decide) (by decide) (by decide) ?_
    refine ab_iload_n C 1 dX8_by_113 rfl rfl ?_
    refine ab_iload_n C 2 dX8_by_114 rfl rfl ?_
    refine ab_iadd C dX8_by_115 ?_
    exact ab_iret C dX8_by_116 ⟨rfl, _, rfl, f⟩
  have f := f.2 c_7
  by_cases c_8 : x0 = (-15 : Int32)
  · have f := f.1 c_8
    refine ab_tabC C (off := 101) (tgt := 102) dX8_by_1 c_8 (by decide) (by decide) (by decide) (by decide) ?_
    refine ab_iload_n C 1 dX8_by_102 rfl rfl ?_
    refine ab_iload_n C 2 dX8_by_103 rfl rfl ?_
    refine ab_icmp_le C (tgt := 111) dX8_by_104 (by decide) (fun c_9 => ?_) (fun c_9 => ?_)
    · have f := f.1 c_9
      refine ab_iconst C (v := (0 : Int32)) dX8_by_111 (by decide) ?_
      exact ab_iret C dX8_by_112 ⟨rfl, _, rfl, f⟩
    · have f := f.2 c_9
      refine ab_iconst C (v := (1 : Int32)) dX8_by_107 (by decide) ?_
      refine ab_goto C (tgt := 112) dX8_by_108 (by decide) ?_
      exact ab_iret C dX8_by_112 ⟨rfl, _, rfl, f⟩
  have f := f.2 c_8
  by_cases c_10 : x0 = (-14 : Int32)
  · have f := f.1 c_10
    refine ab_tabC C (off := 90) (tgt := 91) dX8_by_1 c_10 (by decide) (by decide) (by decide) (by decide) ?_
    refine ab_iload_n C 1 dX8_by_91 rfl rfl ?_
    refine ab_iload_n C 2 dX8_by_92 rfl rfl ?_
    refine ab_icmp_ne C (tgt := 100) dX8_by_93 (by decide) (fun c_11 => ?_) (fun c_11 => ?_)
    · have f := f.2 c_11
      refine ab_iconst C (v := (0 : Int32)) dX8_by_100 (by decide) ?_
      exact ab_iret C dX8_by_101 ⟨rfl, _, rfl, f⟩
    · have f := f.1 c_11
      refine ab_iconst C (v := (1 : Int32)) dX8_by_96 (by decide) ?_
      refine ab_goto C (tgt := 101) dX8_by_97 (by decide) ?_
      exact ab_iret C dX8_by_101 ⟨rfl, _, rfl, f⟩
  have f := f.2 c_10
  by_cases c_12 : x0 = (-13 : Int32)
  · have f := f.1 c_12
    refine ab_tabC C (off := 79) (tgt := 80) dX8_by_1 c_12 (by decide) (by decide) (by decide) (by decide) ?_
    refine ab_iload_n C 1 dX8_by_80 rfl rfl ?_
    refine ab_iload_n C 2 dX8_by_81 rfl rfl ?_
    refine ab_icmp_ge C (tgt := 89) dX8_by_82 (by decide) (fun c_13 => ?_) (fun c_13 => ?_)
    · have f := f.1 c_13
      refine ab_iconst C (v := (0 : Int32)) dX8_by_89 (by decide) ?_
      exact ab_iret C dX8_by_90 ⟨rfl, _, rfl, f⟩
    · have f := f.2 c_13
      refine ab_iconst C (v := (1 : Int32)) dX8_by_85 (by decide) ?_
      refine ab_goto C (tgt := 90) dX8_by_86 (by decide) ?_
      exact ab_iret C dX8_by_90 ⟨rfl, _, rfl, f⟩
  have f := f.2 c_12
  by_cases c_14 : x0 = (-12 : Int32)
  · have f := f.1 c_14
    refine ab_tabC C (off := 65) (tgt := 66) dX8_by_1 c_14 (by decide) (by decide) (by decide) (by decide) ?_
    refine ab_iload_n C 1 dX8_by_66 rfl rfl ?_
    refine ab_if_eq C (tgt := 78) dX8_by_67 (by decide) (fun c_15 => ?_) (fun c_15 => ?_)
    · have f := f.1 c_15
      refine ab_iconst C (v := (0 : Int32)) dX8_by_78 (by decide) ?_
      exact ab_iret C dX8_by_79 ⟨rfl, _, rfl, f⟩
    · have f := f.2 c_15
      refine ab_iload_n C 2 dX8_by_70 rfl rfl ?_
      refine ab_if_eq C (tgt := 78) dX8_by_71 (by decide) (fun c_16 => ?_) (fun c_16 => ?_)
      · have f := f.1 c_16
        refine ab_iconst C (v := (0 : Int32)) dX8_by_78 (by decide) ?_
        exact ab_iret C dX8_by_79 ⟨rfl, _, rfl, f⟩
      · have f := f.2 c_16
        refine ab_iconst C (v := (1 : Int32)) dX8_by_74 (by decide) ?_
        refine ab_goto C (tgt := 79) dX8_by_75 (by decide) ?_
        exact ab_iret C dX8_by_79 ⟨rfl, _, rfl, f⟩
  have f := f.2 c_14
  by_cases c_17 : x0 = (-11 : Int32)
  · have f := f.1 c_17
    refine ab_tabC C (off := 51) (tgt := 52) dX8_by_1 c_17 (by decide) (by decide) (by decide) (by decide) ?_
    refine ab_iload_n C 1 dX8_by_52 rfl rfl ?_
    refine ab_if_ne C (tgt := 60) dX8_by_53 (by decide) (fun c_18 => ?_) (fun c_18 => ?_)
    · have f := f.2 c_18
      refine ab_iconst C (v := (1 : Int32)) dX8_by_60 (by decide) ?_
      refine ab_goto C (tgt := 65) dX8_by_61 (by decide) ?_
      exact ab_iret C dX8_by_65 ⟨rfl, _, rfl, f⟩
    · have f := f.1 c_18
      refine ab_iload_n C 2 dX8_by_56 rfl rfl ?_
      refine ab_if_eq C (tgt := 64) dX8_by_57 (by decide) (fun c_19 => ?_) (fun c_19 => ?_)
      · have f := f.1 c_19
        refine ab_iconst C (v := (0 : Int32)) dX8_by_64 (by decide) ?_
        exact ab_iret C dX8_by_65 ⟨rfl, _, rfl, f⟩
      · have f := f.2 c_19
        refine ab_iconst C (v := (1 : Int32)) dX8_by_60 (by decide) ?_
        refine ab_goto C (tgt := 65) dX8_by_61 (by decide) ?_
        exact ab_iret C dX8_by_65 ⟨rfl, _, rfl, f⟩
  have f := f.2 c_17
  refine ab_tabOut C (tgt := 148) dX8_by_1 (ab_tout (fun j j1 j2 => ?_)) (by decide) ?_
  · have hh : j = -19 ∨ j = -18 ∨ j = -17 ∨ j = -16 ∨ j = -15 ∨ j = -14 ∨ j = -13 ∨ j = -12 ∨ j = -11 := by omega
    rcases hh with rfl | rfl | rfl | rfl | rfl | rfl | rfl | rfl | rfl
    · exact ab_ne c_1
    · exact ab_ne c_5
    · exact ab_ne c_6
    · exact ab_ne c_7
    · exact ab_ne c_8
    · exact ab_ne c_10
    · exact ab_ne c_12
    · exact ab_ne c_14
    · exact ab_ne c_17
  · skip
    refine ab_iload_n C 2 dX8_by_148 rfl rfl ?_
    refine ab_if_eq C (tgt := 157) dX8_by_149 (by decide) (fun c_20 => ?_) (fun c_20 => ?_)
    · have f := f.1 c_20
      refine ab_iconst C (v := (0 : Int32)) dX8_by_157 (by decide) ?_
      refine ab_goto C (tgt := 164) dX8_by_158 (by decide) ?_
      exact ab_iret C dX8_by_164 ⟨rfl, _, rfl, f⟩
    · have f := f.2 c_20
      refine ab_iload_n C 2 dX8_by_152 rfl rfl ?_
      refine ab_iconst C (v := (-1 : Int32)) dX8_by_153 (by decide) ?_
      refine ab_icmp_ne C (tgt := 161) dX8_by_154 (by decide) (fun c_21 => ?_) (fun c_21 => ?_)
      · have f := f.2 c_21
        refine ab_iload_n C 1 dX8_by_161 rfl rfl ?_
        refine ab_iload_n C 2 dX8_by_162 rfl rfl ?_
        obtain ⟨c_22, f⟩ := f
        refine ab_irem C dX8_by_163 c_22 ?_
        exact ab_iret C dX8_by_164 ⟨rfl, _, rfl, f⟩
      · have f := f.1 c_21
        refine ab_iconst C (v := (0 : Int32)) dX8_by_157 (by decide) ?_
        refine ab_goto C (tgt := 164) dX8_by_158 (by decide) ?_
        exact ab_iret C dX8_by_164 ⟨rfl, _, rfl, f⟩
/-! X8_worked -/
def rm_X8_worked : Room := { frames := 3, cells := 0, slots := 0, locals := 122 }
def wp_X8_worked_L6 (x1 : Int32) (x2 : Int32) (x3 : Int32) (x4 : Int32) (x5 : Int32) (Q : Int32 → hp_T → Prop) : Nat → Int32 → Int32 → hp_T → Prop
  | 0 => fun _ _ _ => False
  | nn + 1 => fun y6 y7 h => (vp_in ((9 : Int32) + x1) 357) ∧ (((hp_i h 106 (((9 : Int32) + x1).toNatClampNeg)) ≤ y7 → (Q (hp_i h 110 0) h)) ∧ (¬ ((hp_i h 106 (((9 : Int32) + x1).toNatClampNeg)) ≤ y7) → (vp_in (((237 : Int32) + ((60 : Int32) * x1)) + y7) 357) ∧ (((hp_i h 106 ((((237 : Int32) + ((60 : Int32) * x1)) + y7).toNatClampNeg)) ≤ (-10 : Int32) → (((hp_i h 106 ((((237 : Int32) + ((60 : Int32) * x1)) + y7).toNatClampNeg)) = (-21 : Int32) → (vp_in (y6 - (1 : Int32)) 64) ∧ (((hp_i h 110 ((y6 - (1 : Int32)).toNatClampNeg)) = 0 → (vp_in (y6 - (1 : Int32)) 64) ∧ (∀ h_20, h_20 = hp_si h 110 ((y6 - (1 : Int32)).toNatClampNeg) (1 : Int32) → (wp_X8_worked_L6 x1 x2 x3 x4 x5 Q nn) y6 (y7 + (1 : Int32)) h_20)) ∧ (¬ ((hp_i h 110 ((y6 - (1 : Int32)).toNatClampNeg)) = 0) → (vp_in (y6 - (1 : Int32)) 64) ∧ (∀ h_16, h_16 = hp_si h 110 ((y6 - (1 : Int32)).toNatClampNeg) (0 : Int32) → (wp_X8_worked_L6 x1 x2 x3 x4 x5 Q nn) y6 (y7 + (1 : Int32)) h_16)))) ∧ (¬ ((hp_i h 106 ((((237 : Int32) + ((60 : Int32) * x1)) + y7).toNatClampNeg)) = (-21 : Int32)) → (vp_in ((y6 + (-1 : Int32)) - (1 : Int32)) 64) ∧ (vp_in (y6 + (-1 : Int32)) 64) ∧ wp_X8_by (hp_i h 106 ((((237 : Int32) + ((60 : Int32) * x1)) + y7).toNatClampNeg)) (hp_i h 110 (((y6 + (-1 : Int32)) - (1 : Int32)).toNatClampNeg)) (hp_i h 110 ((y6 + (-1 : Int32)).toNatClampNeg)) h (fun v_8 => (vp_in ((y6 + (-1 : Int32)) - (1 : Int32)) 64) ∧ (∀ h_10, h_10 = hp_si h 110 (((y6 + (-1 : Int32)) - (1 : Int32)).toNatClampNeg) v_8 → (wp_X8_worked_L6 x1 x2 x3 x4 x5 Q nn) (y6 + (-1 : Int32)) (y7 + (1 : Int32)) h_10))))) ∧ (¬ ((hp_i h 106 ((((237 : Int32) + ((60 : Int32) * x1)) + y7).toNatClampNeg)) ≤ (-10 : Int32)) → (((hp_i h 106 ((((237 : Int32) + ((60 : Int32) * x1)) + y7).toNatClampNeg)) < 0 → (((hp_i h 106 ((((237 : Int32) + ((60 : Int32) * x1)) + y7).toNatClampNeg)) = (-1 : Int32) → (vp_in y6 64) ∧ (∀ h_40, h_40 = hp_si h 110 y6.toNatClampNeg x2 → (wp_X8_worked_L6 x1 x2 x3 x4 x5 Q nn) (y6 + (1 : Int32)) (y7 + (1 : Int32)) h_40)) ∧ (¬ ((hp_i h 106 ((((237 : Int32) + ((60 : Int32) * x1)) + y7).toNatClampNeg)) = (-1 : Int32)) → (((hp_i h 106 ((((237 : Int32) + ((60 : Int32) * x1)) + y7).toNatClampNeg)) = (-2 : Int32) → (vp_in y6 64) ∧ (∀ h_36, h_36 = hp_si h 110 y6.toNatClampNeg x3 → (wp_X8_worked_L6 x1 x2 x3 x4 x5 Q nn) (y6 + (1 : Int32)) (y7 + (1 : Int32)) h_36)) ∧ (¬ ((hp_i h 106 ((((237 : Int32) + ((60 : Int32) * x1)) + y7).toNatClampNeg)) = (-2 : Int32)) → (((hp_i h 106 ((((237 : Int32) + ((60 : Int32) * x1)) + y7).toNatClampNeg)) = (-3 : Int32) → (vp_in y6 64) ∧ (∀ h_32, h_32 = hp_si h 110 y6.toNatClampNeg x4 → (wp_X8_worked_L6 x1 x2 x3 x4 x5 Q nn) (y6 + (1 : Int32)) (y7 + (1 : Int32)) h_32)) ∧ (¬ ((hp_i h 106 ((((237 : Int32) + ((60 : Int32) * x1)) + y7).toNatClampNeg)) = (-3 : Int32)) → (vp_in y6 64) ∧ (∀ h_28, h_28 = hp_si h 110 y6.toNatClampNeg x5 → (wp_X8_worked_L6 x1 x2 x3 x4 x5 Q nn) (y6 + (1 : Int32)) (y7 + (1 : Int32)) h_28)))))))) ∧ (¬ ((hp_i h 106 ((((237 : Int32) + ((60 : Int32) * x1)) + y7).toNatClampNeg)) < 0) → (vp_in y6 64) ∧ (∀ h_44, h_44 = hp_si h 110 y6.toNatClampNeg (hp_i h 106 ((((237 : Int32) + ((60 : Int32) * x1)) + y7).toNatClampNeg)) → (wp_X8_worked_L6 x1 x2 x3 x4 x5 Q nn) (y6 + (1 : Int32)) (y7 + (1 : Int32)) h_44)))))))
set_option maxRecDepth 100000 in
set_option maxHeartbeats 4000000 in
theorem bt_X8_worked_L6 {l : Launch} {G : ab_G} {F : ab_F} {x1 : Int32} {x2 : Int32} {x3 : Int32} {x4 : Int32} {x5 : Int32} {Q : Int32 → hp_T → Prop}  (C : ab_C G F rm_X8_worked cX8_worked 9 RX8 (some .int) "worked")   : ∀ (nn : Nat) (y6 : Int32) (y7 : Int32) (h : hp_T), wf h → wp_X8_worked_L6 x1 x2 x3 x4 x5 Q nn y6 y7 h → ab_W l G F 9 (ab_MQ G F (po_h Q) 0 0) 0 0 h [(0, .ref (G.1 + 105)), (1, .int x1), (2, .int x2), (3, .int x3), (4, .int x4), (5, .int x5), (6, .int y6), (7, .int y7)] [] 6 := by
  intro nn
  induction nn with
  | zero =>
    intro y6 y7 h hw f
    exact absurd f id
  | succ nn ih =>
    intro y6 y7 h hw f
    unfold wp_X8_worked_L6 at f
    refine ab_iload C 7 dX8_worked_6 rfl ?_
    refine ab_aload_n C 0 dX8_worked_8 rfl rfl ?_
    refine ab_getR C (q := 106) fl_X8_7 rfl kd_105 (wf_lt hw kd_105 rfl) (wr_8_0 hw) dX8_worked_9 ?_
    refine ab_bipush C (v := (9 : Int32)) dX8_worked_12 (by decide) ?_
    refine ab_iload_n C 1 dX8_worked_14 rfl rfl ?_
    refine ab_iadd C dX8_worked_15 ?_
    obtain ⟨c_1, f⟩ := f
    refine ab_iald C (by rw [kd_106]; decide) (wf_lt hw kd_106 rfl) (wf_len hw kd_106 rfl rfl (by decide)) c_1 (j := ((9 : Int32) + x1).toNatClampNeg) rfl dX8_worked_16 ?_
    refine ab_icmp_ge C (tgt := 178) dX8_worked_17 (by decide) (fun c_2 => ?_) (fun c_2 => ?_)
    · have f := f.1 c_2
      refine ab_aload_n C 0 dX8_worked_178 rfl rfl ?_
      refine ab_getR C (q := 110) fl_X8_22 rfl kd_105 (wf_lt hw kd_105 rfl) (wr_8_5 hw) dX8_worked_179 ?_
      refine ab_iconst C (v := (0 : Int32)) dX8_worked_182 (by decide) ?_
      refine ab_iald C (by rw [kd_110]; decide) (wf_lt hw kd_110 rfl) (wf_len hw kd_110 rfl rfl (by decide)) (vp_lit (by decide)) (j := 0) (by decide) dX8_worked_183 ?_
      exact ab_iret C dX8_worked_184 ⟨hw, _, rfl, f⟩
    · have f := f.2 c_2
      refine ab_aload_n C 0 dX8_worked_20 rfl rfl ?_
      refine ab_getR C (q := 106) fl_X8_7 rfl kd_105 (wf_lt hw kd_105 rfl) (wr_8_0 hw) dX8_worked_21 ?_
      refine ab_sipush C (v := (237 : Int32)) dX8_worked_24 (by decide) ?_
      refine ab_bipush C (v := (60 : Int32)) dX8_worked_27 (by decide) ?_
      refine ab_iload_n C 1 dX8_worked_29 rfl rfl ?_
      refine ab_imul C dX8_worked_30 ?_
      refine ab_iadd C dX8_worked_31 ?_
      refine ab_iload C 7 dX8_worked_32 rfl ?_
      refine ab_iadd C dX8_worked_34 ?_
      obtain ⟨c_3, f⟩ := f
      refine ab_iald C (by rw [kd_106]; decide) (wf_lt hw kd_106 rfl) (wf_len hw kd_106 rfl rfl (by decide)) c_3 (j := (((237 : Int32) + ((60 : Int32) * x1)) + y7).toNatClampNeg) rfl dX8_worked_35 ?_
      refine ab_istore C (lv' := [(8, .int (hp_i h 106 ((((237 : Int32) + ((60 : Int32) * x1)) + y7).toNatClampNeg))), (0, .ref (G.1 + 105)), (1, .int x1), (2, .int x2), (3, .int x3), (4, .int x4), (5, .int x5), (6, .int y6), (7, .int y7)]) dX8_worked_36 (by decide) rfl ?_
      refine ab_iload C 0 dX8_worked_38 rfl ?_
      refine ab_bipush C (v := (-10 : Int32)) dX8_worked_40 (by decide) ?_
      refine ab_icmp_le C (tgt := 103) dX8_worked_42 (by decide) (fun c_4 => ?_) (fun c_4 => ?_)
      · have f := f.1 c_4
        refine ab_iload C 0 dX8_worked_103 rfl ?_
        refine ab_bipush C (v := (-21 : Int32)) dX8_worked_105 (by decide) ?_
        refine ab_icmp_ne C (tgt := 139) dX8_worked_107 (by decide) (fun c_5 => ?_) (fun c_5 => ?_)
        · have f := f.2 c_5
          refine ab_iinc C (lv' := [(6, .int (y6 + (-1 : Int32))), (8, .int (hp_i h 106 ((((237 : Int32) + ((60 : Int32) * x1)) + y7).toNatClampNeg))), (0, .ref (G.1 + 105)), (1, .int x1), (2, .int x2), (3, .int x3), (4, .int x4), (5, .int x5), (7, .int y7)]) 7 (v := (y6 + (-1 : Int32))) dX8_worked_139 rfl rfl (by decide) rfl ?_
          refine ab_aload_n C 2 dX8_worked_142 rfl rfl ?_
          refine ab_getR C (q := 110) fl_X8_22 rfl kd_105 (wf_lt hw kd_105 rfl) (wr_8_5 hw) dX8_worked_143 ?_
          refine ab_iload C 0 dX8_worked_146 rfl ?_
          refine ab_iconst C (v := (1 : Int32)) dX8_worked_148 (by decide) ?_
          refine ab_isub C dX8_worked_149 ?_
          refine ab_iload C 1 dX8_worked_150 rfl ?_
          refine ab_aload_n C 2 dX8_worked_152 rfl rfl ?_
          refine ab_getR C (q := 110) fl_X8_22 rfl kd_105 (wf_lt hw kd_105 rfl) (wr_8_5 hw) dX8_worked_153 ?_
          refine ab_iload C 0 dX8_worked_156 rfl ?_
          refine ab_iconst C (v := (1 : Int32)) dX8_worked_158 (by decide) ?_
          refine ab_isub C dX8_worked_159 ?_
          obtain ⟨c_6, f⟩ := f
          refine ab_iald C (by rw [kd_110]; decide) (wf_lt hw kd_110 rfl) (wf_len hw kd_110 rfl rfl (by decide)) c_6 (j := ((y6 + (-1 : Int32)) - (1 : Int32)).toNatClampNeg) rfl dX8_worked_160 ?_
          refine ab_aload_n C 2 dX8_worked_161 rfl rfl ?_
          refine ab_getR C (q := 110) fl_X8_22 rfl kd_105 (wf_lt hw kd_105 rfl) (wr_8_5 hw) dX8_worked_162 ?_
          refine ab_iload C 0 dX8_worked_165 rfl ?_
          obtain ⟨c_7, f⟩ := f
          refine ab_iald C (by rw [kd_110]; decide) (wf_lt hw kd_110 rfl) (wf_len hw kd_110 rfl rfl (by decide)) c_7 (j := (y6 + (-1 : Int32)).toNatClampNeg) rfl dX8_worked_167 ?_
          refine ab_callS C (k := 0) (n := 0) (rest := [.int ((y6 + (-1 : Int32)) - (1 : Int32)), .ref (G.1 + 110)]) [.int (hp_i h 106 ((((237 : Int32) + ((60 : Int32) * x1)) + y7).toNatClampNeg)), .int (hp_i h 110 (((y6 + (-1 : Int32)) - (1 : Int32)).toNatClampNeg)), .int (hp_i h 110 ((y6 + (-1 : Int32)).toNatClampNeg))] cl_X8_52 (mt_X8_by  hw f) ⟨rfl, rfl, Nat.le_of_ble_eq_true rfl, Nat.le_of_ble_eq_true rfl, Nat.zero_le _, Nat.zero_le _⟩ rfl rfl (Nat.le_of_ble_eq_true rfl) dX8_worked_168 (ab_kp (k := 0) (n := 0) (fun v_8 f => ?_))
          obtain ⟨c_9, f⟩ := f
          refine ab_iast C (by rw [kd_110]; decide) (wf_lt hw kd_110 rfl) (wf_len hw kd_110 rfl rfl (by decide)) c_9 (j := ((y6 + (-1 : Int32)) - (1 : Int32)).toNatClampNeg) rfl dX8_worked_171 (fun h_10 e_11 => ?_)
          have f := f h_10 e_11
          have hw_12 := wf_si e_11 hw
          refine ab_iinc C (lv' := [(7, .int (y7 + (1 : Int32))), (6, .int (y6 + (-1 : Int32))), (8, .int (hp_i h 106 ((((237 : Int32) + ((60 : Int32) * x1)) + y7).toNatClampNeg))), (0, .ref (G.1 + 105)), (1, .int x1), (2, .int x2), (3, .int x3), (4, .int x4), (5, .int x5)]) 8 (v := (y7 + (1 : Int32))) dX8_worked_172 rfl rfl (by decide) rfl ?_
          refine ab_goto C (tgt := 6) dX8_worked_175 (by decide) ?_
          refine ab_sub (lv' := [(0, .ref (G.1 + 105)), (1, .int x1), (2, .int x2), (3, .int x3), (4, .int x4), (5, .int x5), (6, .int (y6 + (-1 : Int32))), (7, .int (y7 + (1 : Int32)))]) [3, 4, 5, 6, 7, 8, 1, 0] rfl ?_
          exact ih (y6 + (-1 : Int32)) (y7 + (1 : Int32)) h_10  hw_12 f
        · have f := f.1 c_5
          refine ab_aload_n C 1 dX8_worked_110 rfl rfl ?_
          refine ab_getR C (q := 110) fl_X8_22 rfl kd_105 (wf_lt hw kd_105 rfl) (wr_8_5 hw) dX8_worked_111 ?_
          refine ab_iload C 7 dX8_worked_114 rfl ?_
          refine ab_iconst C (v := (1 : Int32)) dX8_worked_116 (by decide) ?_
          refine ab_isub C dX8_worked_117 ?_
          refine ab_aload_n C 1 dX8_worked_118 rfl rfl ?_
          refine ab_getR C (q := 110) fl_X8_22 rfl kd_105 (wf_lt hw kd_105 rfl) (wr_8_5 hw) dX8_worked_119 ?_
          refine ab_iload C 7 dX8_worked_122 rfl ?_
          refine ab_iconst C (v := (1 : Int32)) dX8_worked_124 (by decide) ?_
          refine ab_isub C dX8_worked_125 ?_
          obtain ⟨c_13, f⟩ := f
          refine ab_iald C (by rw [kd_110]; decide) (wf_lt hw kd_110 rfl) (wf_len hw kd_110 rfl rfl (by decide)) c_13 (j := (y6 - (1 : Int32)).toNatClampNeg) rfl dX8_worked_126 ?_
          refine ab_if_ne C (tgt := 134) dX8_worked_127 (by decide) (fun c_14 => ?_) (fun c_14 => ?_)
          · have f := f.2 c_14
            refine ab_iconst C (v := (0 : Int32)) dX8_worked_134 (by decide) ?_
            obtain ⟨c_15, f⟩ := f
            refine ab_iast C (by rw [kd_110]; decide) (wf_lt hw kd_110 rfl) (wf_len hw kd_110 rfl rfl (by decide)) c_15 (j := (y6 - (1 : Int32)).toNatClampNeg) rfl dX8_worked_135 (fun h_16 e_17 => ?_)
            have f := f h_16 e_17
            have hw_18 := wf_si e_17 hw
            refine ab_goto C (tgt := 172) dX8_worked_136 (by decide) ?_
            refine ab_iinc C (lv' := [(7, .int (y7 + (1 : Int32))), (8, .int (hp_i h 106 ((((237 : Int32) + ((60 : Int32) * x1)) + y7).toNatClampNeg))), (0, .ref (G.1 + 105)), (1, .int x1), (2, .int x2), (3, .int x3), (4, .int x4), (5, .int x5), (6, .int y6)]) 8 (v := (y7 + (1 : Int32))) dX8_worked_172 rfl rfl (by decide) rfl ?_
            refine ab_goto C (tgt := 6) dX8_worked_175 (by decide) ?_
            refine ab_sub (lv' := [(0, .ref (G.1 + 105)), (1, .int x1), (2, .int x2), (3, .int x3), (4, .int x4), (5, .int x5), (6, .int y6), (7, .int (y7 + (1 : Int32)))]) [2, 3, 4, 5, 6, 7, 8, 0] rfl ?_
            exact ih y6 (y7 + (1 : Int32)) h_16  hw_18 f
          · have f := f.1 c_14
            refine ab_iconst C (v := (1 : Int32)) dX8_worked_130 (by decide) ?_
            refine ab_goto C (tgt := 135) dX8_worked_131 (by decide) ?_
            obtain ⟨c_19, f⟩ := f
            refine ab_iast C (by rw [kd_110]; decide) (wf_lt hw kd_110 rfl) (wf_len hw kd_110 rfl rfl (by decide)) c_19 (j := (y6 - (1 : Int32)).toNatClampNeg) rfl dX8_worked_135 (fun h_20 e_21 => ?_)
            have f := f h_20 e_21
            have hw_22 := wf_si e_21 hw
            refine ab_goto C (tgt := 172) dX8_worked_136 (by decide) ?_
            refine ab_iinc C (lv' := [(7, .int (y7 + (1 : Int32))), (8, .int (hp_i h 106 ((((237 : Int32) + ((60 : Int32) * x1)) + y7).toNatClampNeg))), (0, .ref (G.1 + 105)), (1, .int x1), (2, .int x2), (3, .int x3), (4, .int x4), (5, .int x5), (6, .int y6)]) 8 (v := (y7 + (1 : Int32))) dX8_worked_172 rfl rfl (by decide) rfl ?_
            refine ab_goto C (tgt := 6) dX8_worked_175 (by decide) ?_
            refine ab_sub (lv' := [(0, .ref (G.1 + 105)), (1, .int x1), (2, .int x2), (3, .int x3), (4, .int x4), (5, .int x5), (6, .int y6), (7, .int (y7 + (1 : Int32)))]) [2, 3, 4, 5, 6, 7, 8, 0] rfl ?_
            exact ih y6 (y7 + (1 : Int32)) h_20  hw_22 f
      · have f := f.2 c_4
        refine ab_aload_n C 1 dX8_worked_45 rfl rfl ?_
        refine ab_getR C (q := 110) fl_X8_22 rfl kd_105 (wf_lt hw kd_105 rfl) (wr_8_5 hw) dX8_worked_46 ?_
        refine ab_iload C 7 dX8_worked_49 rfl ?_
        refine ab_iload C 0 dX8_worked_51 rfl ?_
        refine ab_if_lt C (tgt := 61) dX8_worked_53 (by decide) (fun c_23 => ?_) (fun c_23 => ?_)
        · have f := f.1 c_23
          refine ab_iload C 0 dX8_worked_61 rfl ?_
          refine ab_iconst C (v := (-1 : Int32)) dX8_worked_63 (by decide) ?_
          refine ab_icmp_ne C (tgt := 71) dX8_worked_64 (by decide) (fun c_24 => ?_) (fun c_24 => ?_)
          · have f := f.2 c_24
            refine ab_iload C 0 dX8_worked_71 rfl ?_
            refine ab_bipush C (v := (-2 : Int32)) dX8_worked_73 (by decide) ?_
            refine ab_icmp_ne C (tgt := 82) dX8_worked_75 (by decide) (fun c_25 => ?_) (fun c_25 => ?_)
            · have f := f.2 c_25
              refine ab_iload C 0 dX8_worked_82 rfl ?_
              refine ab_bipush C (v := (-3 : Int32)) dX8_worked_84 (by decide) ?_
              refine ab_icmp_ne C (tgt := 94) dX8_worked_86 (by decide) (fun c_26 => ?_) (fun c_26 => ?_)
              · have f := f.2 c_26
                refine ab_iload C 6 dX8_worked_94 rfl ?_
                obtain ⟨c_27, f⟩ := f
                refine ab_iast C (by rw [kd_110]; decide) (wf_lt hw kd_110 rfl) (wf_len hw kd_110 rfl rfl (by decide)) c_27 (j := y6.toNatClampNeg) rfl dX8_worked_96 (fun h_28 e_29 => ?_)
                have f := f h_28 e_29
                have hw_30 := wf_si e_29 hw
                refine ab_iinc C (lv' := [(6, .int (y6 + (1 : Int32))), (8, .int (hp_i h 106 ((((237 : Int32) + ((60 : Int32) * x1)) + y7).toNatClampNeg))), (0, .ref (G.1 + 105)), (1, .int x1), (2, .int x2), (3, .int x3), (4, .int x4), (5, .int x5), (7, .int y7)]) 7 (v := (y6 + (1 : Int32))) dX8_worked_97 rfl rfl (by decide) rfl ?_
                refine ab_goto C (tgt := 172) dX8_worked_100 (by decide) ?_
                refine ab_iinc C (lv' := [(7, .int (y7 + (1 : Int32))), (6, .int (y6 + (1 : Int32))), (8, .int (hp_i h 106 ((((237 : Int32) + ((60 : Int32) * x1)) + y7).toNatClampNeg))), (0, .ref (G.1 + 105)), (1, .int x1), (2, .int x2), (3, .int x3), (4, .int x4), (5, .int x5)]) 8 (v := (y7 + (1 : Int32))) dX8_worked_172 rfl rfl (by decide) rfl ?_
                refine ab_goto C (tgt := 6) dX8_worked_175 (by decide) ?_
                refine ab_sub (lv' := [(0, .ref (G.1 + 105)), (1, .int x1), (2, .int x2), (3, .int x3), (4, .int x4), (5, .int x5), (6, .int (y6 + (1 : Int32))), (7, .int (y7 + (1 : Int32)))]) [3, 4, 5, 6, 7, 8, 1, 0] rfl ?_
                exact ih (y6 + (1 : Int32)) (y7 + (1 : Int32)) h_28  hw_30 f
              · have f := f.1 c_26
                refine ab_iload C 5 dX8_worked_89 rfl ?_
                refine ab_goto C (tgt := 96) dX8_worked_91 (by decide) ?_
                obtain ⟨c_31, f⟩ := f
                refine ab_iast C (by rw [kd_110]; decide) (wf_lt hw kd_110 rfl) (wf_len hw kd_110 rfl rfl (by decide)) c_31 (j := y6.toNatClampNeg) rfl dX8_worked_96 (fun h_32 e_33 => ?_)
                have f := f h_32 e_33
                have hw_34 := wf_si e_33 hw
                refine ab_iinc C (lv' := [(6, .int (y6 + (1 : Int32))), (8, .int (hp_i h 106 ((((237 : Int32) + ((60 : Int32) * x1)) + y7).toNatClampNeg))), (0, .ref (G.1 + 105)), (1, .int x1), (2, .int x2), (3, .int x3), (4, .int x4), (5, .int x5), (7, .int y7)]) 7 (v := (y6 + (1 : Int32))) dX8_worked_97 rfl rfl (by decide) rfl ?_
                refine ab_goto C (tgt := 172) dX8_worked_100 (by decide) ?_
                refine ab_iinc C (lv' := [(7, .int (y7 + (1 : Int32))), (6, .int (y6 + (1 : Int32))), (8, .int (hp_i h 106 ((((237 : Int32) + ((60 : Int32) * x1)) + y7).toNatClampNeg))), (0, .ref (G.1 + 105)), (1, .int x1), (2, .int x2), (3, .int x3), (4, .int x4), (5, .int x5)]) 8 (v := (y7 + (1 : Int32))) dX8_worked_172 rfl rfl (by decide) rfl ?_
                refine ab_goto C (tgt := 6) dX8_worked_175 (by decide) ?_
                refine ab_sub (lv' := [(0, .ref (G.1 + 105)), (1, .int x1), (2, .int x2), (3, .int x3), (4, .int x4), (5, .int x5), (6, .int (y6 + (1 : Int32))), (7, .int (y7 + (1 : Int32)))]) [3, 4, 5, 6, 7, 8, 1, 0] rfl ?_
                exact ih (y6 + (1 : Int32)) (y7 + (1 : Int32)) h_32  hw_34 f
            · have f := f.1 c_25
              refine ab_iload_n C 4 dX8_worked_78 rfl rfl ?_
              refine ab_goto C (tgt := 96) dX8_worked_79 (by decide) ?_
              obtain ⟨c_35, f⟩ := f
              refine ab_iast C (by rw [kd_110]; decide) (wf_lt hw kd_110 rfl) (wf_len hw kd_110 rfl rfl (by decide)) c_35 (j := y6.toNatClampNeg) rfl dX8_worked_96 (fun h_36 e_37 => ?_)
              have f := f h_36 e_37
              have hw_38 := wf_si e_37 hw
              refine ab_iinc C (lv' := [(6, .int (y6 + (1 : Int32))), (8, .int (hp_i h 106 ((((237 : Int32) + ((60 : Int32) * x1)) + y7).toNatClampNeg))), (0, .ref (G.1 + 105)), (1, .int x1), (2, .int x2), (3, .int x3), (4, .int x4), (5, .int x5), (7, .int y7)]) 7 (v := (y6 + (1 : Int32))) dX8_worked_97 rfl rfl (by decide) rfl ?_
              refine ab_goto C (tgt := 172) dX8_worked_100 (by decide) ?_
              refine ab_iinc C (lv' := [(7, .int (y7 + (1 : Int32))), (6, .int (y6 + (1 : Int32))), (8, .int (hp_i h 106 ((((237 : Int32) + ((60 : Int32) * x1)) + y7).toNatClampNeg))), (0, .ref (G.1 + 105)), (1, .int x1), (2, .int x2), (3, .int x3), (4, .int x4), (5, .int x5)]) 8 (v := (y7 + (1 : Int32))) dX8_worked_172 rfl rfl (by decide) rfl ?_
              refine ab_goto C (tgt := 6) dX8_worked_175 (by decide) ?_
              refine ab_sub (lv' := [(0, .ref (G.1 + 105)), (1, .int x1), (2, .int x2), (3, .int x3), (4, .int x4), (5, .int x5), (6, .int (y6 + (1 : Int32))), (7, .int (y7 + (1 : Int32)))]) [3, 4, 5, 6, 7, 8, 1, 0] rfl ?_
              exact ih (y6 + (1 : Int32)) (y7 + (1 : Int32)) h_36  hw_38 f
          · have f := f.1 c_24
            refine ab_iload_n C 3 dX8_worked_67 rfl rfl ?_
            refine ab_goto C (tgt := 96) dX8_worked_68 (by decide) ?_
            obtain ⟨c_39, f⟩ := f
            refine ab_iast C (by rw [kd_110]; decide) (wf_lt hw kd_110 rfl) (wf_len hw kd_110 rfl rfl (by decide)) c_39 (j := y6.toNatClampNeg) rfl dX8_worked_96 (fun h_40 e_41 => ?_)
            have f := f h_40 e_41
            have hw_42 := wf_si e_41 hw
            refine ab_iinc C (lv' := [(6, .int (y6 + (1 : Int32))), (8, .int (hp_i h 106 ((((237 : Int32) + ((60 : Int32) * x1)) + y7).toNatClampNeg))), (0, .ref (G.1 + 105)), (1, .int x1), (2, .int x2), (3, .int x3), (4, .int x4), (5, .int x5), (7, .int y7)]) 7 (v := (y6 + (1 : Int32))) dX8_worked_97 rfl rfl (by decide) rfl ?_
            refine ab_goto C (tgt := 172) dX8_worked_100 (by decide) ?_
            refine ab_iinc C (lv' := [(7, .int (y7 + (1 : Int32))), (6, .int (y6 + (1 : Int32))), (8, .int (hp_i h 106 ((((237 : Int32) + ((60 : Int32) * x1)) + y7).toNatClampNeg))), (0, .ref (G.1 + 105)), (1, .int x1), (2, .int x2), (3, .int x3), (4, .int x4), (5, .int x5)]) 8 (v := (y7 + (1 : Int32))) dX8_worked_172 rfl rfl (by decide) rfl ?_
            refine ab_goto C (tgt := 6) dX8_worked_175 (by decide) ?_
            refine ab_sub (lv' := [(0, .ref (G.1 + 105)), (1, .int x1), (2, .int x2), (3, .int x3), (4, .int x4), (5, .int x5), (6, .int (y6 + (1 : Int32))), (7, .int (y7 + (1 : Int32)))]) [3, 4, 5, 6, 7, 8, 1, 0] rfl ?_
            exact ih (y6 + (1 : Int32)) (y7 + (1 : Int32)) h_40  hw_42 f
        · have f := f.2 c_23
          refine ab_iload C 0 dX8_worked_56 rfl ?_
          refine ab_goto C (tgt := 96) dX8_worked_58 (by decide) ?_
          obtain ⟨c_43, f⟩ := f
          refine ab_iast C (by rw [kd_110]; decide) (wf_lt hw kd_110 rfl) (wf_len hw kd_110 rfl rfl (by decide)) c_43 (j := y6.toNatClampNeg) rfl dX8_worked_96 (fun h_44 e_45 => ?_)
          have f := f h_44 e_45
          have hw_46 := wf_si e_45 hw
          refine ab_iinc C (lv' := [(6, .int (y6 + (1 : Int32))), (8, .int (hp_i h 106 ((((237 : Int32) + ((60 : Int32) * x1)) + y7).toNatClampNeg))), (0, .ref (G.1 + 105)), (1, .int x1), (2, .int x2), (3, .int x3), (4, .int x4), (5, .int x5), (7, .int y7)]) 7 (v := (y6 + (1 : Int32))) dX8_worked_97 rfl rfl (by decide) rfl ?_
          refine ab_goto C (tgt := 172) dX8_worked_100 (by decide) ?_
          refine ab_iinc C (lv' := [(7, .int (y7 + (1 : Int32))), (6, .int (y6 + (1 : Int32))), (8, .int (hp_i h 106 ((((237 : Int32) + ((60 : Int32) * x1)) + y7).toNatClampNeg))), (0, .ref (G.1 + 105)), (1, .int x1), (2, .int x2), (3, .int x3), (4, .int x4), (5, .int x5)]) 8 (v := (y7 + (1 : Int32))) dX8_worked_172 rfl rfl (by decide) rfl ?_
          refine ab_goto C (tgt := 6) dX8_worked_175 (by decide) ?_
          refine ab_sub (lv' := [(0, .ref (G.1 + 105)), (1, .int x1), (2, .int x2), (3, .int x3), (4, .int x4), (5, .int x5), (6, .int (y6 + (1 : Int32))), (7, .int (y7 + (1 : Int32)))]) [3, 4, 5, 6, 7, 8, 1, 0] rfl ?_
          exact ih (y6 + (1 : Int32)) (y7 + (1 : Int32)) h_44  hw_46 f
def wp_X8_worked (x1 : Int32) (x2 : Int32) (x3 : Int32) (x4 : Int32) (x5 : Int32) (h : hp_T) (Q : Int32 → hp_T → Prop) : Prop :=
  (∃ n0, wp_X8_worked_L6 x1 x2 x3 x4 x5 Q  n0 (0 : Int32) (0 : Int32) h)
set_option maxRecDepth 100000 in
set_option maxHeartbeats 4000000 in
theorem mt_X8_worked {l : Launch} {G : ab_G} {x1 : Int32} {x2 : Int32} {x3 : Int32} {x4 : Int32} {x5 : Int32} {h : hp_T} {Q : Int32 → hp_T → Prop} (hw : wf h) (f : wp_X8_worked x1 x2 x3 x4 x5 h Q) : ab_M l G yX8_worked cX8_worked 9 (some .int) rm_X8_worked 0 0 [.ref (G.1 + 105), .int x1, .int x2, .int x3, .int x4, .int x5] h (po_h Q) := by
  refine ab_intro (own := RX8) (nm := "worked") rfl rfl rfl (Nat.le_of_ble_eq_true rfl) (fun F C => ?_)
  show ab_W l G F 9 (ab_MQ G F (po_h Q) 0 0) 0 0 h [(0, .ref (G.1 + 105)), (1, .int x1), (2, .int x2), (3, .int x3), (4, .int x4), (5, .int x5)] [] 0
  unfold wp_X8_worked at f
  refine ab_iconst C (v := (0 : Int32)) dX8_worked_0 (by decide) ?_
  refine ab_istore C (lv' := [(6, .int (0 : Int32)), (0, .ref (G.1 + 105)), (1, .int x1), (2, .int x2), (3, .int x3), (4, .int x4), (5, .int x5)]) dX8_worked_1 (by decide) rfl ?_
  refine ab_iconst C (v := (0 : Int32)) dX8_worked_3 (by decide) ?_
  refine ab_istore C (lv' := [(7, .int (0 : Int32)), (6, .int (0 : Int32)), (0, .ref (G.1 + 105)), (1, .int x1), (2, .int x2), (3, .int x3), (4, .int x4), (5, .int x5)]) dX8_worked_4 (by decide) rfl ?_
  obtain ⟨n0, f⟩ := f
  refine ab_sub (lv' := [(0, .ref (G.1 + 105)), (1, .int x1), (2, .int x2), (3, .int x3), (4, .int x4), (5, .int x5), (6, .int (0 : Int32)), (7, .int (0 : Int32))]) [2, 3, 4, 5, 6, 7, 1, 0] rfl ?_
  exact bt_X8_worked_L6 C    n0 (0 : Int32) (0 : Int32) h  hw f
/-! X8_needs -/
def rm_X8_needs : Room := { frames := 4, cells := 0, slots := 0, locals := 150 }
def wp_X8_needs (x1 : Int32) (x2 : Int32) (h : hp_T) (Q : Int32 → hp_T → Prop) : Prop :=
  wp_X8_its x1 (1 : Int32) h (fun v_1 => wp_X8_its x1 (0 : Int32) h (fun v_2 => ((v_2 = (1 : Int32) → wp_X8_held (1 : Int32) (1 : Int32) (99 : Int32) h (fun v_4 => (Q v_4 h))) ∧ (¬ (v_2 = (1 : Int32)) → ((v_2 = (2 : Int32) → wp_X8_held ((2 : Int32) + v_1) (1 : Int32) (99 : Int32) h (fun v_6 => (Q v_6 h))) ∧ (¬ (v_2 = (2 : Int32)) → ((v_2 = (3 : Int32) → wp_X8_held (2 : Int32) (1 : Int32) (99 : Int32) h (fun v_8 => (Q v_8 h))) ∧ (¬ (v_2 = (3 : Int32)) → ((v_2 = (4 : Int32) → wp_X8_held (1 : Int32) (1 : Int32) (99 : Int32) h (fun v_10 => (Q v_10 h))) ∧ (¬ (v_2 = (4 : Int32)) → ((v_2 = (5 : Int32) → wp_X8_held (2 : Int32) (1 : Int32) (99 : Int32) h (fun v_12 => (Q v_12 h))) ∧ (¬ (v_2 = (5 : Int32)) → ((v_2 = (6 : Int32) → (((hp_i h 106 9) = 0 → wp_X8_held v_1 (1 : Int32) (99 : Int32) h (fun v_21 => (Q v_21 h))) ∧ (¬ ((hp_i h 106 9) = 0) → wp_X8_its x1 (3 : Int32) h (fun v_15 => wp_X8_ones v_15 h (fun v_16 => wp_X8_worked (0 : Int32) x2 v_16 v_1 (0 : Int32) h (fun v_17 h_18 => wp_X8_held v_17 (1 : Int32) (99 : Int32) h_18 (fun v_20 => (Q v_20 h_18)))))))) ∧ (¬ (v_2 = (6 : Int32)) → wp_X8_held (2 : Int32) (1 : Int32) (99 : Int32) h (fun v_22 => (Q v_22 h))))))))))))))))
set_option maxRecDepth 100000 in
set_option maxHeartbeats 4000000 in
theorem mt_X8_needs {l : Launch} {G : ab_G} {x1 : Int32} {x2 : Int32} {h : hp_T} {Q : Int32 → hp_T → Prop} (hw : wf h) (f : wp_X8_needs x1 x2 h Q) : ab_M l G yX8_needs cX8_needs 5 (some .int) rm_X8_needs 0 0 [.ref (G.1 + 105), .int x1, .int x2] h (po_h Q) := by
  refine ab_intro (own := RX8) (nm := "needs") rfl rfl rfl (Nat.le_of_ble_eq_true rfl) (fun F C => ?_)
  show ab_W l G F 5 (ab_MQ G F (po_h Q) 0 0) 0 0 h [(0, .ref (G.1 + 105)), (1, .int x1), (2, .int x2)] [] 0
  unfold wp_X8_needs at f
  refine ab_aload_n C 0 dX8_needs_0 rfl rfl ?_
  refine ab_iload_n C 1 dX8_needs_1 rfl rfl ?_
  refine ab_iconst C (v := (1 : Int32)) dX8_needs_2 (by decide) ?_
  refine ab_callV C (k := 0) (n := 0) (rest := []) [.int x1, .int (1 : Int32)] cl_X8_60 (mt_X8_its  hw f) rfl (by decide) kd_105 (wf_lt hw kd_105 rfl) ⟨rfl, rfl, Nat.le_of_ble_eq_true rfl, Nat.le_of_ble_eq_true rfl, Nat.zero_le _, Nat.zero_le _⟩ rfl rfl (Nat.le_of_ble_eq_true rfl) dX8_needs_3 (ab_kp (k := 0) (n := 0) (fun v_1 f => ?_))
  refine ab_istore_n C (lv' := [(3, .int v_1), (0, .ref (G.1 + 105)), (1, .int x1), (2, .int x2)]) dX8_needs_6 rfl (by decide) rfl ?_
  refine ab_iconst C (v := (2 : Int32)) dX8_needs_7 (by decide) ?_
  refine ab_istore C (lv' := [(4, .int (2 : Int32)), (3, .int v_1), (0, .ref (G.1 + 105)), (1, .int x1), (2, .int x2)]) dX8_needs_8 (by decide) rfl ?_
  refine ab_aload_n C 2 dX8_needs_10 rfl rfl ?_
  refine ab_iload_n C 3 dX8_needs_11 rfl rfl ?_
  refine ab_iconst C (v := (0 : Int32)) dX8_needs_12 (by decide) ?_
  refine ab_callV C (k := 0) (n := 0) (rest := []) [.int x1, .int (0 : Int32)] cl_X8_60 (mt_X8_its  hw f) rfl (by decide) kd_105 (wf_lt hw kd_105 rfl) ⟨rfl, rfl, Nat.le_of_ble_eq_true rfl, Nat.le_of_ble_eq_true rfl, Nat.zero_le _, Nat.zero_le _⟩ rfl rfl (Nat.le_of_ble_eq_true rfl) dX8_needs_13 (ab_kp (k := 0) (n := 0) (fun v_2 f => ?_))
  by_cases c_3 : v_2 = (1 : Int32)
  · have f := f.1 c_3
    refine ab_tabC C (off := 40) (tgt := 56) dX8_needs_16 c_3 (by decide) (by decide) (by decide) (by decide) ?_
    refine ab_iconst C (v := (1 : Int32)) dX8_needs_56 (by decide) ?_
    refine ab_istore C (lv' := [(4, .int (1 : Int32)), (3, .int v_1), (0, .ref (G.1 + 105)), (1, .int x1), (2, .int x2)]) dX8_needs_57 (by decide) rfl ?_
    refine ab_goto C (tgt := 106) dX8_needs_59 (by decide) ?_
    refine ab_iload C 0 dX8_needs_106 rfl ?_
    refine ab_iconst C (v := (1 : Int32)) dX8_needs_108 (by decide) ?_
    refine ab_bipush C (v := (99 : Int32)) dX8_needs_109 (by decide) ?_
    refine ab_callS C (k := 0) (n := 0) (rest := []) [.int (1 : Int32), .int (1 : Int32), .int (99 : Int32)] cl_X8_75 (mt_X8_held  hw f) ⟨rfl, rfl, Nat.le_of_ble_eq_true rfl, Nat.le_of_ble_eq_true rfl, Nat.zero_le _, Nat.zero_le _⟩ rfl rfl (Nat.le_of_ble_eq_true rfl) dX8_needs_111 (ab_kp (k := 0) (n := 0) (fun v_4 f => ?_))
    exact ab_iret C dX8_needs_114 ⟨hw, _, rfl, f⟩
  have f := f.2 c_3
  by_cases c_5 : v_2 = (2 : Int32)
  · have f := f.1 c_5
    refine ab_tabC C (off := 46) (tgt := 62) dX8_needs_16 c_5 (by decide) (by decide) (by decide) (by decide) ?_
    refine ab_iconst C (v := (2 : Int32)) dX8_needs_62 (by decide) ?_
    refine ab_iload_n C 1 dX8_needs_63 rfl rfl ?_
    refine ab_iadd C dX8_needs_64 ?_
    refine ab_istore C (lv' := [(4, .int ((2 : Int32) + v_1)), (3, .int v_1), (0, .ref (G.1 + 105)), (1, .int x1), (2, .int x2)]) dX8_needs_65 (by decide) rfl ?_
    refine ab_goto C (tgt := 106) dX8_needs_67 (by decide) ?_
    refine ab_iload C 0 dX8_needs_106 rfl ?_
    refine ab_iconst C (v := (1 : Int32)) dX8_needs_108 (by decide) ?_
    refine ab_bipush C (v := (99 : Int32)) dX8_needs_109 (by decide) ?_
    refine ab_callS C (k := 0) (n := 0) (rest := []) [.int ((2 : Int32) + v_1), .int (1 : Int32), .int (99 : Int32)] cl_X8_75 (mt_X8_held  hw f) ⟨rfl, rfl, Nat.le_of_ble_eq_true rfl, Nat.le_of_ble_eq_true rfl, Nat.zero_le _, Nat.zero_le _⟩ rfl rfl (Nat.le_of_ble_eq_true rfl) dX8_needs_111 (ab_kp (k := 0) (n := 0) (fun v_6 f => ?_))
    exact ab_iret C dX8_needs_114 ⟨hw, _, rfl, f⟩
  have f := f.2 c_5
  by_cases c_7 : v_2 = (3 : Int32)
  · have f := f.1 c_7
    refine ab_tabC C (off := 90) (tgt := 106) dX8_needs_16 c_7 (by decide) (by decide) (by decide) (by decide) ?_
    refine ab_iload C 0 dX8_needs_106 rfl ?_
    refine ab_iconst C (v := (1 : Int32)) dX8_needs_108 (by decide) ?_
    refine ab_bipush C (v := (99 : Int32)) dX8_needs_109 (by decide) ?_
    refine ab_callS C (k := 0) (n := 0) (rest := []) [.int (2 : Int32), .int (1 : Int32), .int (99 : Int32)] cl_X8_75 (mt_X8_held  hw f) ⟨rfl, rfl, Nat.le_of_ble_eq_true rfl, Nat.le_of_ble_eq_true rfl, Nat.zero_le _, Nat.zero_le _⟩ rfl rfl (Nat.le_of_ble_eq_true rfl) dX8_needs_111 (ab_kp (k := 0) (n := 0) (fun v_8 f => ?_))
    exact ab_iret C dX8_needs_114 ⟨hw, _, rfl, f⟩
  have f := f.2 c_7
  by_cases c_9 : v_2 = (4 : Int32)
  · have f := f.1 c_9
    refine ab_tabC C (off := 40) (tgt := 56) dX8_needs_16 c_9 (by decide) (by decide) (by decide) (by decide) ?_
    refine ab_iconst C (v := (1 : Int32)) dX8_needs_56 (by decide) ?_
    refine ab_istore C (lv' := [(4, .int (1 : Int32)), (3, .int v_1), (0, .ref (G.1 + 105)), (1, .int x1), (2, .int x2)]) dX8_needs_57 (by decide) rfl ?_
    refine ab_goto C (tgt := 106) dX8_needs_59 (by decide) ?_
    refine ab_iload C 0 dX8_needs_106 rfl ?_
    refine ab_iconst C (v := (1 : Int32)) dX8_needs_108 (by decide) ?_
    refine ab_bipush C (v := (99 : Int32)) dX8_needs_109 (by decide) ?_
    refine ab_callS C (k := 0) (n := 0) (rest := []) [.int (1 : Int32), .int (1 : Int32), .int (99 : Int32)] cl_X8_75 (mt_X8_held  hw f) ⟨rfl, rfl, Nat.le_of_ble_eq_true rfl, Nat.le_of_ble_eq_true rfl, Nat.zero_le _, Nat.zero_le _⟩ rfl rfl (Nat.le_of_ble_eq_true rfl) dX8_needs_111 (ab_kp (k := 0) (n := 0) (fun v_10 f => ?_))
    exact ab_iret C dX8_needs_114 ⟨hw, _, rfl, f⟩
  have f := f.2 c_9
  by_cases c_11 : v_2 = (5 : Int32)
  · have f := f.1 c_11
    refine ab_tabC C (off := 90) (tgt := 106) dX8_needs_16 c_11 (by decide) (by decide) (by decide) (by decide) ?_
    refine ab_iload C 0 dX8_needs_106 rfl ?_
    refine ab_iconst C (v := (1 : Int32)) dX8_needs_108 (by decide) ?_
    refine ab_bipush C (v := (99 : Int32)) dX8_needs_109 (by decide) ?_
    refine ab_callS C (k := 0) (n := 0) (rest := []) [.int (2 : Int32), .int (1 : Int32), .int (99 : Int32)] cl_X8_75 (mt_X8_held  hw f) ⟨rfl, rfl, Nat.le_of_ble_eq_true rfl, Nat.le_of_ble_eq_true rfl, Nat.zero_le _, Nat.zero_le _⟩ rfl rfl (Nat.le_of_ble_eq_true rfl) dX8_needs_111 (ab_kp (k := 0) (n := 0) (fun v_12 f => ?_))
    exact ab_iret C dX8_needs_114 ⟨hw, _, rfl, f⟩
  have f := f.2 c_11
  by_cases c_13 : v_2 = (6 : Int32)
  · have f := f.1 c_13
    refine ab_tabC C (off := 54) (tgt := 70) dX8_needs_16 c_13 (by decide) (by decide) (by decide) (by decide) ?_
    refine ab_aload_n C 2 dX8_needs_70 rfl rfl ?_
    refine ab_getR C (q := 106) fl_X8_7 rfl kd_105 (wf_lt hw kd_105 rfl) (wr_8_0 hw) dX8_needs_71 ?_
    refine ab_bipush C (v := (9 : Int32)) dX8_needs_74 (by decide) ?_
    refine ab_iald C (by rw [kd_106]; decide) (wf_lt hw kd_106 rfl) (wf_len hw kd_106 rfl rfl (by decide)) (vp_lit (by decide)) (j := 9) (by decide) dX8_needs_76 ?_
    refine ab_if_ne C (tgt := 84) dX8_needs_77 (by decide) (fun c_14 => ?_) (fun c_14 => ?_)
    · have f := f.2 c_14
      refine ab_aload_n C 2 dX8_needs_84 rfl rfl ?_
      refine ab_iconst C (v := (0 : Int32)) dX8_needs_85 (by decide) ?_
      refine ab_iload_n C 4 dX8_needs_86 rfl rfl ?_
      refine ab_aload_n C 2 dX8_needs_87 rfl rfl ?_
      refine ab_iload_n C 3 dX8_needs_88 rfl rfl ?_
      refine ab_iconst C (v := (3 : Int32)) dX8_needs_89 (by decide) ?_
      refine ab_callV C (k := 0) (n := 0) (rest := [.int x2, .int (0 : Int32), .ref (G.1 + 105)]) [.int x1, .int (3 : Int32)] cl_X8_60 (mt_X8_its  hw f) rfl (by decide) kd_105 (wf_lt hw kd_105 rfl) ⟨rfl, rfl, Nat.le_of_ble_eq_true rfl, Nat.le_of_ble_eq_true rfl, Nat.zero_le _, Nat.zero_le _⟩ rfl rfl (Nat.le_of_ble_eq_true rfl) dX8_needs_90 (ab_kp (k := 0) (n := 0) (fun v_15 f => ?_))
      refine ab_callS C (k := 0) (n := 0) (rest := [.int x2, .int (0 : Int32), .ref (G.1 + 105)]) [.int v_15] cl_X8_67 (mt_X8_ones  hw f) ⟨rfl, rfl, Nat.le_of_ble_eq_true rfl, Nat.le_of_ble_eq_true rfl, Nat.zero_le _, Nat.zero_le _⟩ rfl rfl (Nat.le_of_ble_eq_true rfl) dX8_needs_93 (ab_kp (k := 0) (n := 0) (fun v_16 f => ?_))
      refine ab_iload_n C 1 dX8_needs_96 rfl rfl ?_
      refine ab_iconst C (v := (0 : Int32)) dX8_needs_97 (by decide) ?_
      refine ab_callV C (k := 0) (n := 0) (rest := []) [.int (0 : Int32), .int x2, .int v_16, .int v_1, .int (0 : Int32)] cl_X8_71 (mt_X8_worked  hw f) rfl (by decide) kd_105 (wf_lt hw kd_105 rfl) ⟨rfl, rfl, Nat.le_of_ble_eq_true rfl, Nat.le_of_ble_eq_true rfl, Nat.zero_le _, Nat.zero_le _⟩ rfl rfl (Nat.le_of_ble_eq_true rfl) dX8_needs_98 (ab_kh (k := 0) (n := 0) (fun v_17 h_18 hw_19 f => ?_))
      refine ab_istore C (lv' := [(4, .int v_17), (3, .int v_1), (0, .ref (G.1 + 105)), (1, .int x1), (2, .int x2)]) dX8_needs_101 (by decide) rfl ?_
      refine ab_goto C (tgt := 106) dX8_needs_103 (by decide) ?_
      refine ab_iload C 0 dX8_needs_106 rfl ?_
      refine ab_iconst C (v := (1 : Int32)) dX8_needs_108 (by decide) ?_
      refine ab_bipush C (v := (99 : Int32)) dX8_needs_109 (by decide) ?_
      refine ab_callS C (k := 0) (n := 0) (rest := []) [.int v_17, .int (1 : Int32), .int (99 : Int32)] cl_X8_75 (mt_X8_held  hw_19 f) ⟨rfl, rfl, Nat.le_of_ble_eq_true rfl, Nat.le_of_ble_eq_true rfl, Nat.zero_le _, Nat.zero_le _⟩ rfl rfl (Nat.le_of_ble_eq_true rfl) dX8_needs_111 (ab_kp (k := 0) (n := 0) (fun v_20 f => ?_))
      exact ab_iret C dX8_needs_114 ⟨hw_19, _, rfl, f⟩
    · have f := f.1 c_14
      refine ab_iload_n C 1 dX8_needs_80 rfl rfl ?_
      refine ab_goto C (tgt := 101) dX8_needs_81 (by decide) ?_
      refine ab_istore C (lv' := [(4, .int v_1), (3, .int v_1), (0, .ref (G.1 + 105)), (1, .int x1), (2, .int x2)]) dX8_needs_101 (by decide) rfl ?_
      refine ab_goto C (tgt := 106) dX8_needs_103 (by decide) ?_
      refine ab_iload C 0 dX8_needs_106 rfl ?_
      refine ab_iconst C (v := (1 : Int32)) dX8_needs_108 (by decide) ?_
      refine ab_bipush C (v := (99 : Int32)) dX8_needs_109 (by decide) ?_
      refine ab_callS C (k := 0) (n := 0) (rest := []) [.int v_1, .int (1 : Int32), .int (99 : Int32)] cl_X8_75 (mt_X8_held  hw f) ⟨rfl, rfl, Nat.le_of_ble_eq_true rfl, Nat.le_of_ble_eq_true rfl, Nat.zero_le _, Nat.zero_le _⟩ rfl rfl (Nat.le_of_ble_eq_true rfl) dX8_needs_111 (ab_kp (k := 0) (n := 0) (fun v_21 f => ?_))
      exact ab_iret C dX8_needs_114 ⟨hw, _, rfl, f⟩
  have f := f.2 c_13
  refine ab_tabOut C (tgt := 106) dX8_needs_16 (ab_tout (fun j j1 j2 => ?_)) (by decide) ?_
  · have hh : j = 1 ∨ j = 2 ∨ j = 3 ∨ j = 4 ∨ j = 5 ∨ j = 6 := by omega
    rcases hh with rfl | rfl | rfl | rfl | rfl | rfl
    · exact ab_ne c_3
    · exact ab_ne c_5
    · exact ab_ne c_7
    · exact ab_ne c_9
    · exact ab_ne c_11
    · exact ab_ne c_13
  · skip
    refine ab_iload C 0 dX8_needs_106 rfl ?_
    refine ab_iconst C (v := (1 : Int32)) dX8_needs_108 (by decide) ?_
    refine ab_bipush C (v := (99 : Int32)) dX8_needs_109 (by decide) ?_
    refine ab_callS C (k := 0) (n := 0) (rest := []) [.int (2 : Int32), .int (1 : Int32), .int (99 : Int32)] cl_X8_75 (mt_X8_held  hw f) ⟨rfl, rfl, Nat.le_of_ble_eq_true rfl, Nat.le_of_ble_eq_true rfl, Nat.zero_le _, Nat.zero_le _⟩ rfl rfl (Nat.le_of_ble_eq_true rfl) dX8_needs_111 (ab_kp (k := 0) (n := 0) (fun v_22 f => ?_))
    exact ab_iret C dX8_needs_114 ⟨hw, _, rfl, f⟩
/-! X8_wagesOf -/
def rm_X8_wagesOf : Room := { frames := 4, cells := 0, slots := 0, locals := 150 }
def wp_X8_wagesOf (x1 : Int32) (h : hp_T) (Q : Int32 → hp_T → Prop) : Prop :=
  wp_X8_its x1 (3 : Int32) h (fun v_1 => wp_X8_ones v_1 h (fun v_2 => wp_X8_its x1 (2 : Int32) h (fun v_3 => ((0 ≤ v_3 → wp_X8_its x1 (2 : Int32) h (fun v_5 => (((hp_i h 106 10) = 0 → (Q ((1 : Int32) + v_2) h)) ∧ (¬ ((hp_i h 106 10) = 0) → wp_X8_its x1 (0 : Int32) h (fun v_7 => wp_X8_worked (1 : Int32) v_7 v_2 (0 : Int32) ((hp_i h 106 3) - v_5) h (fun v_8 h_9 => wp_X8_held v_8 (0 : Int32) (999 : Int32) h_9 (fun v_11 => (Q v_11 h_9)))))))) ∧ (¬ (0 ≤ v_3) → (((hp_i h 106 10) = 0 → (Q ((1 : Int32) + v_2) h)) ∧ (¬ ((hp_i h 106 10) = 0) → wp_X8_its x1 (0 : Int32) h (fun v_13 => wp_X8_worked (1 : Int32) v_13 v_2 (0 : Int32) (0 : Int32) h (fun v_14 h_15 => wp_X8_held v_14 (0 : Int32) (999 : Int32) h_15 (fun v_17 => (Q v_17 h_15)))))))))))
set_option maxRecDepth 100000 in
set_option maxHeartbeats 4000000 in
theorem mt_X8_wagesOf {l : Launch} {G : ab_G} {x1 : Int32} {h : hp_T} {Q : Int32 → hp_T → Prop} (hw : wf h) (f : wp_X8_wagesOf x1 h Q) : ab_M l G yX8_wagesOf cX8_wagesOf 4 (some .int) rm_X8_wagesOf 0 0 [.ref (G.1 + 105), .int x1] h (po_h Q) := by
  refine ab_intro (own := RX8) (nm := "wagesOf") rfl rfl rfl (Nat.le_of_ble_eq_true rfl) (fun F C => ?_)
  show ab_W l G F 4 (ab_MQ G F (po_h Q) 0 0) 0 0 h [(0, .ref (G.1 + 105)), (1, .int x1)] [] 0
  unfold wp_X8_wagesOf at f
  refine ab_aload_n C 0 dX8_wagesOf_0 rfl rfl ?_
  refine ab_iload_n C 1 dX8_wagesOf_1 rfl rfl ?_
  refine ab_iconst C (v := (3 : Int32)) dX8_wagesOf_2 (by decide) ?_
  refine ab_callV C (k := 0) (n := 0) (rest := []) [.int x1, .int (3 : Int32)] cl_X8_60 (mt_X8_its  hw f) rfl (by decide) kd_105 (wf_lt hw kd_105 rfl) ⟨rfl, rfl, Nat.le_of_ble_eq_true rfl, Nat.le_of_ble_eq_true rfl, Nat.zero_le _, Nat.zero_le _⟩ rfl rfl (Nat.le_of_ble_eq_true rfl) dX8_wagesOf_3 (ab_kp (k := 0) (n := 0) (fun v_1 f => ?_))
  refine ab_callS C (k := 0) (n := 0) (rest := []) [.int v_1] cl_X8_67 (mt_X8_ones  hw f) ⟨rfl, rfl, Nat.le_of_ble_eq_true rfl, Nat.le_of_ble_eq_true rfl, Nat.zero_le _, Nat.zero_le _⟩ rfl rfl (Nat.le_of_ble_eq_true rfl) dX8_wagesOf_6 (ab_kp (k := 0) (n := 0) (fun v_2 f => ?_))
  refine ab_istore_n C (lv' := [(2, .int v_2), (0, .ref (G.1 + 105)), (1, .int x1)]) dX8_wagesOf_9 rfl (by decide) rfl ?_
  refine ab_aload_n C 1 dX8_wagesOf_10 rfl rfl ?_
  refine ab_iload_n C 2 dX8_wagesOf_11 rfl rfl ?_
  refine ab_iconst C (v := (2 : Int32)) dX8_wagesOf_12 (by decide) ?_
  refine ab_callV C (k := 0) (n := 0) (rest := []) [.int x1, .int (2 : Int32)] cl_X8_60 (mt_X8_its  hw f) rfl (by decide) kd_105 (wf_lt hw kd_105 rfl) ⟨rfl, rfl, Nat.le_of_ble_eq_true rfl, Nat.le_of_ble_eq_true rfl, Nat.zero_le _, Nat.zero_le _⟩ rfl rfl (Nat.le_of_ble_eq_true rfl) dX8_wagesOf_13 (ab_kp (k := 0) (n := 0) (fun v_3 f => ?_))
  refine ab_if_ge C (tgt := 23) dX8_wagesOf_16 (by decide) (fun c_4 => ?_) (fun c_4 => ?_)
  · have f := f.1 c_4
    refine ab_aload_n C 1 dX8_wagesOf_23 rfl rfl ?_
    refine ab_getR C (q := 106) fl_X8_7 rfl kd_105 (wf_lt hw kd_105 rfl) (wr_8_0 hw) dX8_wagesOf_24 ?_
    refine ab_iconst C (v := (3 : Int32)) dX8_wagesOf_27 (by decide) ?_
    refine ab_iald C (by rw [kd_106]; decide) (wf_lt hw kd_106 rfl) (wf_len hw kd_106 rfl rfl (by decide)) (vp_lit (by decide)) (j := 3) (by decide) dX8_wagesOf_28 ?_
    refine ab_aload_n C 1 dX8_wagesOf_29 rfl rfl ?_
    refine ab_iload_n C 2 dX8_wagesOf_30 rfl rfl ?_
    refine ab_iconst C (v := (2 : Int32)) dX8_wagesOf_31 (by decide) ?_
    refine ab_callV C (k := 0) (n := 0) (rest := [.int (hp_i h 106 3)]) [.int x1, .int (2 : Int32)] cl_X8_60 (mt_X8_its  hw f) rfl (by decide) kd_105 (wf_lt hw kd_105 rfl) ⟨rfl, rfl, Nat.le_of_ble_eq_true rfl, Nat.le_of_ble_eq_true rfl, Nat.zero_le _, Nat.zero_le _⟩ rfl rfl (Nat.le_of_ble_eq_true rfl) dX8_wagesOf_32 (ab_kp (k := 0) (n := 0) (fun v_5 f => ?_))
    refine ab_isub C dX8_wagesOf_35 ?_
    refine ab_istore_n C (lv' := [(3, .int ((hp_i h 106 3) - v_5)), (2, .int v_2), (0, .ref (G.1 + 105)), (1, .int x1)]) dX8_wagesOf_36 rfl (by decide) rfl ?_
    refine ab_aload_n C 2 dX8_wagesOf_37 rfl rfl ?_
    refine ab_getR C (q := 106) fl_X8_7 rfl kd_105 (wf_lt hw kd_105 rfl) (wr_8_0 hw) dX8_wagesOf_38 ?_
    refine ab_bipush C (v := (10 : Int32)) dX8_wagesOf_41 (by decide) ?_
    refine ab_iald C (by rw [kd_106]; decide) (wf_lt hw kd_106 rfl) (wf_len hw kd_106 rfl rfl (by decide)) (vp_lit (by decide)) (j := 10) (by decide) dX8_wagesOf_43 ?_
    refine ab_if_ne C (tgt := 53) dX8_wagesOf_44 (by decide) (fun c_6 => ?_) (fun c_6 => ?_)
    · have f := f.2 c_6
      refine ab_aload_n C 2 dX8_wagesOf_53 rfl rfl ?_
      refine ab_iconst C (v := (1 : Int32)) dX8_wagesOf_54 (by decide) ?_
      refine ab_aload_n C 2 dX8_wagesOf_55 rfl rfl ?_
      refine ab_iload_n C 3 dX8_wagesOf_56 rfl rfl ?_
      refine ab_iconst C (v := (0 : Int32)) dX8_wagesOf_57 (by decide) ?_
      refine ab_callV C (k := 0) (n := 0) (rest := [.int (1 : Int32), .ref (G.1 + 105)]) [.int x1, .int (0 : Int32)] cl_X8_60 (mt_X8_its  hw f) rfl (by decide) kd_105 (wf_lt hw kd_105 rfl) ⟨rfl, rfl, Nat.le_of_ble_eq_true rfl, Nat.le_of_ble_eq_true rfl, Nat.zero_le _, Nat.zero_le _⟩ rfl rfl (Nat.le_of_ble_eq_true rfl) dX8_wagesOf_58 (ab_kp (k := 0) (n := 0) (fun v_7 f => ?_))
      refine ab_iload_n C 1 dX8_wagesOf_61 rfl rfl ?_
      refine ab_iconst C (v := (0 : Int32)) dX8_wagesOf_62 (by decide) ?_
      refine ab_iload_n C 0 dX8_wagesOf_63 rfl rfl ?_
      refine ab_callV C (k := 0) (n := 0) (rest := []) [.int (1 : Int32), .int v_7, .int v_2, .int (0 : Int32), .int ((hp_i h 106 3) - v_5)] cl_X8_71 (mt_X8_worked  hw f) rfl (by decide) kd_105 (wf_lt hw kd_105 rfl) ⟨rfl, rfl, Nat.le_of_ble_eq_true rfl, Nat.le_of_ble_eq_true rfl, Nat.zero_le _, Nat.zero_le _⟩ rfl rfl (Nat.le_of_ble_eq_true rfl) dX8_wagesOf_64 (ab_kh (k := 0) (n := 0) (fun v_8 h_9 hw_10 f => ?_))
      refine ab_iconst C (v := (0 : Int32)) dX8_wagesOf_67 (by decide) ?_
      refine ab_sipush C (v := (999 : Int32)) dX8_wagesOf_68 (by decide) ?_
      refine ab_callS C (k := 0) (n := 0) (rest := []) [.int v_8, .int (0 : Int32), .int (999 : Int32)] cl_X8_75 (mt_X8_held  hw_10 f) ⟨rfl, rfl, Nat.le_of_ble_eq_true rfl, Nat.le_of_ble_eq_true rfl, Nat.zero_le _, Nat.zero_le _⟩ rfl rfl (Nat.le_of_ble_eq_true rfl) dX8_wagesOf_71 (ab_kp (k := 0) (n := 0) (fun v_11 f => ?_))
      exact ab_iret C dX8_wagesOf_74 ⟨hw_10, _, rfl, f⟩
    · have f := f.1 c_6
      refine ab_iconst C (v := (1 : Int32)) dX8_wagesOf_47 (by decide) ?_
      refine ab_iload_n C 1 dX8_wagesOf_48 rfl rfl ?_
      refine ab_iadd C dX8_wagesOf_49 ?_
      refine ab_goto C (tgt := 74) dX8_wagesOf_50 (by decide) ?_
      exact ab_iret C dX8_wagesOf_74 ⟨hw, _, rfl, f⟩
  · have f := f.2 c_4
    refine ab_iconst C (v := (0 : Int32)) dX8_wagesOf_19 (by decide) ?_
    refine ab_goto C (tgt := 36) dX8_wagesOf_20 (by decide) ?_
    refine ab_istore_n C (lv' := [(3, .int (0 : Int32)), (2, .int v_2), (0, .ref (G.1 + 105)), (1, .int x1)]) dX8_wagesOf_36 rfl (by decide) rfl ?_
    refine ab_aload_n C 2 dX8_wagesOf_37 rfl rfl ?_
    refine ab_getR C (q := 106) fl_X8_7 rfl kd_105 (wf_lt hw kd_105 rfl) (wr_8_0 hw) dX8_wagesOf_38 ?_
    refine ab_bipush C (v := (10 : Int32)) dX8_wagesOf_41 (by decide) ?_
    refine ab_iald C (by rw [kd_106]; decide) (wf_lt hw kd_106 rfl) (wf_len hw kd_106 rfl rfl (by decide)) (vp_lit (by decide)) (j := 10) (by decide) dX8_wagesOf_43 ?_
    refine ab_if_ne C (tgt := 53) dX8_wagesOf_44 (by decide) (fun c_12 => ?_) (fun c_12 => ?_)
    · have f := f.2 c_12
      refine ab_aload_n C 2 dX8_wagesOf_53 rfl rfl ?_
      refine ab_iconst C (v := (1 : Int32)) dX8_wagesOf_54 (by decide) ?_
      refine ab_aload_n C 2 dX8_wagesOf_55 rfl rfl ?_
      refine ab_iload_n C 3 dX8_wagesOf_56 rfl rfl ?_
      refine ab_iconst C (v := (0 : Int32)) dX8_wagesOf_57 (by decide) ?_
      refine ab_callV C (k := 0) (n := 0) (rest := [.int (1 : Int32), .ref (G.1 + 105)]) [.int x1, .int (0 : Int32)] cl_X8_60 (mt_X8_its  hw f) rfl (by decide) kd_105 (wf_lt hw kd_105 rfl) ⟨rfl, rfl, Nat.le_of_ble_eq_true rfl, Nat.le_of_ble_eq_true rfl, Nat.zero_le _, Nat.zero_le _⟩ rfl rfl (Nat.le_of_ble_eq_true rfl) dX8_wagesOf_58 (ab_kp (k := 0) (n := 0) (fun v_13 f => ?_))
      refine ab_iload_n C 1 dX8_wagesOf_61 rfl rfl ?_
      refine ab_iconst C (v := (0 : Int32)) dX8_wagesOf_62 (by decide) ?_
      refine ab_iload_n C 0 dX8_wagesOf_63 rfl rfl ?_
      refine ab_callV C (k := 0) (n := 0) (rest := []) [.int (1 : Int32), .int v_13, .int v_2, .int (0 : Int32), .int (0 : Int32)] cl_X8_71 (mt_X8_worked  hw f) rfl (by decide) kd_105 (wf_lt hw kd_105 rfl) ⟨rfl, rfl, Nat.le_of_ble_eq_true rfl, Nat.le_of_ble_eq_true rfl, Nat.zero_le _, Nat.zero_le _⟩ rfl rfl (Nat.le_of_ble_eq_true rfl) dX8_wagesOf_64 (ab_kh (k := 0) (n := 0) (fun v_14 h_15 hw_16 f => ?_))
      refine ab_iconst C (v := (0 : Int32)) dX8_wagesOf_67 (by decide) ?_
      refine ab_sipush C (v := (999 : Int32)) dX8_wagesOf_68 (by decide) ?_
      refine ab_callS C (k := 0) (n := 0) (rest := []) [.int v_14, .int (0 : Int32), .int (999 : Int32)] cl_X8_75 (mt_X8_held  hw_16 f) ⟨rfl, rfl, Nat.le_of_ble_eq_true rfl, Nat.le_of_ble_eq_true rfl, Nat.zero_le _, Nat.zero_le _⟩ rfl rfl (Nat.le_of_ble_eq_true rfl) dX8_wagesOf_71 (ab_kp (k := 0) (n := 0) (fun v_17 f => ?_))
      exact ab_iret C dX8_wagesOf_74 ⟨hw_16, _, rfl, f⟩
    · have f := f.1 c_12
      refine ab_iconst C (v := (1 : Int32)) dX8_wagesOf_47 (by decide) ?_
      refine ab_iload_n C 1 dX8_wagesOf_48 rfl rfl ?_
      refine ab_iadd C dX8_wagesOf_49 ?_
      refine ab_goto C (tgt := 74) dX8_wagesOf_50 (by decide) ?_
      exact ab_iret C dX8_wagesOf_74 ⟨hw, _, rfl, f⟩
/-! X8_ofMan -/
def rm_X8_ofMan : Room := { frames := 5, cells := 0, slots := 0, locals := 174 }
def wp_X8_ofMan (x1 : Int32) (x2 : Int32) (h : hp_T) (Q : Int32 → hp_T → Prop) : Prop :=
  (((5 : Int32) ≤ x2 → ((x2 = (5 : Int32) → wp_X8_wagesOf x1 h (fun v_8 h_9 => (Q v_8 h_9))) ∧ (¬ (x2 = (5 : Int32)) → (((18 : Int32) ≤ x2 → wp_X8_needs x1 (x2 - (18 : Int32)) h (fun v_4 h_5 => (Q v_4 h_5))) ∧ (¬ ((18 : Int32) ≤ x2) → wp_X8_its x1 (x2 - (1 : Int32)) h (fun v_7 => (Q v_7 h))))))) ∧ (¬ ((5 : Int32) ≤ x2) → wp_X8_its x1 x2 h (fun v_11 => (Q v_11 h))))
set_option maxRecDepth 100000 in
set_option maxHeartbeats 4000000 in
theorem mt_X8_ofMan {l : Launch} {G : ab_G} {x1 : Int32} {x2 : Int32} {h : hp_T} {Q : Int32 → hp_T → Prop} (hw : wf h) (f : wp_X8_ofMan x1 x2 h Q) : ab_M l G yX8_ofMan cX8_ofMan 3 (some .int) rm_X8_ofMan 0 0 [.ref (G.1 + 105), .int x1, .int x2] h (po_h Q) := by
  refine ab_intro (own := RX8) (nm := "ofMan") rfl rfl rfl (Nat.le_of_ble_eq_true rfl) (fun F C => ?_)
  show ab_W l G F 3 (ab_MQ G F (po_h Q) 0 0) 0 0 h [(0, .ref (G.1 + 105)), (1, .int x1), (2, .int x2)] [] 0
  unfold wp_X8_ofMan at f
  refine ab_iload_n C 2 dX8_ofMan_0 rfl rfl ?_
  refine ab_iconst C (v := (5 : Int32)) dX8_ofMan_1 (by decide) ?_
  refine ab_icmp_ge C (tgt := 14) dX8_ofMan_2 (by decide) (fun c_1 => ?_) (fun c_1 => ?_)
  · have f := f.1 c_1
    refine ab_iload_n C 2 dX8_ofMan_14 rfl rfl ?_
    refine ab_iconst C (v := (5 : Int32)) dX8_ofMan_15 (by decide) ?_
    refine ab_icmp_ne C (tgt := 27) dX8_ofMan_16 (by decide) (fun c_2 => ?_) (fun c_2 => ?_)
    · have f := f.2 c_2
      refine ab_iload_n C 2 dX8_ofMan_27 rfl rfl ?_
      refine ab_bipush C (v := (18 : Int32)) dX8_ofMan_28 (by decide) ?_
      refine ab_icmp_ge C (tgt := 44) dX8_ofMan_30 (by decide) (fun c_3 => ?_) (fun c_3 => ?_)
      · have f := f.1 c_3
        refine ab_aload_n C 0 dX8_ofMan_44 rfl rfl ?_
        refine ab_iload_n C 1 dX8_ofMan_45 rfl rfl ?_
        refine ab_iload_n C 2 dX8_ofMan_46 rfl rfl ?_
        refine ab_bipush C (v := (18 : Int32)) dX8_ofMan_47 (by decide) ?_
        refine ab_isub C dX8_ofMan_49 ?_
        refine ab_callV C (k := 0) (n := 0) (rest := []) [.int x1, .int (x2 - (18 : Int32))] cl_X8_95 (mt_X8_needs  hw f) rfl (by decide) kd_105 (wf_lt hw kd_105 rfl) ⟨rfl, rfl, Nat.le_of_ble_eq_true rfl, Nat.le_of_ble_eq_true rfl, Nat.zero_le _, Nat.zero_le _⟩ rfl rfl (Nat.le_of_ble_eq_true rfl) dX8_ofMan_50 (ab_kh (k := 0) (n := 0) (fun v_4 h_5 hw_6 f => ?_))
        exact ab_iret C dX8_ofMan_53 ⟨hw_6, _, rfl, f⟩
      · have f := f.2 c_3
        refine ab_aload_n C 0 dX8_ofMan_33 rfl rfl ?_
        refine ab_iload_n C 1 dX8_ofMan_34 rfl rfl ?_
        refine ab_iload_n C 2 dX8_ofMan_35 rfl rfl ?_
        refine ab_iconst C (v := (1 : Int32)) dX8_ofMan_36 (by decide) ?_
        refine ab_isub C dX8_ofMan_37 ?_
        refine ab_callV C (k := 0) (n := 0) (rest := []) [.int x1, .int (x2 - (1 : Int32))] cl_X8_60 (mt_X8_its  hw f) rfl (by decide) kd_105 (wf_lt hw kd_105 rfl) ⟨rfl, rfl, Nat.le_of_ble_eq_true rfl, Nat.le_of_ble_eq_true rfl, Nat.zero_le _, Nat.zero_le _⟩ rfl rfl (Nat.le_of_ble_eq_true rfl) dX8_ofMan_38 (ab_kp (k := 0) (n := 0) (fun v_7 f => ?_))
        refine ab_goto C (tgt := 53) dX8_ofMan_41 (by decide) ?_
        exact ab_iret C dX8_ofMan_53 ⟨hw, _, rfl, f⟩
    · have f := f.1 c_2
      refine ab_aload_n C 0 dX8_ofMan_19 rfl rfl ?_
      refine ab_iload_n C 1 dX8_ofMan_20 rfl rfl ?_
      refine ab_callV C (k := 0) (n := 0) (rest := []) [.int x1] cl_X8_92 (mt_X8_wagesOf  hw f) rfl (by decide) kd_105 (wf_lt hw kd_105 rfl) ⟨rfl, rfl, Nat.le_of_ble_eq_true rfl, Nat.le_of_ble_eq_true rfl, Nat.zero_le _, Nat.zero_le _⟩ rfl rfl (Nat.le_of_ble_eq_true rfl) dX8_ofMan_21 (ab_kh (k := 0) (n := 0) (fun v_8 h_9 hw_10 f => ?_))
      refine ab_goto C (tgt := 53) dX8_ofMan_24 (by decide) ?_
      exact ab_iret C dX8_ofMan_53 ⟨hw_10, _, rfl, f⟩
  · have f := f.2 c_1
    refine ab_aload_n C 0 dX8_ofMan_5 rfl rfl ?_
    refine ab_iload_n C 1 dX8_ofMan_6 rfl rfl ?_
    refine ab_iload_n C 2 dX8_ofMan_7 rfl rfl ?_
    refine ab_callV C (k := 0) (n := 0) (rest := []) [.int x1, .int x2] cl_X8_60 (mt_X8_its  hw f) rfl (by decide) kd_105 (wf_lt hw kd_105 rfl) ⟨rfl, rfl, Nat.le_of_ble_eq_true rfl, Nat.le_of_ble_eq_true rfl, Nat.zero_le _, Nat.zero_le _⟩ rfl rfl (Nat.le_of_ble_eq_true rfl) dX8_ofMan_8 (ab_kp (k := 0) (n := 0) (fun v_11 f => ?_))
    refine ab_goto C (tgt := 53) dX8_ofMan_11 (by decide) ?_
    exact ab_iret C dX8_ofMan_53 ⟨hw, _, rfl, f⟩
/-! X8_bunkIs -/
def rm_X8_bunkIs : Room := { frames := 6, cells := 0, slots := 0, locals := 196 }
def wp_X8_bunkIs (x1 : Int32) (x2 : Int32) (h : hp_T) (Q : Int32 → hp_T → Prop) : Prop :=
  wp_X8_isBunk x1 h (fun v_1 => ((v_1 = 0 → wp_X8_errs (-1000000001 : Int32) h (fun v_3 h_4 => (Q v_3 h_4))) ∧ (¬ (v_1 = 0) → wp_X8_in x2.toInt64 (0 : Int64) (23 : Int64) h (fun v_6 => ((v_6 = 0 → wp_X8_errs (-1000000001 : Int32) h (fun v_8 h_9 => (Q v_8 h_9))) ∧ (¬ (v_6 = 0) → wp_X8_ofMan x1 x2 h (fun v_11 h_12 => (Q v_11 h_12))))))))
set_option maxRecDepth 100000 in
set_option maxHeartbeats 4000000 in
theorem mt_X8_bunkIs {l : Launch} {G : ab_G} {x1 : Int32} {x2 : Int32} {h : hp_T} {Q : Int32 → hp_T → Prop} (hw : wf h) (f : wp_X8_bunkIs x1 x2 h Q) : ab_M l G yX8_bunkIs cX8_bunkIs 3 (some .int) rm_X8_bunkIs 0 0 [.ref (G.1 + 105), .int x1, .int x2] h (po_h Q) := by
  refine ab_intro (own := RX8) (nm := "bunkIs") rfl rfl rfl (Nat.le_of_ble_eq_true rfl) (fun F C => ?_)
  show ab_W l G F 3 (ab_MQ G F (po_h Q) 0 0) 0 0 h [(0, .ref (G.1 + 105)), (1, .int x1), (2, .int x2)] [] 0
  unfold wp_X8_bunkIs at f
  refine ab_aload_n C 0 dX8_bunkIs_0 rfl rfl ?_
  refine ab_iload_n C 1 dX8_bunkIs_1 rfl rfl ?_
  refine ab_callV C (k := 0) (n := 0) (rest := []) [.int x1] cl_X8_98 (mt_X8_isBunk  hw f) rfl (by decide) kd_105 (wf_lt hw kd_105 rfl) ⟨rfl, rfl, Nat.le_of_ble_eq_true rfl, Nat.le_of_ble_eq_true rfl, Nat.zero_le _, Nat.zero_le _⟩ rfl rfl (Nat.le_of_ble_eq_true rfl) dX8_bunkIs_2 (ab_kp (k := 0) (n := 0) (fun v_1 f => ?_))
  refine ab_if_eq C (tgt := 29) dX8_bunkIs_5 (by decide) (fun c_2 => ?_) (fun c_2 => ?_)
  · have f := f.1 c_2
    refine ab_aload_n C 0 dX8_bunkIs_29 rfl rfl ?_
    refine ab_ldc C kw_t821 dX8_bunkIs_30 ?_
    refine ab_callV C (k := 0) (n := 0) (rest := []) [.int (-1000000001 : Int32)] cl_X8_84 (mt_X8_errs  hw f) rfl (by decide) kd_105 (wf_lt hw kd_105 rfl) ⟨rfl, rfl, Nat.le_of_ble_eq_true rfl, Nat.le_of_ble_eq_true rfl, Nat.zero_le _, Nat.zero_le _⟩ rfl rfl (Nat.le_of_ble_eq_true rfl) dX8_bunkIs_32 (ab_kh (k := 0) (n := 0) (fun v_3 h_4 hw_5 f => ?_))
    exact ab_iret C dX8_bunkIs_35 ⟨hw_5, _, rfl, f⟩
  · have f := f.2 c_2
    refine ab_iload_n C 2 dX8_bunkIs_8 rfl rfl ?_
    refine ab_i2l C dX8_bunkIs_9 ?_
    refine ab_lconst C (v := (0 : Int64)) dX8_bunkIs_10 (by decide) ?_
    refine ab_ldc2 C kw_t845 dX8_bunkIs_11 ?_
    refine ab_callS C (k := 0) (n := 0) (rest := []) [.long x2.toInt64, .long (0 : Int64), .long (23 : Int64)] cl_X8_44 (mt_X8_in  hw f) ⟨rfl, rfl, Nat.le_of_ble_eq_true rfl, Nat.le_of_ble_eq_true rfl, Nat.zero_le _, Nat.zero_le _⟩ rfl rfl (Nat.le_of_ble_eq_true rfl) dX8_bunkIs_14 (ab_kp (k := 0) (n := 0) (fun v_6 f => ?_))
    refine ab_if_eq C (tgt := 29) dX8_bunkIs_17 (by decide) (fun c_7 => ?_) (fun c_7 => ?_)
    · have f := f.1 c_7
      refine ab_aload_n C 0 dX8_bunkIs_29 rfl rfl ?_
      refine ab_ldc C kw_t821 dX8_bunkIs_30 ?_
      refine ab_callV C (k := 0) (n := 0) (rest := []) [.int (-1000000001 : Int32)] cl_X8_84 (mt_X8_errs  hw f) rfl (by decide) kd_105 (wf_lt hw kd_105 rfl) ⟨rfl, rfl, Nat.le_of_ble_eq_true rfl, Nat.le_of_ble_eq_true rfl, Nat.zero_le _, Nat.zero_le _⟩ rfl rfl (Nat.le_of_ble_eq_true rfl) dX8_bunkIs_32 (ab_kh (k := 0) (n := 0) (fun v_8 h_9 hw_10 f => ?_))
      exact ab_iret C dX8_bunkIs_35 ⟨hw_10, _, rfl, f⟩
    · have f := f.2 c_7
      refine ab_aload_n C 0 dX8_bunkIs_20 rfl rfl ?_
      refine ab_iload_n C 1 dX8_bunkIs_21 rfl rfl ?_
      refine ab_iload_n C 2 dX8_bunkIs_22 rfl rfl ?_
      refine ab_callV C (k := 0) (n := 0) (rest := []) [.int x1, .int x2] cl_X8_103 (mt_X8_ofMan  hw f) rfl (by decide) kd_105 (wf_lt hw kd_105 rfl) ⟨rfl, rfl, Nat.le_of_ble_eq_true rfl, Nat.le_of_ble_eq_true rfl, Nat.zero_le _, Nat.zero_le _⟩ rfl rfl (Nat.le_of_ble_eq_true rfl) dX8_bunkIs_23 (ab_kh (k := 0) (n := 0) (fun v_11 h_12 hw_13 f => ?_))
      refine ab_goto C (tgt := 35) dX8_bunkIs_26 (by decide) ?_
      exact ab_iret C dX8_bunkIs_35 ⟨hw_13, _, rfl, f⟩
/-! X8_runs -/
def rm_X8_runs : Room := { frames := 2, cells := 0, slots := 0, locals := 100 }
def wp_X8_runs (x1 : Int32) (h : hp_T) (Q : hp_T → Prop) : Prop :=
  (((30 : Int32) ≤ (hp_i h 105 15) → (Q h)) ∧ (¬ ((30 : Int32) ≤ (hp_i h 105 15)) → (vp_in (hp_i h 105 15) 30) ∧ (∀ h_3, h_3 = hp_si h 112 ((hp_i h 105 15).toNatClampNeg) x1 → (∀ h_6, h_6 = hp_si h_3 105 15 ((hp_i h_3 105 15) + (1 : Int32)) → (Q h_6)))))
set_option maxRecDepth 100000 in
set_option maxHeartbeats 4000000 in
theorem mt_X8_runs {l : Launch} {G : ab_G} {x1 : Int32} {h : hp_T} {Q : hp_T → Prop} (hw : wf h) (f : wp_X8_runs x1 h Q) : ab_M l G yX8_runs cX8_runs 2 none rm_X8_runs 0 0 [.ref (G.1 + 105), .int x1] h (po_v Q) := by
  refine ab_intro (own := RX8) (nm := "runs") rfl rfl rfl (Nat.le_of_ble_eq_true rfl) (fun F C => ?_)
  show ab_W l G F 2 (ab_MQ G F (po_v Q) 0 0) 0 0 h [(0, .ref (G.1 + 105)), (1, .int x1)] [] 0
  unfold wp_X8_runs at f
  refine ab_aload_n C 0 dX8_runs_0 rfl rfl ?_
  refine ab_getI C fl_X8_278 rfl kd_105 (wf_lt hw kd_105 rfl) dX8_runs_1 ?_
  refine ab_bipush C (v := (30 : Int32)) dX8_runs_4 (by decide) ?_
  refine ab_icmp_ge C (tgt := 29) dX8_runs_6 (by decide) (fun c_1 => ?_) (fun c_1 => ?_)
  · have f := f.1 c_1
    exact ab_vret C dX8_runs_29 ⟨hw, rfl, f⟩
  · have f := f.2 c_1
    refine ab_aload_n C 0 dX8_runs_9 rfl rfl ?_
    refine ab_getR C (q := 112) fl_X8_28 rfl kd_105 (wf_lt hw kd_105 rfl) (wr_8_14 hw) dX8_runs_10 ?_
    refine ab_aload_n C 0 dX8_runs_13 rfl rfl ?_
    refine ab_getI C fl_X8_278 rfl kd_105 (wf_lt hw kd_105 rfl) dX8_runs_14 ?_
    refine ab_iload_n C 1 dX8_runs_17 rfl rfl ?_
    obtain ⟨c_2, f⟩ := f
    refine ab_iast C (by rw [kd_112]; decide) (wf_lt hw kd_112 rfl) (wf_len hw kd_112 rfl rfl (by decide)) c_2 (j := (hp_i h 105 15).toNatClampNeg) rfl dX8_runs_18 (fun h_3 e_4 => ?_)
    have f := f h_3 e_4
    have hw_5 := wf_si e_4 hw
    refine ab_aload_n C 0 dX8_runs_19 rfl rfl ?_
    refine ab_dup C dX8_runs_20 rfl ?_
    refine ab_getI C fl_X8_278 rfl kd_105 (wf_lt hw_5 kd_105 rfl) dX8_runs_21 ?_
    refine ab_iconst C (v := (1 : Int32)) dX8_runs_24 (by decide) ?_
    refine ab_iadd C dX8_runs_25 ?_
    refine ab_putI C fl_X8_278 rfl kd_105 (wf_lt hw_5 kd_105 rfl) rfl rfl dX8_runs_26 (fun h_6 e_7 => ?_)
    have f := f h_6 e_7
    have hw_8 := wf_si e_7 hw_5
    exact ab_vret C dX8_runs_29 ⟨hw_8, rfl, f⟩
/-! X8_hearing -/
def rm_X8_hearing : Room := { frames := 4, cells := 0, slots := 0, locals := 143 }
def wp_X8_hearing_b35 (x1 : Int32) (Q : Int32 → hp_T → Prop) (y2 : Int32) (h : hp_T) : Prop :=
  ((y2 = (1 : Int32) → wp_X8_runs (20 : Int32) h (fun h_5 => wp_X8_runs (10 : Int32) h_5 (fun h_7 => ((y2 = (1 : Int32) → (Q ((x1 + (hp_i h_7 105 16)) - (6 : Int32)) h_7)) ∧ (¬ (y2 = (1 : Int32)) → ((y2 = (4 : Int32) → (Q (((x1 + (hp_i h_7 105 16)) - (6 : Int32)) * (3 : Int32)) h_7)) ∧ (¬ (y2 = (4 : Int32)) → (Q (x1 + (hp_i h_7 105 16)) h_7)))))))) ∧ (¬ (y2 = (1 : Int32)) → ((y2 = (4 : Int32) → wp_X8_runs (20 : Int32) h (fun h_16 => wp_X8_runs (10 : Int32) h_16 (fun h_18 => ((y2 = (1 : Int32) → (Q ((x1 + (hp_i h_18 105 16)) - (6 : Int32)) h_18)) ∧ (¬ (y2 = (1 : Int32)) → ((y2 = (4 : Int32) → (Q (((x1 + (hp_i h_18 105 16)) - (6 : Int32)) * (3 : Int32)) h_18)) ∧ (¬ (y2 = (4 : Int32)) → (Q (x1 + (hp_i h_18 105 16)) h_18)))))))) ∧ (¬ (y2 = (4 : Int32)) → wp_X8_runs (10 : Int32) h (fun h_12 => ((y2 = (1 : Int32) → (Q ((x1 + (hp_i h_12 105 16)) - (6 : Int32)) h_12)) ∧ (¬ (y2 = (1 : Int32)) → ((y2 = (4 : Int32) → (Q (((x1 + (hp_i h_12 105 16)) - (6 : Int32)) * (3 : Int32)) h_12)) ∧ (¬ (y2 = (4 : Int32)) → (Q (x1 + (hp_i h_12 105 16)) h_12))))))))))
set_option maxRecDepth 100000 in
set_option maxHeartbeats 4000000 in
theorem bt_X8_hearing_b35 {l : Launch} {G : ab_G} {F : ab_F} {x1 : Int32} {Q : Int32 → hp_T → Prop}  (C : ab_C G F rm_X8_hearing cX8_hearing 4 RX8 (some .int) "hearing")   : ∀ (y2 : Int32) (h : hp_T), wf h → wp_X8_hearing_b35 x1 Q y2 h → ab_W l G F 4 (ab_MQ G F (po_h Q) 0 0) 0 0 h [(0, .ref (G.1 + 105)), (1, .int x1), (2, .int y2)] [] 35 := by
  intro y2 h hw f
  unfold wp_X8_hearing_b35 at f
  refine ab_iload_n C 2 dX8_hearing_35 rfl rfl ?_
  refine ab_iconst C (v := (1 : Int32)) dX8_hearing_36 (by decide) ?_
  refine ab_icmp_eq C (tgt := 45) dX8_hearing_37 (by decide) (fun c_4 => ?_) (fun c_4 => ?_)
  · have f := f.1 c_4
    refine ab_aload_n C 0 dX8_hearing_45 rfl rfl ?_
    refine ab_bipush C (v := (20 : Int32)) dX8_hearing_46 (by decide) ?_
    refine ab_callV C (k := 0) (n := 0) (rest := []) [.int (20 : Int32)] cl_X8_284 (mt_X8_runs  hw f) rfl (by decide) kd_105 (wf_lt hw kd_105 rfl) ⟨rfl, rfl, Nat.le_of_ble_eq_true rfl, Nat.le_of_ble_eq_true rfl, Nat.zero_le _, Nat.zero_le _⟩ rfl rfl (Nat.le_of_ble_eq_true rfl) dX8_hearing_48 (ab_kv (k := 0) (n := 0) (fun h_5 hw_6 f => ?_))
    refine ab_aload_n C 0 dX8_hearing_51 rfl rfl ?_
    refine ab_bipush C (v := (10 : Int32)) dX8_hearing_52 (by decide) ?_
    refine ab_callV C (k := 0) (n := 0) (rest := []) [.int (10 : Int32)] cl_X8_284 (mt_X8_runs  hw_6 f) rfl (by decide) kd_105 (wf_lt hw_6 kd_105 rfl) ⟨rfl, rfl, Nat.le_of_ble_eq_true rfl, Nat.le_of_ble_eq_true rfl, Nat.zero_le _, Nat.zero_le _⟩ rfl rfl (Nat.le_of_ble_eq_true rfl) dX8_hearing_54 (ab_kv (k := 0) (n := 0) (fun h_7 hw_8 f => ?_))
    refine ab_iload_n C 1 dX8_hearing_57 rfl rfl ?_
    refine ab_aload_n C 0 dX8_hearing_58 rfl rfl ?_
    refine ab_getI C fl_X8_281 rfl kd_105 (wf_lt hw_8 kd_105 rfl) dX8_hearing_59 ?_
    refine ab_iadd C dX8_hearing_62 ?_
    refine ab_istore_n C (lv' := [(3, .int (x1 + (hp_i h_7 105 16))), (0, .ref (G.1 + 105)), (1, .int x1), (2, .int y2)]) dX8_hearing_63 rfl (by decide) rfl ?_
    refine ab_iload_n C 3 dX8_hearing_64 rfl rfl ?_
    refine ab_iconst C (v := (1 : Int32)) dX8_hearing_65 (by decide) ?_
    refine ab_icmp_ne C (tgt := 76) dX8_hearing_66 (by decide) (fun c_9 => ?_) (fun c_9 => ?_)
    · have f := f.2 c_9
      refine ab_iload_n C 3 dX8_hearing_76 rfl rfl ?_
      refine ab_iconst C (v := (4 : Int32)) dX8_hearing_77 (by decide) ?_
      refine ab_icmp_ne C (tgt := 90) dX8_hearing_78 (by decide) (fun c_10 => ?_) (fun c_10 => ?_)
      · have f := f.2 c_10
        refine ab_iload_n C 0 dX8_hearing_90 rfl rfl ?_
        exact ab_iret C dX8_hearing_91 ⟨hw_8, _, rfl, f⟩
      · have f := f.1 c_10
        refine ab_iload_n C 0 dX8_hearing_81 rfl rfl ?_
        refine ab_bipush C (v := (6 : Int32)) dX8_hearing_82 (by decide) ?_
        refine ab_isub C dX8_hearing_84 ?_
        refine ab_iconst C (v := (3 : Int32)) dX8_hearing_85 (by decide) ?_
        refine ab_imul C dX8_hearing_86 ?_
        refine ab_goto C (tgt := 91) dX8_hearing_87 (by decide) ?_
        exact ab_iret C dX8_hearing_91 ⟨hw_8, _, rfl, f⟩
    · have f := f.1 c_9
      refine ab_iload_n C 0 dX8_hearing_69 rfl rfl ?_
      refine ab_bipush C (v := (6 : Int32)) dX8_hearing_70 (by decide) ?_
      refine ab_isub C dX8_hearing_72 ?_
      refine ab_goto C (tgt := 91) dX8_hearing_73 (by decide) ?_
      exact ab_iret C dX8_hearing_91 ⟨hw_8, _, rfl, f⟩
  · have f := f.2 c_4
    refine ab_iload_n C 2 dX8_hearing_40 rfl rfl ?_
    refine ab_iconst C (v := (4 : Int32)) dX8_hearing_41 (by decide) ?_
    refine ab_icmp_ne C (tgt := 51) dX8_hearing_42 (by decide) (fun c_11 => ?_) (fun c_11 => ?_)
    · have f := f.2 c_11
      refine ab_aload_n C 0 dX8_hearing_51 rfl rfl ?_
      refine ab_bipush C (v := (10 : Int32)) dX8_hearing_52 (by decide) ?_
      refine ab_callV C (k := 0) (n := 0) (rest := []) [.int (10 : Int32)] cl_X8_284 (mt_X8_runs  hw f) rfl (by decide) kd_105 (wf_lt hw kd_105 rfl) ⟨rfl, rfl, Nat.le_of_ble_eq_true rfl, Nat.le_of_ble_eq_true rfl, Nat.zero_le _, Nat.zero_le _⟩ rfl rfl (Nat.le_of_ble_eq_true rfl) dX8_hearing_54 (ab_kv (k := 0) (n := 0) (fun h_12 hw_13 f => ?_))
      refine ab_iload_n C 1 dX8_hearing_57 rfl rfl ?_
      refine ab_aload_n C 0 dX8_hearing_58 rfl rfl ?_
      refine ab_getI C fl_X8_281 rfl kd_105 (wf_lt hw_13 kd_105 rfl) dX8_hearing_59 ?_
      refine ab_iadd C dX8_hearing_62 ?_
      refine ab_istore_n C (lv' := [(3, .int (x1 + (hp_i h_12 105 16))), (0, .ref (G.1 + 105)), (1, .int x1), (2, .int y2)]) dX8_hearing_63 rfl (by decide) rfl ?_
      refine ab_iload_n C 3 dX8_hearing_64 rfl rfl ?_
      refine ab_iconst C (v := (1 : Int32)) dX8_hearing_65 (by decide) ?_
      refine ab_icmp_ne C (tgt := 76) dX8_hearing_66 (by decide) (fun c_14 => ?_) (fun c_14 => ?_)
      · have f := f.2 c_14
        refine ab_iload_n C 3 dX8_hearing_76 rfl rfl ?_
        refine ab_iconst C (v := (4 : Int32)) dX8_hearing_77 (by decide) ?_
        refine ab_icmp_ne C (tgt := 90) dX8_hearing_78 (by decide) (fun c_15 => ?_) (fun c_15 => ?_)
        · have f := f.2 c_15
          refine ab_iload_n C 0 dX8_hearing_90 rfl rfl ?_
          exact ab_iret C dX8_hearing_91 ⟨hw_13, _, rfl, f⟩
        · have f := f.1 c_15
          refine ab_iload_n C 0 dX8_hearing_81 rfl rfl ?_
          refine ab_bipush C (v := (6 : Int32)) dX8_hearing_82 (by decide) ?_
          refine ab_isub C dX8_hearing_84 ?_
          refine ab_iconst C (v := (3 : Int32)) dX8_hearing_85 (by decide) ?_
          refine ab_imul C dX8_hearing_86 ?_
          refine ab_goto C (tgt := 91) dX8_hearing_87 (by decide) ?_
          exact ab_iret C dX8_hearing_91 ⟨hw_13, _, rfl, f⟩
      · have f := f.1 c_14
        refine ab_iload_n C 0 dX8_hearing_69 rfl rfl ?_
        refine ab_bipush C (v := (6 : Int32)) dX8_hearing_70 (by decide) ?_
        refine ab_isub C dX8_hearing_72 ?_
        refine ab_goto C (tgt := 91) dX8_hearing_73 (by decide) ?_
        exact ab_iret C dX8_hearing_91 ⟨hw_13, _, rfl, f⟩
    · have f := f.1 c_11
      refine ab_aload_n C 0 dX8_hearing_45 rfl rfl ?_
      refine ab_bipush C (v := (20 : Int32)) dX8_hearing_46 (by decide) ?_
      refine ab_callV C (k := 0) (n := 0) (rest := []) [.int (20 : Int32)] cl_X8_284 (mt_X8_runs  hw f) rfl (by decide) kd_105 (wf_lt hw kd_105 rfl) ⟨rfl, rfl, Nat.le_of_ble_eq_true rfl, Nat.le_of_ble_eq_true rfl, Nat.zero_le _, Nat.zero_le _⟩ rfl rfl (Nat.le_of_ble_eq_true rfl) dX8_hearing_48 (ab_kv (k := 0) (n := 0) (fun h_16 hw_17 f => ?_))
      refine ab_aload_n C 0 dX8_hearing_51 rfl rfl ?_
      refine ab_bipush C (v := (10 : Int32)) dX8_hearing_52 (by decide) ?_
      refine ab_callV C (k := 0) (n := 0) (rest := []) [.int (10 : Int32)] cl_X8_284 (mt_X8_runs  hw_17 f) rfl (by decide) kd_105 (wf_lt hw_17 kd_105 rfl) ⟨rfl, rfl, Nat.le_of_ble_eq_true rfl, Nat.le_of_ble_eq_true rfl, Nat.zero_le _, Nat.zero_le _⟩ rfl rfl (Nat.le_of_ble_eq_true rfl) dX8_hearing_54 (ab_kv (k := 0) (n := 0) (fun h_18 hw_19 f => ?_))
      refine ab_iload_n C 1 dX8_hearing_57 rfl rfl ?_
      refine ab_aload_n C 0 dX8_hearing_58 rfl rfl ?_
      refine ab_getI C fl_X8_281 rfl kd_105 (wf_lt hw_19 kd_105 rfl) dX8_hearing_59 ?_
      refine ab_iadd C dX8_hearing_62 ?_
      refine ab_istore_n C (lv' := [(3, .int (x1 + (hp_i h_18 105 16))), (0, .ref (G.1 + 105)), (1, .int x1), (2, .int y2)]) dX8_hearing_63 rfl (by decide) rfl ?_
      refine ab_iload_n C 3 dX8_hearing_64 rfl rfl ?_
      refine ab_iconst C (v := (1 : Int32)) dX8_hearing_65 (by decide) ?_
      refine ab_icmp_ne C (tgt := 76) dX8_hearing_66 (by decide) (fun c_20 => ?_) (fun c_20 => ?_)
      · have f := f.2 c_20
        refine ab_iload_n C 3 dX8_hearing_76 rfl rfl ?_
        refine ab_iconst C (v := (4 : Int32)) dX8_hearing_77 (by decide) ?_
        refine ab_icmp_ne C (tgt := 90) dX8_hearing_78 (by decide) (fun c_21 => ?_) (fun c_21 => ?_)
        · have f := f.2 c_21
          refine ab_iload_n C 0 dX8_hearing_90 rfl rfl ?_
          exact ab_iret C dX8_hearing_91 ⟨hw_19, _, rfl, f⟩
        · have f := f.1 c_21
          refine ab_iload_n C 0 dX8_hearing_81 rfl rfl ?_
          refine ab_bipush C (v := (6 : Int32)) dX8_hearing_82 (by decide) ?_
          refine ab_isub C dX8_hearing_84 ?_
          refine ab_iconst C (v := (3 : Int32)) dX8_hearing_85 (by decide) ?_
          refine ab_imul C dX8_hearing_86 ?_
          refine ab_goto C (tgt := 91) dX8_hearing_87 (by decide) ?_
          exact ab_iret C dX8_hearing_91 ⟨hw_19, _, rfl, f⟩
      · have f := f.1 c_20
        refine ab_iload_n C 0 dX8_hearing_69 rfl rfl ?_
        refine ab_bipush C (v := (6 : Int32)) dX8_hearing_70 (by decide) ?_
        refine ab_isub C dX8_hearing_72 ?_
        refine ab_goto C (tgt := 91) dX8_hearing_73 (by decide) ?_
        exact ab_iret C dX8_hearing_91 ⟨hw_19, _, rfl, f⟩
def wp_X8_hearing (x1 : Int32) (h : hp_T) (Q : Int32 → hp_T → Prop) : Prop :=
  wp_X8_its (hp_i h 105 16) (0 : Int32) h (fun v_1 => ((v_1 = (6 : Int32) → wp_X8_runs (70 : Int32) h (fun h_24 => (Q (5 : Int32) h_24))) ∧ (¬ (v_1 = (6 : Int32)) → ((v_1 = (4 : Int32) → wp_X8_runs (50 : Int32) h (fun h_22 => (wp_X8_hearing_b35 x1 Q  v_1 h_22))) ∧ (¬ (v_1 = (4 : Int32)) → (wp_X8_hearing_b35 x1 Q  v_1 h))))))
set_option maxRecDepth 100000 in
set_option maxHeartbeats 4000000 in
theorem mt_X8_hearing {l : Launch} {G : ab_G} {x1 : Int32} {h : hp_T} {Q : Int32 → hp_T → Prop} (hw : wf h) (f : wp_X8_hearing x1 h Q) : ab_M l G yX8_hearing cX8_hearing 4 (some .int) rm_X8_hearing 0 0 [.ref (G.1 + 105), .int x1] h (po_h Q) := by
  refine ab_intro (own := RX8) (nm := "hearing") rfl rfl rfl (Nat.le_of_ble_eq_true rfl) (fun F C => ?_)
  show ab_W l G F 4 (ab_MQ G F (po_h Q) 0 0) 0 0 h [(0, .ref (G.1 + 105)), (1, .int x1)] [] 0
  unfold wp_X8_hearing at f
  refine ab_aload_n C 0 dX8_hearing_0 rfl rfl ?_
  refine ab_aload_n C 0 dX8_hearing_1 rfl rfl ?_
  refine ab_getI C fl_X8_281 rfl kd_105 (wf_lt hw kd_105 rfl) dX8_hearing_2 ?_
  refine ab_iconst C (v := (0 : Int32)) dX8_hearing_5 (by decide) ?_
  refine ab_callV C (k := 0) (n := 0) (rest := []) [.int (hp_i h 105 16), .int (0 : Int32)] cl_X8_60 (mt_X8_its  hw f) rfl (by decide) kd_105 (wf_lt hw kd_105 rfl) ⟨rfl, rfl, Nat.le_of_ble_eq_true rfl, Nat.le_of_ble_eq_true rfl, Nat.zero_le _, Nat.zero_le _⟩ rfl rfl (Nat.le_of_ble_eq_true rfl) dX8_hearing_6 (ab_kp (k := 0) (n := 0) (fun v_1 f => ?_))
  refine ab_istore_n C (lv' := [(2, .int v_1), (0, .ref (G.1 + 105)), (1, .int x1)]) dX8_hearing_9 rfl (by decide) rfl ?_
  refine ab_iload_n C 0 dX8_hearing_10 rfl rfl ?_
  refine ab_bipush C (v := (6 : Int32)) dX8_hearing_11 (by decide) ?_
  refine ab_icmp_ne C (tgt := 24) dX8_hearing_13 (by decide) (fun c_2 => ?_) (fun c_2 => ?_)
  · have f := f.2 c_2
    refine ab_iload_n C 0 dX8_hearing_24 rfl rfl ?_
    refine ab_iconst C (v := (4 : Int32)) dX8_hearing_25 (by decide) ?_
    refine ab_icmp_ne C (tgt := 35) dX8_hearing_26 (by decide) (fun c_3 => ?_) (fun c_3 => ?_)
    · have f := f.2 c_3
      refine ab_sub (lv' := [(0, .ref (G.1 + 105)), (1, .int x1), (2, .int v_1)]) [1, 2, 0] rfl ?_
      exact bt_X8_hearing_b35 C     v_1 h  hw f
    · have f := f.1 c_3
      refine ab_aload_n C 1 dX8_hearing_29 rfl rfl ?_
      refine ab_bipush C (v := (50 : Int32)) dX8_hearing_30 (by decide) ?_
      refine ab_callV C (k := 0) (n := 0) (rest := []) [.int (50 : Int32)] cl_X8_284 (mt_X8_runs  hw f) rfl (by decide) kd_105 (wf_lt hw kd_105 rfl) ⟨rfl, rfl, Nat.le_of_ble_eq_true rfl, Nat.le_of_ble_eq_true rfl, Nat.zero_le _, Nat.zero_le _⟩ rfl rfl (Nat.le_of_ble_eq_true rfl) dX8_hearing_32 (ab_kv (k := 0) (n := 0) (fun h_22 hw_23 f => ?_))
      refine ab_sub (lv' := [(0, .ref (G.1 + 105)), (1, .int x1), (2, .int v_1)]) [1, 2, 0] rfl ?_
      exact bt_X8_hearing_b35 C     v_1 h_22  hw_23 f
  · have f := f.1 c_2
    refine ab_aload_n C 1 dX8_hearing_16 rfl rfl ?_
    refine ab_bipush C (v := (70 : Int32)) dX8_hearing_17 (by decide) ?_
    refine ab_callV C (k := 0) (n := 0) (rest := []) [.int (70 : Int32)] cl_X8_284 (mt_X8_runs  hw f) rfl (by decide) kd_105 (wf_lt hw kd_105 rfl) ⟨rfl, rfl, Nat.le_of_ble_eq_true rfl, Nat.le_of_ble_eq_true rfl, Nat.zero_le _, Nat.zero_le _⟩ rfl rfl (Nat.le_of_ble_eq_true rfl) dX8_hearing_19 (ab_kv (k := 0) (n := 0) (fun h_24 hw_25 f => ?_))
    refine ab_iconst C (v := (5 : Int32)) dX8_hearing_22 (by decide) ?_
    exact ab_iret C dX8_hearing_23 ⟨hw_25, _, rfl, f⟩
/-! X8_telling -/
def rm_X8_telling : Room := { frames := 5, cells := 0, slots := 0, locals := 166 }
def wp_X8_telling_b49 (x1 : Int32) (Q : Int32 → hp_T → Prop) (y2 : Int32) (h : hp_T) : Prop :=
  wp_X8_runs (11 : Int32) h (fun h_7 => ((y2 = (5 : Int32) → wp_X8_hearing (x1 + (1 : Int32)) h_7 (fun v_17 h_18 => ((y2 = (6 : Int32) → wp_X8_its (hp_i h_18 105 16) (1 : Int32) h_18 (fun v_23 => (Q ((v_17 * (2 : Int32)) + v_23) h_18))) ∧ (¬ (y2 = (6 : Int32)) → ((y2 = (2 : Int32) → (Q ((0 : Int32) - (v_17 * (2 : Int32))) h_18)) ∧ (¬ (y2 = (2 : Int32)) → ((y2 = (5 : Int32) → (Q ((0 : Int32) - (v_17 * (2 : Int32))) h_18)) ∧ (¬ (y2 = (5 : Int32)) → (Q (v_17 * (2 : Int32)) h_18))))))))) ∧ (¬ (y2 = (5 : Int32)) → wp_X8_hearing x1 h_7 (fun v_10 h_11 => ((y2 = (6 : Int32) → wp_X8_its (hp_i h_11 105 16) (1 : Int32) h_11 (fun v_16 => (Q ((v_10 * (2 : Int32)) + v_16) h_11))) ∧ (¬ (y2 = (6 : Int32)) → ((y2 = (2 : Int32) → (Q ((0 : Int32) - (v_10 * (2 : Int32))) h_11)) ∧ (¬ (y2 = (2 : Int32)) → ((y2 = (5 : Int32) → (Q ((0 : Int32) - (v_10 * (2 : Int32))) h_11)) ∧ (¬ (y2 = (5 : Int32)) → (Q (v_10 * (2 : Int32)) h_11)))))))))))
set_option maxRecDepth 100000 in
set_option maxHeartbeats 4000000 in
theorem bt_X8_telling_b49 {l : Launch} {G : ab_G} {F : ab_F} {x1 : Int32} {Q : Int32 → hp_T → Prop}  (C : ab_C G F rm_X8_telling cX8_telling 4 RX8 (some .int) "telling")   : ∀ (y2 : Int32) (h : hp_T), wf h → wp_X8_telling_b49 x1 Q y2 h → ab_W l G F 4 (ab_MQ G F (po_h Q) 0 0) 0 0 h [(0, .ref (G.1 + 105)), (1, .int x1), (2, .int y2)] [] 49 := by
  intro y2 h hw f
  unfold wp_X8_telling_b49 at f
  refine ab_aload_n C 0 dX8_telling_49 rfl rfl ?_
  refine ab_bipush C (v := (11 : Int32)) dX8_telling_50 (by decide) ?_
  refine ab_callV C (k := 0) (n := 0) (rest := []) [.int (11 : Int32)] cl_X8_284 (mt_X8_runs  hw f) rfl (by decide) kd_105 (wf_lt hw kd_105 rfl) ⟨rfl, rfl, Nat.le_of_ble_eq_true rfl, Nat.le_of_ble_eq_true rfl, Nat.zero_le _, Nat.zero_le _⟩ rfl rfl (Nat.le_of_ble_eq_true rfl) dX8_telling_52 (ab_kv (k := 0) (n := 0) (fun h_7 hw_8 f => ?_))
  refine ab_aload_n C 0 dX8_telling_55 rfl rfl ?_
  refine ab_iload_n C 2 dX8_telling_56 rfl rfl ?_
  refine ab_iconst C (v := (5 : Int32)) dX8_telling_57 (by decide) ?_
  refine ab_icmp_ne C (tgt := 67) dX8_telling_58 (by decide) (fun c_9 => ?_) (fun c_9 => ?_)
  · have f := f.2 c_9
    refine ab_iload_n C 1 dX8_telling_67 rfl rfl ?_
    refine ab_callV C (k := 0) (n := 0) (rest := []) [.int x1] cl_X8_287 (mt_X8_hearing  hw_8 f) rfl (by decide) kd_105 (wf_lt hw_8 kd_105 rfl) ⟨rfl, rfl, Nat.le_of_ble_eq_true rfl, Nat.le_of_ble_eq_true rfl, Nat.zero_le _, Nat.zero_le _⟩ rfl rfl (Nat.le_of_ble_eq_true rfl) dX8_telling_68 (ab_kh (k := 0) (n := 0) (fun v_10 h_11 hw_12 f => ?_))
    refine ab_iconst C (v := (2 : Int32)) dX8_telling_71 (by decide) ?_
    refine ab_imul C dX8_telling_72 ?_
    refine ab_istore_n C (lv' := [(3, .int (v_10 * (2 : Int32))), (0, .ref (G.1 + 105)), (1, .int x1), (2, .int y2)]) dX8_telling_73 rfl (by decide) rfl ?_
    refine ab_iload_n C 3 dX8_telling_74 rfl rfl ?_
    refine ab_bipush C (v := (6 : Int32)) dX8_telling_75 (by decide) ?_
    refine ab_icmp_ne C (tgt := 94) dX8_telling_77 (by decide) (fun c_13 => ?_) (fun c_13 => ?_)
    · have f := f.2 c_13
      refine ab_iload_n C 3 dX8_telling_94 rfl rfl ?_
      refine ab_iconst C (v := (2 : Int32)) dX8_telling_95 (by decide) ?_
      refine ab_icmp_eq C (tgt := 104) dX8_telling_96 (by decide) (fun c_14 => ?_) (fun c_14 => ?_)
      · have f := f.1 c_14
        refine ab_iconst C (v := (0 : Int32)) dX8_telling_104 (by decide) ?_
        refine ab_iload_n C 0 dX8_telling_105 rfl rfl ?_
        refine ab_isub C dX8_telling_106 ?_
        refine ab_goto C (tgt := 111) dX8_telling_107 (by decide) ?_
        exact ab_iret C dX8_telling_111 ⟨hw_12, _, rfl, f⟩
      · have f := f.2 c_14
        refine ab_iload_n C 3 dX8_telling_99 rfl rfl ?_
        refine ab_iconst C (v := (5 : Int32)) dX8_telling_100 (by decide) ?_
        refine ab_icmp_ne C (tgt := 110) dX8_telling_101 (by decide) (fun c_15 => ?_) (fun c_15 => ?_)
        · have f := f.2 c_15
          refine ab_iload_n C 0 dX8_telling_110 rfl rfl ?_
          exact ab_iret C dX8_telling_111 ⟨hw_12, _, rfl, f⟩
        · have f := f.1 c_15
          refine ab_iconst C (v := (0 : Int32)) dX8_telling_104 (by decide) ?_
          refine ab_iload_n C 0 dX8_telling_105 rfl rfl ?_
          refine ab_isub C dX8_telling_106 ?_
          refine ab_goto C (tgt := 111) dX8_telling_107 (by decide) ?_
          exact ab_iret C dX8_telling_111 ⟨hw_12, _, rfl, f⟩
    · have f := f.1 c_13
      refine ab_iload_n C 0 dX8_telling_80 rfl rfl ?_
      refine ab_aload_n C 1 dX8_telling_81 rfl rfl ?_
      refine ab_aload_n C 1 dX8_telling_82 rfl rfl ?_
      refine ab_getI C fl_X8_281 rfl kd_105 (wf_lt hw_12 kd_105 rfl) dX8_telling_83 ?_
      refine ab_iconst C (v := (1 : Int32)) dX8_telling_86 (by decide) ?_
      refine ab_callV C (k := 0) (n := 0) (rest := [.int (v_10 * (2 : Int32))]) [.int (hp_i h_11 105 16), .int (1 : Int32)] cl_X8_60 (mt_X8_its  hw_12 f) rfl (by decide) kd_105 (wf_lt hw_12 kd_105 rfl) ⟨rfl, rfl, Nat.le_of_ble_eq_true rfl, Nat.le_of_ble_eq_true rfl, Nat.zero_le _, Nat.zero_le _⟩ rfl rfl (Nat.le_of_ble_eq_true rfl) dX8_telling_87 (ab_kp (k := 0) (n := 0) (fun v_16 f => ?_))
      refine ab_iadd C dX8_telling_90 ?_
      refine ab_goto C (tgt := 111) dX8_telling_91 (by decide) ?_
      exact ab_iret C dX8_telling_111 ⟨hw_12, _, rfl, f⟩
  · have f := f.1 c_9
    refine ab_iload_n C 1 dX8_telling_61 rfl rfl ?_
    refine ab_iconst C (v := (1 : Int32)) dX8_telling_62 (by decide) ?_
    refine ab_iadd C dX8_telling_63 ?_
    refine ab_goto C (tgt := 68) dX8_telling_64 (by decide) ?_
    refine ab_callV C (k := 0) (n := 0) (rest := []) [.int (x1 + (1 : Int32))] cl_X8_287 (mt_X8_hearing  hw_8 f) rfl (by decide) kd_105 (wf_lt hw_8 kd_105 rfl) ⟨rfl, rfl, Nat.le_of_ble_eq_true rfl, Nat.le_of_ble_eq_true rfl, Nat.zero_le _, Nat.zero_le _⟩ rfl rfl (Nat.le_of_ble_eq_true rfl) dX8_telling_68 (ab_kh (k := 0) (n := 0) (fun v_17 h_18 hw_19 f => ?_))
    refine ab_iconst C (v := (2 : Int32)) dX8_telling_71 (by decide) ?_
    refine ab_imul C dX8_telling_72 ?_
    refine ab_istore_n C (lv' := [(3, .int (v_17 * (2 : Int32))), (0, .ref (G.1 + 105)), (1, .int x1), (2, .int y2)]) dX8_telling_73 rfl (by decide) rfl ?_
    refine ab_iload_n C 3 dX8_telling_74 rfl rfl ?_
    refine ab_bipush C (v := (6 : Int32)) dX8_telling_75 (by decide) ?_
    refine ab_icmp_ne C (tgt := 94) dX8_telling_77 (by decide) (fun c_20 => ?_) (fun c_20 => ?_)
    · have f := f.2 c_20
      refine ab_iload_n C 3 dX8_telling_94 rfl rfl ?_
      refine ab_iconst C (v := (2 : Int32)) dX8_telling_95 (by decide) ?_
      refine ab_icmp_eq C (tgt := 104) dX8_telling_96 (by decide) (fun c_21 => ?_) (fun c_21 => ?_)
      · have f := f.1 c_21
        refine ab_iconst C (v := (0 : Int32)) dX8_telling_104 (by decide) ?_
        refine ab_iload_n C 0 dX8_telling_105 rfl rfl ?_
        refine ab_isub C dX8_telling_106 ?_
        refine ab_goto C (tgt := 111) dX8_telling_107 (by decide) ?_
        exact ab_iret C dX8_telling_111 ⟨hw_19, _, rfl, f⟩
      · have f := f.2 c_21
        refine ab_iload_n C 3 dX8_telling_99 rfl rfl ?_
        refine ab_iconst C (v := (5 : Int32)) dX8_telling_100 (by decide) ?_
        refine ab_icmp_ne C (tgt := 110) dX8_telling_101 (by decide) (fun c_22 => ?_) (fun c_22 => ?_)
        · have f := f.2 c_22
          refine ab_iload_n C 0 dX8_telling_110 rfl rfl ?_
          exact ab_iret C dX8_telling_111 ⟨hw_19, _, rfl, f⟩
        · have f := f.1 c_22
          refine ab_iconst C (v := (0 : Int32)) dX8_telling_104 (by decide) ?_
          refine ab_iload_n C 0 dX8_telling_105 rfl rfl ?_
          refine ab_isub C dX8_telling_106 ?_
          refine ab_goto C (tgt := 111) dX8_telling_107 (by decide) ?_
          exact ab_iret C dX8_telling_111 ⟨hw_19, _, rfl, f⟩
    · have f := f.1 c_20
      refine ab_iload_n C 0 dX8_telling_80 rfl rfl ?_
      refine ab_aload_n C 1 dX8_telling_81 rfl rfl ?_
      refine ab_aload_n C 1 dX8_telling_82 rfl rfl ?_
      refine ab_getI C fl_X8_281 rfl kd_105 (wf_lt hw_19 kd_105 rfl) dX8_telling_83 ?_
      refine ab_iconst C (v := (1 : Int32)) dX8_telling_86 (by decide) ?_
      refine ab_callV C (k := 0) (n := 0) (rest := [.int (v_17 * (2 : Int32))]) [.int (hp_i h_18 105 16), .int (1 : Int32)] cl_X8_60 (mt_X8_its  hw_19 f) rfl (by decide) kd_105 (wf_lt hw_19 kd_105 rfl) ⟨rfl, rfl, Nat.le_of_ble_eq_true rfl, Nat.le_of_ble_eq_true rfl, Nat.zero_le _, Nat.zero_le _⟩ rfl rfl (Nat.le_of_ble_eq_true rfl) dX8_telling_87 (ab_kp (k := 0) (n := 0) (fun v_23 f => ?_))
      refine ab_iadd C dX8_telling_90 ?_
      refine ab_goto C (tgt := 111) dX8_telling_91 (by decide) ?_
      exact ab_iret C dX8_telling_111 ⟨hw_19, _, rfl, f⟩
def wp_X8_telling (x1 : Int32) (h : hp_T) (Q : Int32 → hp_T → Prop) : Prop :=
  wp_X8_its (hp_i h 105 16) (0 : Int32) h (fun v_1 => ((v_1 = (6 : Int32) → wp_X8_runs (71 : Int32) h (fun h_35 => ((v_1 = (5 : Int32) → wp_X8_runs (60 : Int32) h_35 (fun h_44 => ((v_1 = (2 : Int32) → wp_X8_runs (30 : Int32) h_44 (fun h_47 => (wp_X8_telling_b49 x1 Q  v_1 h_47))) ∧ (¬ (v_1 = (2 : Int32)) → ((v_1 = (5 : Int32) → wp_X8_runs (30 : Int32) h_44 (fun h_50 => (wp_X8_telling_b49 x1 Q  v_1 h_50))) ∧ (¬ (v_1 = (5 : Int32)) → (wp_X8_telling_b49 x1 Q  v_1 h_44))))))) ∧ (¬ (v_1 = (5 : Int32)) → ((v_1 = (2 : Int32) → wp_X8_runs (30 : Int32) h_35 (fun h_39 => (wp_X8_telling_b49 x1 Q  v_1 h_39))) ∧ (¬ (v_1 = (2 : Int32)) → ((v_1 = (5 : Int32) → wp_X8_runs (30 : Int32) h_35 (fun h_42 => (wp_X8_telling_b49 x1 Q  v_1 h_42))) ∧ (¬ (v_1 = (5 : Int32)) → (wp_X8_telling_b49 x1 Q  v_1 h_35))))))))) ∧ (¬ (v_1 = (6 : Int32)) → ((v_1 = (5 : Int32) → wp_X8_runs (60 : Int32) h (fun h_27 => ((v_1 = (2 : Int32) → wp_X8_runs (30 : Int32) h_27 (fun h_30 => (wp_X8_telling_b49 x1 Q  v_1 h_30))) ∧ (¬ (v_1 = (2 : Int32)) → ((v_1 = (5 : Int32) → wp_X8_runs (30 : Int32) h_27 (fun h_33 => (wp_X8_telling_b49 x1 Q  v_1 h_33))) ∧ (¬ (v_1 = (5 : Int32)) → (wp_X8_telling_b49 x1 Q  v_1 h_27))))))) ∧ (¬ (v_1 = (5 : Int32)) → ((v_1 = (2 : Int32) → wp_X8_runs (30 : Int32) h (fun h_5 => (wp_X8_telling_b49 x1 Q  v_1 h_5))) ∧ (¬ (v_1 = (2 : Int32)) → ((v_1 = (5 : Int32) → wp_X8_runs (30 : Int32) h (fun h_25 => (wp_X8_telling_b49 x1 Q  v_1 h_25))) ∧ (¬ (v_1 = (5 : Int32)) → (wp_X8_telling_b49 x1 Q  v_1 h))))))))))
set_option maxRecDepth 100000 in
set_option maxHeartbeats 4000000 in
theorem mt_X8_telling {l : Launch} {G : ab_G} {x1 : Int32} {h : hp_T} {Q : Int32 → hp_T → Prop} (hw : wf h) (f : wp_X8_telling x1 h Q) : ab_M l G yX8_telling cX8_telling 4 (some .int) rm_X8_telling 0 0 [.ref (G.1 + 105), .int x1] h (po_h Q) := by
  refine ab_intro (own := RX8) (nm := "telling") rfl rfl rfl (Nat.le_of_ble_eq_true rfl) (fun F C => ?_)
  show ab_W l G F 4 (ab_MQ G F (po_h Q) 0 0) 0 0 h [(0, .ref (G.1 + 105)), (1, .int x1)] [] 0
  unfold wp_X8_telling at f
  refine ab_aload_n C 0 dX8_telling_0 rfl rfl ?_
  refine ab_aload_n C 0 dX8_telling_1 rfl rfl ?_
  refine ab_getI C fl_X8_281 rfl kd_105 (wf_lt hw kd_105 rfl) dX8_telling_2 ?_
  refine ab_iconst C (v := (0 : Int32)) dX8_telling_5 (by decide) ?_
  refine ab_callV C (k := 0) (n := 0) (rest := []) [.int (hp_i h 105 16), .int (0 : Int32)] cl_X8_60 (mt_X8_its  hw f) rfl (by decide) kd_105 (wf_lt hw kd_105 rfl) ⟨rfl, rfl, Nat.le_of_ble_eq_true rfl, Nat.le_of_ble_eq_true rfl, Nat.zero_le _, Nat.zero_le _⟩ rfl rfl (Nat.le_of_ble_eq_true rfl) dX8_telling_6 (ab_kp (k := 0) (n := 0) (fun v_1 f => ?_))
  refine ab_istore_n C (lv' := [(2, .int v_1), (0, .ref (G.1 + 105)), (1, .int x1)]) dX8_telling_9 rfl (by decide) rfl ?_
  refine ab_iload_n C 0 dX8_telling_10 rfl rfl ?_
  refine ab_bipush C (v := (6 : Int32)) dX8_telling_11 (by decide) ?_
  refine ab_icmp_ne C (tgt := 22) dX8_telling_13 (by decide) (fun c_2 => ?_) (fun c_2 => ?_)
  · have f := f.2 c_2
    refine ab_iload_n C 0 dX8_telling_22 rfl rfl ?_
    refine ab_iconst C (v := (5 : Int32)) dX8_telling_23 (by decide) ?_
    refine ab_icmp_ne C (tgt := 33) dX8_telling_24 (by decide) (fun c_3 => ?_) (fun c_3 => ?_)
    · have f := f.2 c_3
      refine ab_iload_n C 0 dX8_telling_33 rfl rfl ?_
      refine ab_iconst C (v := (2 : Int32)) dX8_telling_34 (by decide) ?_
      refine ab_icmp_eq C (tgt := 43) dX8_telling_35 (by decide) (fun c_4 => ?_) (fun c_4 => ?_)
      · have f := f.1 c_4
        refine ab_aload_n C 1 dX8_telling_43 rfl rfl ?_
        refine ab_bipush C (v := (30 : Int32)) dX8_telling_44 (by decide) ?_
        refine ab_callV C (k := 0) (n := 0) (rest := []) [.int (30 : Int32)] cl_X8_284 (mt_X8_runs  hw f) rfl (by decide) kd_105 (wf_lt hw kd_105 rfl) ⟨rfl, rfl, Nat.le_of_ble_eq_true rfl, Nat.le_of_ble_eq_true rfl, Nat.zero_le _, Nat.zero_le _⟩ rfl rfl (Nat.le_of_ble_eq_true rfl) dX8_telling_46 (ab_kv (k := 0) (n := 0) (fun h_5 hw_6 f => ?_))
        refine ab_sub (lv' := [(0, .ref (G.1 + 105)), (1, .int x1), (2, .int v_1)]) [1, 2, 0] rfl ?_
        exact bt_X8_telling_b49 C     v_1 h_5  hw_6 f
      · have f := f.2 c_4
        refine ab_iload_n C 0 dX8_telling_38 rfl rfl ?_
        refine ab_iconst C (v := (5 : Int32)) dX8_telling_39 (by decide) ?_
        refine ab_icmp_ne C (tgt := 49) dX8_telling_40 (by decide) (fun c_24 => ?_) (fun c_24 => ?_)
        · have f := f.2 c_24
          refine ab_sub (lv' := [(0, .ref (G.1 + 105)), (1, .int x1), (2, .int v_1)]) [1, 2, 0] rfl ?_
          exact bt_X8_telling_b49 C     v_1 h  hw f
        · have f := f.1 c_24
          refine ab_aload_n C 1 dX8_telling_43 rfl rfl ?_
          refine ab_bipush C (v := (30 : Int32)) dX8_telling_44 (by decide) ?_
          refine ab_callV C (k := 0) (n := 0) (rest := []) [.int (30 : Int32)] cl_X8_284 (mt_X8_runs  hw f) rfl (by decide) kd_105 (wf_lt hw kd_105 rfl) ⟨rfl, rfl, Nat.le_of_ble_eq_true rfl, Nat.le_of_ble_eq_true rfl, Nat.zero_le _, Nat.zero_le _⟩ rfl rfl (Nat.le_of_ble_eq_true rfl) dX8_telling_46 (ab_kv (k := 0) (n := 0) (fun h_25 hw_26 f => ?_))
          refine ab_sub (lv' := [(0, .ref (G.1 + 105)), (1, .int x1), (2, .int v_1)]) [1, 2, 0] rfl ?_
          exact bt_X8_telling_b49 C     v_1 h_25  hw_26 f
    · have f := f.1 c_3
      refine ab_aload_n C 1 dX8_telling_27 rfl rfl ?_
      refine ab_bipush C (v := (60 : Int32)) dX8_telling_28 (by decide) ?_
      refine ab_callV C (k := 0) (n := 0) (rest := []) [.int (60 : Int32)] cl_X8_284 (mt_X8_runs  hw f) rfl (by decide) kd_105 (wf_lt hw kd_105 rfl) ⟨rfl, rfl, Nat.le_of_ble_eq_true rfl, Nat.le_of_ble_eq_true rfl, Nat.zero_le _, Nat.zero_le _⟩ rfl rfl (Nat.le_of_ble_eq_true rfl) dX8_telling_30 (ab_kv (k := 0) (n := 0) (fun h_27 hw_28 f => ?_))
      refine ab_iload_n C 0 dX8_telling_33 rfl rfl ?_
      refine ab_iconst C (v := (2 : Int32)) dX8_telling_34 (by decide) ?_
      refine ab_icmp_eq C (tgt := 43) dX8_telling_35 (by decide) (fun c_29 => ?_) (fun c_29 => ?_)
      · have f := f.1 c_29
        refine ab_aload_n C 1 dX8_telling_43 rfl rfl ?_
        refine ab_bipush C (v := (30 : Int32)) dX8_telling_44 (by decide) ?_
        refine ab_callV C (k := 0) (n := 0) (rest := []) [.int (30 : Int32)] cl_X8_284 (mt_X8_runs  hw_28 f) rfl (by decide) kd_105 (wf_lt hw_28 kd_105 rfl) ⟨rfl, rfl, Nat.le_of_ble_eq_true rfl, Nat.le_of_ble_eq_true rfl, Nat.zero_le _, Nat.zero_le _⟩ rfl rfl (Nat.le_of_ble_eq_true rfl) dX8_telling_46 (ab_kv (k := 0) (n := 0) (fun h_30 hw_31 f => ?_))
        refine ab_sub (lv' := [(0, .ref (G.1 + 105)), (1, .int x1), (2, .int v_1)]) [1, 2, 0] rfl ?_
        exact bt_X8_telling_b49 C     v_1 h_30  hw_31 f
      · have f := f.2 c_29
        refine ab_iload_n C 0 dX8_telling_38 rfl rfl ?_
        refine ab_iconst C (v := (5 : Int32)) dX8_telling_39 (by decide) ?_
        refine ab_icmp_ne C (tgt := 49) dX8_telling_40 (by decide) (fun c_32 => ?_) (fun c_32 => ?_)
        · have f := f.2 c_32
          refine ab_sub (lv' := [(0, .ref (G.1 + 105)), (1, .int x1), (2, .int v_1)]) [1, 2, 0] rfl ?_
          exact bt_X8_telling_b49 C     v_1 h_27  hw_28 f
        · have f := f.1 c_32
          refine ab_aload_n C 1 dX8_telling_43 rfl rfl ?_
          refine ab_bipush C (v := (30 : Int32)) dX8_telling_44 (by decide) ?_
          refine ab_callV C (k := 0) (n := 0) (rest := []) [.int (30 : Int32)] cl_X8_284 (mt_X8_runs  hw_28 f) rfl (by decide) kd_105 (wf_lt hw_28 kd_105 rfl) ⟨rfl, rfl, Nat.le_of_ble_eq_true rfl, Nat.le_of_ble_eq_true rfl, Nat.zero_le _, Nat.zero_le _⟩ rfl rfl (Nat.le_of_ble_eq_true rfl) dX8_telling_46 (ab_kv (k := 0) (n := 0) (fun h_33 hw_34 f => ?_))
          refine ab_sub (lv' := [(0, .ref (G.1 + 105)), (1, .int x1), (2, .int v_1)]) [1, 2, 0] rfl ?_
          exact bt_X8_telling_b49 C     v_1 h_33  hw_34 f
  · have f := f.1 c_2
    refine ab_aload_n C 1 dX8_telling_16 rfl rfl ?_
    refine ab_bipush C (v := (71 : Int32)) dX8_telling_17 (by decide) ?_
    refine ab_callV C (k := 0) (n := 0) (rest := []) [.int (71 : Int32)] cl_X8_284 (mt_X8_runs  hw f) rfl (by decide) kd_105 (wf_lt hw kd_105 rfl) ⟨rfl, rfl, Nat.le_of_ble_eq_true rfl, Nat.le_of_ble_eq_true rfl, Nat.zero_le _, Nat.zero_le _⟩ rfl rfl (Nat.le_of_ble_eq_true rfl) dX8_telling_19 (ab_kv (k := 0) (n := 0) (fun h_35 hw_36 f => ?_))
    refine ab_iload_n C 0 dX8_telling_22 rfl rfl ?_
    refine ab_iconst C (v := (5 : Int32)) dX8_telling_23 (by decide) ?_
    refine ab_icmp_ne C (tgt := 33) dX8_telling_24 (by decide) (fun c_37 => ?_) (fun c_37 => ?_)
    · have f := f.2 c_37
      refine ab_iload_n C 0 dX8_telling_33 rfl rfl ?_
      refine ab_iconst C (v := (2 : Int32)) dX8_telling_34 (by decide) ?_
      refine ab_icmp_eq C (tgt := 43) dX8_telling_35 (by decide) (fun c_38 => ?_) (fun c_38 => ?_)
      · have f := f.1 c_38
        refine ab_aload_n C 1 dX8_telling_43 rfl rfl ?_
        refine ab_bipush C (v := (30 : Int32)) dX8_telling_44 (by decide) ?_
        refine ab_callV C (k := 0) (n := 0) (rest := []) [.int (30 : Int32)] cl_X8_284 (mt_X8_runs  hw_36 f) rfl (by decide) kd_105 (wf_lt hw_36 kd_105 rfl) ⟨rfl, rfl, Nat.le_of_ble_eq_true rfl, Nat.le_of_ble_eq_true rfl, Nat.zero_le _, Nat.zero_le _⟩ rfl rfl (Nat.le_of_ble_eq_true rfl) dX8_telling_46 (ab_kv (k := 0) (n := 0) (fun h_39 hw_40 f => ?_))
        refine ab_sub (lv' := [(0, .ref (G.1 + 105)), (1, .int x1), (2, .int v_1)]) [1, 2, 0] rfl ?_
        exact bt_X8_telling_b49 C     v_1 h_39  hw_40 f
      · have f := f.2 c_38
        refine ab_iload_n C 0 dX8_telling_38 rfl rfl ?_
        refine ab_iconst C (v := (5 : Int32)) dX8_telling_39 (by decide) ?_
        refine ab_icmp_ne C (tgt := 49) dX8_telling_40 (by decide) (fun c_41 => ?_) (fun c_41 => ?_)
        · have f := f.2 c_41
          refine ab_sub (lv' := [(0, .ref (G.1 + 105)), (1, .int x1), (2, .int v_1)]) [1, 2, 0] rfl ?_
          exact bt_X8_telling_b49 C     v_1 h_35  hw_36 f
        · have f := f.1 c_41
          refine ab_aload_n C 1 dX8_telling_43 rfl rfl ?_
          refine ab_bipush C (v := (30 : Int32)) dX8_telling_44 (by decide) ?_
          refine ab_callV C (k := 0) (n := 0) (rest := []) [.int (30 : Int32)] cl_X8_284 (mt_X8_runs  hw_36 f) rfl (by decide) kd_105 (wf_lt hw_36 kd_105 rfl) ⟨rfl, rfl, Nat.le_of_ble_eq_true rfl, Nat.le_of_ble_eq_true rfl, Nat.zero_le _, Nat.zero_le _⟩ rfl rfl (Nat.le_of_ble_eq_true rfl) dX8_telling_46 (ab_kv (k := 0) (n := 0) (fun h_42 hw_43 f => ?_))
          refine ab_sub (lv' := [(0, .ref (G.1 + 105)), (1, .int x1), (2, .int v_1)]) [1, 2, 0] rfl ?_
          exact bt_X8_telling_b49 C     v_1 h_42  hw_43 f
    · have f := f.1 c_37
      refine ab_aload_n C 1 dX8_telling_27 rfl rfl ?_
      refine ab_bipush C (v := (60 : Int32)) dX8_telling_28 (by decide) ?_
      refine ab_callV C (k := 0) (n := 0) (rest := []) [.int (60 : Int32)] cl_X8_284 (mt_X8_runs  hw_36 f) rfl (by decide) kd_105 (wf_lt hw_36 kd_105 rfl) ⟨rfl, rfl, Nat.le_of_ble_eq_true rfl, Nat.le_of_ble_eq_true rfl, Nat.zero_le _, Nat.zero_le _⟩ rfl rfl (Nat.le_of_ble_eq_true rfl) dX8_telling_30 (ab_kv (k := 0) (n := 0) (fun h_44 hw_45 f => ?_))
      refine ab_iload_n C 0 dX8_telling_33 rfl rfl ?_
      refine ab_iconst C (v := (2 : Int32)) dX8_telling_34 (by decide) ?_
      refine ab_icmp_eq C (tgt := 43) dX8_telling_35 (by decide) (fun c_46 => ?_) (fun c_46 => ?_)
      · have f := f.1 c_46
        refine ab_aload_n C 1 dX8_telling_43 rfl rfl ?_
        refine ab_bipush C (v := (30 : Int32)) dX8_telling_44 (by decide) ?_
        refine ab_callV C (k := 0) (n := 0) (rest := []) [.int (30 : Int32)] cl_X8_284 (mt_X8_runs  hw_45 f) rfl (by decide) kd_105 (wf_lt hw_45 kd_105 rfl) ⟨rfl, rfl, Nat.le_of_ble_eq_true rfl, Nat.le_of_ble_eq_true rfl, Nat.zero_le _, Nat.zero_le _⟩ rfl rfl (Nat.le_of_ble_eq_true rfl) dX8_telling_46 (ab_kv (k := 0) (n := 0) (fun h_47 hw_48 f => ?_))
        refine ab_sub (lv' := [(0, .ref (G.1 + 105)), (1, .int x1), (2, .int v_1)]) [1, 2, 0] rfl ?_
        exact bt_X8_telling_b49 C     v_1 h_47  hw_48 f
      · have f := f.2 c_46
        refine ab_iload_n C 0 dX8_telling_38 rfl rfl ?_
        refine ab_iconst C (v := (5 : Int32)) dX8_telling_39 (by decide) ?_
        refine ab_icmp_ne C (tgt := 49) dX8_telling_40 (by decide) (fun c_49 => ?_) (fun c_49 => ?_)
        · have f := f.2 c_49
          refine ab_sub (lv' := [(0, .ref (G.1 + 105)), (1, .int x1), (2, .int v_1)]) [1, 2, 0] rfl ?_
          exact bt_X8_telling_b49 C     v_1 h_44  hw_45 f
        · have f := f.1 c_49
          refine ab_aload_n C 1 dX8_telling_43 rfl rfl ?_
          refine ab_bipush C (v := (30 : Int32)) dX8_telling_44 (by decide) ?_
          refine ab_callV C (k := 0) (n := 0) (rest := []) [.int (30 : Int32)] cl_X8_284 (mt_X8_runs  hw_45 f) rfl (by decide) kd_105 (wf_lt hw_45 kd_105 rfl) ⟨rfl, rfl, Nat.le_of_ble_eq_true rfl, Nat.le_of_ble_eq_true rfl, Nat.zero_le _, Nat.zero_le _⟩ rfl rfl (Nat.le_of_ble_eq_true rfl) dX8_telling_46 (ab_kv (k := 0) (n := 0) (fun h_50 hw_51 f => ?_))
          refine ab_sub (lv' := [(0, .ref (G.1 + 105)), (1, .int x1), (2, .int v_1)]) [1, 2, 0] rfl ?_
          exact bt_X8_telling_b49 C     v_1 h_50  hw_51 f
/-! X8_bunking -/
def rm_X8_bunking : Room := { frames := 6, cells := 0, slots := 0, locals := 189 }
def wp_X8_bunking_b32 (x1 : Int32) (Q : Int32 → hp_T → Prop) (y2 : Int32) (h : hp_T) : Prop :=
  wp_X8_runs (12 : Int32) h (fun h_4 => ((y2 = (3 : Int32) → wp_X8_telling (x1 / (2 : Int32)) h_4 (fun v_12 h_13 => wp_X8_its (hp_i h_13 105 16) (1 : Int32) h_13 (fun v_15 => ((y2 = (4 : Int32) → (Q ((v_12 - v_15) ^^^ (hp_i h_13 105 16)) h_13)) ∧ (¬ (y2 = (4 : Int32)) → (Q (v_12 - v_15) h_13)))))) ∧ (¬ (y2 = (3 : Int32)) → wp_X8_telling x1 h_4 (fun v_7 h_8 => wp_X8_its (hp_i h_8 105 16) (1 : Int32) h_8 (fun v_10 => ((y2 = (4 : Int32) → (Q ((v_7 - v_10) ^^^ (hp_i h_8 105 16)) h_8)) ∧ (¬ (y2 = (4 : Int32)) → (Q (v_7 - v_10) h_8))))))))
set_option maxRecDepth 100000 in
set_option maxHeartbeats 4000000 in
theorem bt_X8_bunking_b32 {l : Launch} {G : ab_G} {F : ab_F} {x1 : Int32} {Q : Int32 → hp_T → Prop}  (C : ab_C G F rm_X8_bunking cX8_bunking 4 RX8 (some .int) "bunking")   : ∀ (y2 : Int32) (h : hp_T), wf h → wp_X8_bunking_b32 x1 Q y2 h → ab_W l G F 4 (ab_MQ G F (po_h Q) 0 0) 0 0 h [(0, .ref (G.1 + 105)), (1, .int x1), (2, .int y2)] [] 32 := by
  intro y2 h hw f
  unfold wp_X8_bunking_b32 at f
  refine ab_aload_n C 0 dX8_bunking_32 rfl rfl ?_
  refine ab_bipush C (v := (12 : Int32)) dX8_bunking_33 (by decide) ?_
  refine ab_callV C (k := 0) (n := 0) (rest := []) [.int (12 : Int32)] cl_X8_284 (mt_X8_runs  hw f) rfl (by decide) kd_105 (wf_lt hw kd_105 rfl) ⟨rfl, rfl, Nat.le_of_ble_eq_true rfl, Nat.le_of_ble_eq_true rfl, Nat.zero_le _, Nat.zero_le _⟩ rfl rfl (Nat.le_of_ble_eq_true rfl) dX8_bunking_35 (ab_kv (k := 0) (n := 0) (fun h_4 hw_5 f => ?_))
  refine ab_aload_n C 0 dX8_bunking_38 rfl rfl ?_
  refine ab_iload_n C 2 dX8_bunking_39 rfl rfl ?_
  refine ab_iconst C (v := (3 : Int32)) dX8_bunking_40 (by decide) ?_
  refine ab_icmp_ne C (tgt := 50) dX8_bunking_41 (by decide) (fun c_6 => ?_) (fun c_6 => ?_)
  · have f := f.2 c_6
    refine ab_iload_n C 1 dX8_bunking_50 rfl rfl ?_
    refine ab_callV C (k := 0) (n := 0) (rest := []) [.int x1] cl_X8_290 (mt_X8_telling  hw_5 f) rfl (by decide) kd_105 (wf_lt hw_5 kd_105 rfl) ⟨rfl, rfl, Nat.le_of_ble_eq_true rfl, Nat.le_of_ble_eq_true rfl, Nat.zero_le _, Nat.zero_le _⟩ rfl rfl (Nat.le_of_ble_eq_true rfl) dX8_bunking_51 (ab_kh (k := 0) (n := 0) (fun v_7 h_8 hw_9 f => ?_))
    refine ab_aload_n C 0 dX8_bunking_54 rfl rfl ?_
    refine ab_aload_n C 0 dX8_bunking_55 rfl rfl ?_
    refine ab_getI C fl_X8_281 rfl kd_105 (wf_lt hw_9 kd_105 rfl) dX8_bunking_56 ?_
    refine ab_iconst C (v := (1 : Int32)) dX8_bunking_59 (by decide) ?_
    refine ab_callV C (k := 0) (n := 0) (rest := [.int v_7]) [.int (hp_i h_8 105 16), .int (1 : Int32)] cl_X8_60 (mt_X8_its  hw_9 f) rfl (by decide) kd_105 (wf_lt hw_9 kd_105 rfl) ⟨rfl, rfl, Nat.le_of_ble_eq_true rfl, Nat.le_of_ble_eq_true rfl, Nat.zero_le _, Nat.zero_le _⟩ rfl rfl (Nat.le_of_ble_eq_true rfl) dX8_bunking_60 (ab_kp (k := 0) (n := 0) (fun v_10 f => ?_))
    refine ab_isub C dX8_bunking_63 ?_
    refine ab_istore_n C (lv' := [(3, .int (v_7 - v_10)), (0, .ref (G.1 + 105)), (1, .int x1), (2, .int y2)]) dX8_bunking_64 rfl (by decide) rfl ?_
    refine ab_iload_n C 3 dX8_bunking_65 rfl rfl ?_
    refine ab_iconst C (v := (4 : Int32)) dX8_bunking_66 (by decide) ?_
    refine ab_icmp_ne C (tgt := 79) dX8_bunking_67 (by decide) (fun c_11 => ?_) (fun c_11 => ?_)
    · have f := f.2 c_11
      refine ab_iload_n C 0 dX8_bunking_79 rfl rfl ?_
      exact ab_iret C dX8_bunking_80 ⟨hw_9, _, rfl, f⟩
    · have f := f.1 c_11
      refine ab_iload_n C 0 dX8_bunking_70 rfl rfl ?_
      refine ab_aload_n C 1 dX8_bunking_71 rfl rfl ?_
      refine ab_getI C fl_X8_281 rfl kd_105 (wf_lt hw_9 kd_105 rfl) dX8_bunking_72 ?_
      refine ab_ixor C dX8_bunking_75 ?_
      refine ab_goto C (tgt := 80) dX8_bunking_76 (by decide) ?_
      exact ab_iret C dX8_bunking_80 ⟨hw_9, _, rfl, f⟩
  · have f := f.1 c_6
    refine ab_iload_n C 1 dX8_bunking_44 rfl rfl ?_
    refine ab_iconst C (v := (2 : Int32)) dX8_bunking_45 (by decide) ?_
    refine ab_idiv C dX8_bunking_46 (by decide) ?_
    refine ab_goto C (tgt := 51) dX8_bunking_47 (by decide) ?_
    refine ab_callV C (k := 0) (n := 0) (rest := []) [.int (x1 / (2 : Int32))] cl_X8_290 (mt_X8_telling  hw_5 f) rfl (by decide) kd_105 (wf_lt hw_5 kd_105 rfl) ⟨rfl, rfl, Nat.le_of_ble_eq_true rfl, Nat.le_of_ble_eq_true rfl, Nat.zero_le _, Nat.zero_le _⟩ rfl rfl (Nat.le_of_ble_eq_true rfl) dX8_bunking_51 (ab_kh (k := 0) (n := 0) (fun v_12 h_13 hw_14 f => ?_))
    refine ab_aload_n C 0 dX8_bunking_54 rfl rfl ?_
    refine ab_aload_n C 0 dX8_bunking_55 rfl rfl ?_
    refine ab_getI C fl_X8_281 rfl kd_105 (wf_lt hw_14 kd_105 rfl) dX8_bunking_56 ?_
    refine ab_iconst C (v := (1 : Int32)) dX8_bunking_59 (by decide) ?_
    refine ab_callV C (k := 0) (n := 0) (rest := [.int v_12]) [.int (hp_i h_13 105 16), .int (1 : Int32)] cl_X8_60 (mt_X8_its  hw_14 f) rfl (by decide) kd_105 (wf_lt hw_14 kd_105 rfl) ⟨rfl, rfl, Nat.le_of_ble_eq_true rfl, Nat.le_of_ble_eq_true rfl, Nat.zero_le _, Nat.zero_le _⟩ rfl rfl (Nat.le_of_ble_eq_true rfl) dX8_bunking_60 (ab_kp (k := 0) (n := 0) (fun v_15 f => ?_))
    refine ab_isub C dX8_bunking_63 ?_
    refine ab_istore_n C (lv' := [(3, .int (v_12 - v_15)), (0, .ref (G.1 + 105)), (1, .int x1), (2, .int y2)]) dX8_bunking_64 rfl (by decide) rfl ?_
    refine ab_iload_n C 3 dX8_bunking_65 rfl rfl ?_
    refine ab_iconst C (v := (4 : Int32)) dX8_bunking_66 (by decide) ?_
    refine ab_icmp_ne C (tgt := 79) dX8_bunking_67 (by decide) (fun c_16 => ?_) (fun c_16 => ?_)
    · have f := f.2 c_16
      refine ab_iload_n C 0 dX8_bunking_79 rfl rfl ?_
      exact ab_iret C dX8_bunking_80 ⟨hw_14, _, rfl, f⟩
    · have f := f.1 c_16
      refine ab_iload_n C 0 dX8_bunking_70 rfl rfl ?_
      refine ab_aload_n C 1 dX8_bunking_71 rfl rfl ?_
      refine ab_getI C fl_X8_281 rfl kd_105 (wf_lt hw_14 kd_105 rfl) dX8_bunking_72 ?_
      refine ab_ixor C dX8_bunking_75 ?_
      refine ab_goto C (tgt := 80) dX8_bunking_76 (by decide) ?_
      exact ab_iret C dX8_bunking_80 ⟨hw_14, _, rfl, f⟩
def wp_X8_bunking (x1 : Int32) (h : hp_T) (Q : Int32 → hp_T → Prop) : Prop :=
  wp_X8_its (hp_i h 105 16) (0 : Int32) h (fun v_1 => ((v_1 = (3 : Int32) → wp_X8_runs (40 : Int32) h (fun h_19 => ((v_1 = (4 : Int32) → wp_X8_runs (51 : Int32) h_19 (fun h_22 => (wp_X8_bunking_b32 x1 Q  v_1 h_22))) ∧ (¬ (v_1 = (4 : Int32)) → (wp_X8_bunking_b32 x1 Q  v_1 h_19))))) ∧ (¬ (v_1 = (3 : Int32)) → ((v_1 = (4 : Int32) → wp_X8_runs (51 : Int32) h (fun h_17 => (wp_X8_bunking_b32 x1 Q  v_1 h_17))) ∧ (¬ (v_1 = (4 : Int32)) → (wp_X8_bunking_b32 x1 Q  v_1 h))))))
set_option maxRecDepth 100000 in
set_option maxHeartbeats 4000000 in
theorem mt_X8_bunking {l : Launch} {G : ab_G} {x1 : Int32} {h : hp_T} {Q : Int32 → hp_T → Prop} (hw : wf h) (f : wp_X8_bunking x1 h Q) : ab_M l G yX8_bunking cX8_bunking 4 (some .int) rm_X8_bunking 0 0 [.ref (G.1 + 105), .int x1] h (po_h Q) := by
  refine ab_intro (own := RX8) (nm := "bunking") rfl rfl rfl (Nat.le_of_ble_eq_true rfl) (fun F C => ?_)
  show ab_W l G F 4 (ab_MQ G F (po_h Q) 0 0) 0 0 h [(0, .ref (G.1 + 105)), (1, .int x1)] [] 0
  unfold wp_X8_bunking at f
  refine ab_aload_n C 0 dX8_bunking_0 rfl rfl ?_
  refine ab_aload_n C 0 dX8_bunking_1 rfl rfl ?_
  refine ab_getI C fl_X8_281 rfl kd_105 (wf_lt hw kd_105 rfl) dX8_bunking_2 ?_
  refine ab_iconst C (v := (0 : Int32)) dX8_bunking_5 (by decide) ?_
  refine ab_callV C (k := 0) (n := 0) (rest := []) [.int (hp_i h 105 16), .int (0 : Int32)] cl_X8_60 (mt_X8_its  hw f) rfl (by decide) kd_105 (wf_lt hw kd_105 rfl) ⟨rfl, rfl, Nat.le_of_ble_eq_true rfl, Nat.le_of_ble_eq_true rfl, Nat.zero_le _, Nat.zero_le _⟩ rfl rfl (Nat.le_of_ble_eq_true rfl) dX8_bunking_6 (ab_kp (k := 0) (n := 0) (fun v_1 f => ?_))
  refine ab_istore_n C (lv' := [(2, .int v_1), (0, .ref (G.1 + 105)), (1, .int x1)]) dX8_bunking_9 rfl (by decide) rfl ?_
  refine ab_iload_n C 0 dX8_bunking_10 rfl rfl ?_
  refine ab_iconst C (v := (3 : Int32)) dX8_bunking_11 (by decide) ?_
  refine ab_icmp_ne C (tgt := 21) dX8_bunking_12 (by decide) (fun c_2 => ?_) (fun c_2 => ?_)
  · have f := f.2 c_2
    refine ab_iload_n C 0 dX8_bunking_21 rfl rfl ?_
    refine ab_iconst C (v := (4 : Int32)) dX8_bunking_22 (by decide) ?_
    refine ab_icmp_ne C (tgt := 32) dX8_bunking_23 (by decide) (fun c_3 => ?_) (fun c_3 => ?_)
    · have f := f.2 c_3
      refine ab_sub (lv' := [(0, .ref (G.1 + 105)), (1, .int x1), (2, .int v_1)]) [1, 2, 0] rfl ?_
      exact bt_X8_bunking_b32 C     v_1 h  hw f
    · have f := f.1 c_3
      refine ab_aload_n C 1 dX8_bunking_26 rfl rfl ?_
      refine ab_bipush C (v := (51 : Int32)) dX8_bunking_27 (by decide) ?_
      refine ab_callV C (k := 0) (n := 0) (rest := []) [.int (51 : Int32)] cl_X8_284 (mt_X8_runs  hw f) rfl (by decide) kd_105 (wf_lt hw kd_105 rfl) ⟨rfl, rfl, Nat.le_of_ble_eq_true rfl, Nat.le_of_ble_eq_true rfl, Nat.zero_le _, Nat.zero_le _⟩ rfl rfl (Nat.le_of_ble_eq_true rfl) dX8_bunking_29 (ab_kv (k := 0) (n := 0) (fun h_17 hw_18 f => ?_))
      refine ab_sub (lv' := [(0, .ref (G.1 + 105)), (1, .int x1), (2, .int v_1)]) [1, 2, 0] rfl ?_
      exact bt_X8_bunking_b32 C     v_1 h_17  hw_18 f
  · have f := f.1 c_2
    refine ab_aload_n C 1 dX8_bunking_15 rfl rfl ?_
    refine ab_bipush C (v := (40 : Int32)) dX8_bunking_16 (by decide) ?_
    refine ab_callV C (k := 0) (n := 0) (rest := []) [.int (40 : Int32)] cl_X8_284 (mt_X8_runs  hw f) rfl (by decide) kd_105 (wf_lt hw kd_105 rfl) ⟨rfl, rfl, Nat.le_of_ble_eq_true rfl, Nat.le_of_ble_eq_true rfl, Nat.zero_le _, Nat.zero_le _⟩ rfl rfl (Nat.le_of_ble_eq_true rfl) dX8_bunking_18 (ab_kv (k := 0) (n := 0) (fun h_19 hw_20 f => ?_))
    refine ab_iload_n C 0 dX8_bunking_21 rfl rfl ?_
    refine ab_iconst C (v := (4 : Int32)) dX8_bunking_22 (by decide) ?_
    refine ab_icmp_ne C (tgt := 32) dX8_bunking_23 (by decide) (fun c_21 => ?_) (fun c_21 => ?_)
    · have f := f.2 c_21
      refine ab_sub (lv' := [(0, .ref (G.1 + 105)), (1, .int x1), (2, .int v_1)]) [1, 2, 0] rfl ?_
      exact bt_X8_bunking_b32 C     v_1 h_19  hw_20 f
    · have f := f.1 c_21
      refine ab_aload_n C 1 dX8_bunking_26 rfl rfl ?_
      refine ab_bipush C (v := (51 : Int32)) dX8_bunking_27 (by decide) ?_
      refine ab_callV C (k := 0) (n := 0) (rest := []) [.int (51 : Int32)] cl_X8_284 (mt_X8_runs  hw_20 f) rfl (by decide) kd_105 (wf_lt hw_20 kd_105 rfl) ⟨rfl, rfl, Nat.le_of_ble_eq_true rfl, Nat.le_of_ble_eq_true rfl, Nat.zero_le _, Nat.zero_le _⟩ rfl rfl (Nat.le_of_ble_eq_true rfl) dX8_bunking_29 (ab_kv (k := 0) (n := 0) (fun h_22 hw_23 f => ?_))
      refine ab_sub (lv' := [(0, .ref (G.1 + 105)), (1, .int x1), (2, .int v_1)]) [1, 2, 0] rfl ?_
      exact bt_X8_bunking_b32 C     v_1 h_22  hw_23 f
/-! X8_byteHere -/
def rm_X8_byteHere : Room := { frames := 2, cells := 0, slots := 0, locals := 100 }
def wp_X8_byteHere (h : hp_T) (Q : Int32 → Prop) : Prop :=
  (((hp_i h 106 7) ≤ (hp_i h 105 6) → (Q (-1 : Int32))) ∧ (¬ ((hp_i h 106 7) ≤ (hp_i h 105 6)) → (vp_in ((153 : Int32) + (hp_i h 105 6)) 357) ∧ (Q (hp_i h 106 (((153 : Int32) + (hp_i h 105 6)).toNatClampNeg)))))
set_option maxRecDepth 100000 in
set_option maxHeartbeats 4000000 in
theorem mt_X8_byteHere {l : Launch} {G : ab_G}  {h : hp_T} {Q : Int32 → Prop} (hw : wf h) (f : wp_X8_byteHere h Q) : ab_M l G yX8_byteHere cX8_byteHere 1 (some .int) rm_X8_byteHere 0 0 [.ref (G.1 + 105)] h (po_p h Q) := by
  refine ab_intro (own := RX8) (nm := "byteHere") rfl rfl rfl (Nat.le_of_ble_eq_true rfl) (fun F C => ?_)
  show ab_W l G F 1 (ab_MQ G F (po_p h Q) 0 0) 0 0 h [(0, .ref (G.1 + 105))] [] 0
  unfold wp_X8_byteHere at f
  refine ab_aload_n C 0 dX8_byteHere_0 rfl rfl ?_
  refine ab_getI C fl_X8_151 rfl kd_105 (wf_lt hw kd_105 rfl) dX8_byteHere_1 ?_
  refine ab_aload_n C 0 dX8_byteHere_4 rfl rfl ?_
  refine ab_getR C (q := 106) fl_X8_7 rfl kd_105 (wf_lt hw kd_105 rfl) (wr_8_0 hw) dX8_byteHere_5 ?_
  refine ab_bipush C (v := (7 : Int32)) dX8_byteHere_8 (by decide) ?_
  refine ab_iald C (by rw [kd_106]; decide) (wf_lt hw kd_106 rfl) (wf_len hw kd_106 rfl rfl (by decide)) (vp_lit (by decide)) (j := 7) (by decide) dX8_byteHere_10 ?_
  refine ab_icmp_ge C (tgt := 30) dX8_byteHere_11 (by decide) (fun c_1 => ?_) (fun c_1 => ?_)
  · have f := f.1 c_1
    refine ab_iconst C (v := (-1 : Int32)) dX8_byteHere_30 (by decide) ?_
    exact ab_iret C dX8_byteHere_31 ⟨rfl, _, rfl, f⟩
  · have f := f.2 c_1
    refine ab_aload_n C 0 dX8_byteHere_14 rfl rfl ?_
    refine ab_getR C (q := 106) fl_X8_7 rfl kd_105 (wf_lt hw kd_105 rfl) (wr_8_0 hw) dX8_byteHere_15 ?_
    refine ab_sipush C (v := (153 : Int32)) dX8_byteHere_18 (by decide) ?_
    refine ab_aload_n C 0 dX8_byteHere_21 rfl rfl ?_
    refine ab_getI C fl_X8_151 rfl kd_105 (wf_lt hw kd_105 rfl) dX8_byteHere_22 ?_
    refine ab_iadd C dX8_byteHere_25 ?_
    obtain ⟨c_2, f⟩ := f
    refine ab_iald C (by rw [kd_106]; decide) (wf_lt hw kd_106 rfl) (wf_len hw kd_106 rfl rfl (by decide)) c_2 (j := ((153 : Int32) + (hp_i h 105 6)).toNatClampNeg) rfl dX8_byteHere_26 ?_
    refine ab_goto C (tgt := 31) dX8_byteHere_27 (by decide) ?_
    exact ab_iret C dX8_byteHere_31 ⟨rfl, _, rfl, f⟩
/-! X8_changes -/
def rm_X8_changes : Room := { frames := 5, cells := 0, slots := 0, locals := 165 }
def wp_X8_changes_L29 (x1 : Int32) (x2 : Int32) (Q : Int32 → hp_T → Prop) : Nat → Int32 → Int32 → Int32 → hp_T → Prop
  | 0 => fun _ _ _ _ => False
  | nn + 1 => fun y3 y4 y5 h => (((hp_i h 106 0) ≤ y5 → (Q y4 h)) ∧ (¬ ((hp_i h 106 0) ≤ y5) → wp_X8_isKnowing y5 x1 h (fun v_9 => ((v_9 = 0 → (wp_X8_changes_L29 x1 x2 Q nn) y3 y4 (y5 + (1 : Int32)) h) ∧ (¬ (v_9 = 0) → wp_X8_its y5 ((5 : Int32) + x1) h (fun v_11 => ((v_11 = y3 → wp_X8_its y5 ((5 : Int32) + x1) h (fun v_14 => (wp_X8_changes_L29 x1 x2 Q nn) v_14 (y4 + (0 : Int32)) (y5 + (1 : Int32)) h)) ∧ (¬ (v_11 = y3) → wp_X8_its y5 ((5 : Int32) + x1) h (fun v_13 => (wp_X8_changes_L29 x1 x2 Q nn) v_13 (y4 + (1 : Int32)) (y5 + (1 : Int32)) h)))))))))
set_option maxRecDepth 100000 in
set_option maxHeartbeats 4000000 in
theorem bt_X8_changes_L29 {l : Launch} {G : ab_G} {F : ab_F} {x1 : Int32} {x2 : Int32} {Q : Int32 → hp_T → Prop}  (C : ab_C G F rm_X8_changes cX8_changes 6 RX8 (some .int) "changes")   : ∀ (nn : Nat) (y3 : Int32) (y4 : Int32) (y5 : Int32) (h : hp_T), wf h → wp_X8_changes_L29 x1 x2 Q nn y3 y4 y5 h → ab_W l G F 6 (ab_MQ G F (po_h Q) 0 0) 0 0 h [(0, .ref (G.1 + 105)), (1, .int x1), (3, .int y3), (4, .int y4), (5, .int y5)] [] 29 := by
  intro nn
  induction nn with
  | zero =>
    intro y3 y4 y5 h hw f
    exact absurd f id
  | succ nn ih =>
    intro y3 y4 y5 h hw f
    unfold wp_X8_changes_L29 at f
    refine ab_iload C 4 dX8_changes_29 rfl ?_
    refine ab_aload_n C 0 dX8_changes_31 rfl rfl ?_
    refine ab_getR C (q := 106) fl_X8_7 rfl kd_105 (wf_lt hw kd_105 rfl) (wr_8_0 hw) dX8_changes_32 ?_
    refine ab_iconst C (v := (0 : Int32)) dX8_changes_35 (by decide) ?_
    refine ab_iald C (by rw [kd_106]; decide) (wf_lt hw kd_106 rfl) (wf_len hw kd_106 rfl rfl (by decide)) (vp_lit (by decide)) (j := 0) (by decide) dX8_changes_36 ?_
    refine ab_icmp_ge C (tgt := 89) dX8_changes_37 (by decide) (fun c_8 => ?_) (fun c_8 => ?_)
    · have f := f.1 c_8
      refine ab_iload C 3 dX8_changes_89 rfl ?_
      exact ab_iret C dX8_changes_91 ⟨hw, _, rfl, f⟩
    · have f := f.2 c_8
      refine ab_aload_n C 0 dX8_changes_40 rfl rfl ?_
      refine ab_iload C 4 dX8_changes_41 rfl ?_
      refine ab_iload_n C 1 dX8_changes_43 rfl rfl ?_
      refine ab_callV C (k := 0) (n := 0) (rest := []) [.int y5, .int x1] cl_X8_118 (mt_X8_isKnowing  hw f) rfl (by decide) kd_105 (wf_lt hw kd_105 rfl) ⟨rfl, rfl, Nat.le_of_ble_eq_true rfl, Nat.le_of_ble_eq_true rfl, Nat.zero_le _, Nat.zero_le _⟩ rfl rfl (Nat.le_of_ble_eq_true rfl) dX8_changes_44 (ab_kp (k := 0) (n := 0) (fun v_9 f => ?_))
      refine ab_if_eq C (tgt := 83) dX8_changes_47 (by decide) (fun c_10 => ?_) (fun c_10 => ?_)
      · have f := f.1 c_10
        refine ab_iinc C (lv' := [(5, .int (y5 + (1 : Int32))), (0, .ref (G.1 + 105)), (1, .int x1), (3, .int y3), (4, .int y4)]) 4 (v := (y5 + (1 : Int32))) dX8_changes_83 rfl rfl (by decide) rfl ?_
        refine ab_goto C (tgt := 29) dX8_changes_86 (by decide) ?_
        refine ab_sub (lv' := [(0, .ref (G.1 + 105)), (1, .int x1), (3, .int y3), (4, .int y4), (5, .int (y5 + (1 : Int32)))]) [1, 2, 3, 4, 0] rfl ?_
        exact ih y3 y4 (y5 + (1 : Int32)) h  hw f
      · have f := f.2 c_10
        refine ab_iload C 3 dX8_changes_50 rfl ?_
        refine ab_aload_n C 0 dX8_changes_52 rfl rfl ?_
        refine ab_iload C 4 dX8_changes_53 rfl ?_
        refine ab_iconst C (v := (5 : Int32)) dX8_changes_55 (by decide) ?_
        refine ab_iload_n C 1 dX8_changes_56 rfl rfl ?_
        refine ab_iadd C dX8_changes_57 ?_
        refine ab_callV C (k := 0) (n := 0) (rest := [.int y4]) [.int y5, .int ((5 : Int32) + x1)] cl_X8_60 (mt_X8_its  hw f) rfl (by decide) kd_105 (wf_lt hw kd_105 rfl) ⟨rfl, rfl, Nat.le_of_ble_eq_true rfl, Nat.le_of_ble_eq_true rfl, Nat.zero_le _, Nat.zero_le _⟩ rfl rfl (Nat.le_of_ble_eq_true rfl) dX8_changes_58 (ab_kp (k := 0) (n := 0) (fun v_11 f => ?_))
        refine ab_iload_n C 2 dX8_changes_61 rfl rfl ?_
        refine ab_icmp_ne C (tgt := 69) dX8_changes_62 (by decide) (fun c_12 => ?_) (fun c_12 => ?_)
        · have f := f.2 c_12
          refine ab_iconst C (v := (1 : Int32)) dX8_changes_69 (by decide) ?_
          refine ab_iadd C dX8_changes_70 ?_
          refine ab_istore C (lv' := [(4, .int (y4 + (1 : Int32))), (0, .ref (G.1 + 105)), (1, .int x1), (3, .int y3), (5, .int y5)]) dX8_changes_71 (by decide) rfl ?_
          refine ab_aload_n C 1 dX8_changes_73 rfl rfl ?_
          refine ab_iload C 4 dX8_changes_74 rfl ?_
          refine ab_iconst C (v := (5 : Int32)) dX8_changes_76 (by decide) ?_
          refine ab_iload_n C 2 dX8_changes_77 rfl rfl ?_
          refine ab_iadd C dX8_changes_78 ?_
          refine ab_callV C (k := 0) (n := 0) (rest := []) [.int y5, .int ((5 : Int32) + x1)] cl_X8_60 (mt_X8_its  hw f) rfl (by decide) kd_105 (wf_lt hw kd_105 rfl) ⟨rfl, rfl, Nat.le_of_ble_eq_true rfl, Nat.le_of_ble_eq_true rfl, Nat.zero_le _, Nat.zero_le _⟩ rfl rfl (Nat.le_of_ble_eq_true rfl) dX8_changes_79 (ab_kp (k := 0) (n := 0) (fun v_13 f => ?_))
          refine ab_istore_n C (lv' := [(3, .int v_13), (4, .int (y4 + (1 : Int32))), (0, .ref (G.1 + 105)), (1, .int x1), (5, .int y5)]) dX8_changes_82 rfl (by decide) rfl ?_
          refine ab_iinc C (lv' := [(5, .int (y5 + (1 : Int32))), (3, .int v_13), (4, .int (y4 + (1 : Int32))), (0, .ref (G.1 + 105)), (1, .int x1)]) 4 (v := (y5 + (1 : Int32))) dX8_changes_83 rfl rfl (by decide) rfl ?_
          refine ab_goto C (tgt := 29) dX8_changes_86 (by decide) ?_
          refine ab_sub (lv' := [(0, .ref (G.1 + 105)), (1, .int x1), (3, .int v_13), (4, .int (y4 + (1 : Int32))), (5, .int (y5 + (1 : Int32)))]) [3, 4, 1, 2, 0] rfl ?_
          exact ih v_13 (y4 + (1 : Int32)) (y5 + (1 : Int32)) h  hw f
        · have f := f.1 c_12
          refine ab_iconst C (v := (0 : Int32)) dX8_changes_65 (by decide) ?_
          refine ab_goto C (tgt := 70) dX8_changes_66 (by decide) ?_
          refine ab_iadd C dX8_changes_70 ?_
          refine ab_istore C (lv' := [(4, .int (y4 + (0 : Int32))), (0, .ref (G.1 + 105)), (1, .int x1), (3, .int y3), (5, .int y5)]) dX8_changes_71 (by decide) rfl ?_
          refine ab_aload_n C 1 dX8_changes_73 rfl rfl ?_
          refine ab_iload C 4 dX8_changes_74 rfl ?_
          refine ab_iconst C (v := (5 : Int32)) dX8_changes_76 (by decide) ?_
          refine ab_iload_n C 2 dX8_changes_77 rfl rfl ?_
          refine ab_iadd C dX8_changes_78 ?_
          refine ab_callV C (k := 0) (n := 0) (rest := []) [.int y5, .int ((5 : Int32) + x1)] cl_X8_60 (mt_X8_its  hw f) rfl (by decide) kd_105 (wf_lt hw kd_105 rfl) ⟨rfl, rfl, Nat.le_of_ble_eq_true rfl, Nat.le_of_ble_eq_true rfl, Nat.zero_le _, Nat.zero_le _⟩ rfl rfl (Nat.le_of_ble_eq_true rfl) dX8_changes_79 (ab_kp (k := 0) (n := 0) (fun v_14 f => ?_))
          refine ab_istore_n C (lv' := [(3, .int v_14), (4, .int (y4 + (0 : Int32))), (0, .ref (G.1 + 105)), (1, .int x1), (5, .int y5)]) dX8_changes_82 rfl (by decide) rfl ?_
          refine ab_iinc C (lv' := [(5, .int (y5 + (1 : Int32))), (3, .int v_14), (4, .int (y4 + (0 : Int32))), (0, .ref (G.1 + 105)), (1, .int x1)]) 4 (v := (y5 + (1 : Int32))) dX8_changes_83 rfl rfl (by decide) rfl ?_
          refine ab_goto C (tgt := 29) dX8_changes_86 (by decide) ?_
          refine ab_sub (lv' := [(0, .ref (G.1 + 105)), (1, .int x1), (3, .int v_14), (4, .int (y4 + (0 : Int32))), (5, .int (y5 + (1 : Int32)))]) [3, 4, 1, 2, 0] rfl ?_
          exact ih v_14 (y4 + (0 : Int32)) (y5 + (1 : Int32)) h  hw f
def wp_X8_changes (x1 : Int32) (x2 : Int32) (h : hp_T) (Q : Int32 → hp_T → Prop) : Prop :=
  wp_X8_isKnack x1 h (fun v_1 => ((v_1 = 0 → wp_X8_errs (-1000000001 : Int32) h (fun v_3 h_4 => (Q v_3 h_4))) ∧ (¬ (v_1 = 0) → wp_X8_isVersion x2 h (fun v_6 => ((v_6 = 0 → wp_X8_errs (-1000000001 : Int32) h (fun v_15 h_16 => (Q v_15 h_16))) ∧ (¬ (v_6 = 0) → (∃ n0, wp_X8_changes_L29 x1 x2 Q  n0 x2 (0 : Int32) (0 : Int32) h)))))))
set_option maxRecDepth 100000 in
set_option maxHeartbeats 4000000 in
theorem mt_X8_changes {l : Launch} {G : ab_G} {x1 : Int32} {x2 : Int32} {h : hp_T} {Q : Int32 → hp_T → Prop} (hw : wf h) (f : wp_X8_changes x1 x2 h Q) : ab_M l G yX8_changes cX8_changes 6 (some .int) rm_X8_changes 0 0 [.ref (G.1 + 105), .int x1, .int x2] h (po_h Q) := by
  refine ab_intro (own := RX8) (nm := "changes") rfl rfl rfl (Nat.le_of_ble_eq_true rfl) (fun F C => ?_)
  show ab_W l G F 6 (ab_MQ G F (po_h Q) 0 0) 0 0 h [(0, .ref (G.1 + 105)), (1, .int x1), (2, .int x2)] [] 0
  unfold wp_X8_changes at f
  refine ab_iload_n C 1 dX8_changes_0 rfl rfl ?_
  refine ab_callS C (k := 0) (n := 0) (rest := []) [.int x1] cl_X8_113 (mt_X8_isKnack  hw f) ⟨rfl, rfl, Nat.le_of_ble_eq_true rfl, Nat.le_of_ble_eq_true rfl, Nat.zero_le _, Nat.zero_le _⟩ rfl rfl (Nat.le_of_ble_eq_true rfl) dX8_changes_1 (ab_kp (k := 0) (n := 0) (fun v_1 f => ?_))
  refine ab_if_eq C (tgt := 14) dX8_changes_4 (by decide) (fun c_2 => ?_) (fun c_2 => ?_)
  · have f := f.1 c_2
    refine ab_aload_n C 0 dX8_changes_14 rfl rfl ?_
    refine ab_ldc C kw_t821 dX8_changes_15 ?_
    refine ab_callV C (k := 0) (n := 0) (rest := []) [.int (-1000000001 : Int32)] cl_X8_84 (mt_X8_errs  hw f) rfl (by decide) kd_105 (wf_lt hw kd_105 rfl) ⟨rfl, rfl, Nat.le_of_ble_eq_true rfl, Nat.le_of_ble_eq_true rfl, Nat.zero_le _, Nat.zero_le _⟩ rfl rfl (Nat.le_of_ble_eq_true rfl) dX8_changes_17 (ab_kh (k := 0) (n := 0) (fun v_3 h_4 hw_5 f => ?_))
    exact ab_iret C dX8_changes_20 ⟨hw_5, _, rfl, f⟩
  · have f := f.2 c_2
    refine ab_iload_n C 2 dX8_changes_7 rfl rfl ?_
    refine ab_callS C (k := 0) (n := 0) (rest := []) [.int x2] cl_X8_275 (mt_X8_isVersion  hw f) ⟨rfl, rfl, Nat.le_of_ble_eq_true rfl, Nat.le_of_ble_eq_true rfl, Nat.zero_le _, Nat.zero_le _⟩ rfl rfl (Nat.le_of_ble_eq_true rfl) dX8_changes_8 (ab_kp (k := 0) (n := 0) (fun v_6 f => ?_))
    refine ab_if_ne C (tgt := 21) dX8_changes_11 (by decide) (fun c_7 => ?_) (fun c_7 => ?_)
    · have f := f.2 c_7
      refine ab_iload_n C 2 dX8_changes_21 rfl rfl ?_
      refine ab_istore_n C (lv' := [(3, .int x2), (0, .ref (G.1 + 105)), (1, .int x1), (2, .int x2)]) dX8_changes_22 rfl (by decide) rfl ?_
      refine ab_iconst C (v := (0 : Int32)) dX8_changes_23 (by decide) ?_
      refine ab_istore C (lv' := [(4, .int (0 : Int32)), (3, .int x2), (0, .ref (G.1 + 105)), (1, .int x1), (2, .int x2)]) dX8_changes_24 (by decide) rfl ?_
      refine ab_iconst C (v := (0 : Int32)) dX8_changes_26 (by decide) ?_
      refine ab_istore C (lv' := [(5, .int (0 : Int32)), (4, .int (0 : Int32)), (3, .int x2), (0, .ref (G.1 + 105)), (1, .int x1), (2, .int x2)]) dX8_changes_27 (by decide) rfl ?_
      obtain ⟨n0, f⟩ := f
      refine ab_sub (lv' := [(0, .ref (G.1 + 105)), (1, .int x1), (3, .int x2), (4, .int (0 : Int32)), (5, .int (0 : Int32))]) [3, 4, 2, 1, 0] rfl ?_
      exact bt_X8_changes_L29 C    n0 x2 (0 : Int32) (0 : Int32) h  hw f
    · have f := f.1 c_7
      refine ab_aload_n C 0 dX8_changes_14 rfl rfl ?_
      refine ab_ldc C kw_t821 dX8_changes_15 ?_
      refine ab_callV C (k := 0) (n := 0) (rest := []) [.int (-1000000001 : Int32)] cl_X8_84 (mt_X8_errs  hw f) rfl (by decide) kd_105 (wf_lt hw kd_105 rfl) ⟨rfl, rfl, Nat.le_of_ble_eq_true rfl, Nat.le_of_ble_eq_true rfl, Nat.zero_le _, Nat.zero_le _⟩ rfl rfl (Nat.le_of_ble_eq_true rfl) dX8_changes_17 (ab_kh (k := 0) (n := 0) (fun v_15 h_16 hw_17 f => ?_))
      exact ab_iret C dX8_changes_20 ⟨hw_17, _, rfl, f⟩
/-! X8_knowers -/
def rm_X8_knowers : Room := { frames := 5, cells := 0, slots := 0, locals := 165 }
def wp_X8_knowers_L4 (x1 : Int32) (h : hp_T) (Q : Int32 → Prop) : Nat → Int32 → Int32 → Prop
  | 0 => fun _ _ => False
  | nn + 1 => fun y2 y3 => (((hp_i h 106 0) ≤ y3 → (Q y2)) ∧ (¬ ((hp_i h 106 0) ≤ y3) → wp_X8_isKnowing y3 x1 h (fun v_2 => ((v_2 = 0 → (wp_X8_knowers_L4 x1 h Q nn) (y2 + (0 : Int32)) (y3 + (1 : Int32))) ∧ (¬ (v_2 = 0) → (wp_X8_knowers_L4 x1 h Q nn) (y2 + (1 : Int32)) (y3 + (1 : Int32)))))))
set_option maxRecDepth 100000 in
set_option maxHeartbeats 4000000 in
theorem bt_X8_knowers_L4 {l : Launch} {G : ab_G} {F : ab_F} {x1 : Int32} {h : hp_T} {Q : Int32 → Prop}  (C : ab_C G F rm_X8_knowers cX8_knowers 4 RX8 (some .int) "knowers")  (hw : wf h)  : ∀ (nn : Nat) (y2 : Int32) (y3 : Int32), wp_X8_knowers_L4 x1 h Q nn y2 y3 → ab_W l G F 4 (ab_MQ G F (po_p h Q) 0 0) 0 0 h [(0, .ref (G.1 + 105)), (1, .int x1), (2, .int y2), (3, .int y3)] [] 4 := by
  intro nn
  induction nn with
  | zero =>
    intro y2 y3 f
    exact absurd f id
  | succ nn ih =>
    intro y2 y3 f
    unfold wp_X8_knowers_L4 at f
    refine ab_iload_n C 3 dX8_knowers_4 rfl rfl ?_
    refine ab_aload_n C 0 dX8_knowers_5 rfl rfl ?_
    refine ab_getR C (q := 106) fl_X8_7 rfl kd_105 (wf_lt hw kd_105 rfl) (wr_8_0 hw) dX8_knowers_6 ?_
    refine ab_iconst C (v := (0 : Int32)) dX8_knowers_9 (by decide) ?_
    refine ab_iald C (by rw [kd_106]; decide) (wf_lt hw kd_106 rfl) (wf_len hw kd_106 rfl rfl (by decide)) (vp_lit (by decide)) (j := 0) (by decide) dX8_knowers_10 ?_
    refine ab_icmp_ge C (tgt := 37) dX8_knowers_11 (by decide) (fun c_1 => ?_) (fun c_1 => ?_)
    · have f := f.1 c_1
      refine ab_iload_n C 2 dX8_knowers_37 rfl rfl ?_
      exact ab_iret C dX8_knowers_38 ⟨rfl, _, rfl, f⟩
    · have f := f.2 c_1
      refine ab_iload_n C 2 dX8_knowers_14 rfl rfl ?_
      refine ab_aload_n C 0 dX8_knowers_15 rfl rfl ?_
      refine ab_iload_n C 3 dX8_knowers_16 rfl rfl ?_
      refine ab_iload_n C 1 dX8_knowers_17 rfl rfl ?_
      refine ab_callV C (k := 0) (n := 0) (rest := [.int y2]) [.int y3, .int x1] cl_X8_118 (mt_X8_isKnowing  hw f) rfl (by decide) kd_105 (wf_lt hw kd_105 rfl) ⟨rfl, rfl, Nat.le_of_ble_eq_true rfl, Nat.le_of_ble_eq_true rfl, Nat.zero_le _, Nat.zero_le _⟩ rfl rfl (Nat.le_of_ble_eq_true rfl) dX8_knowers_18 (ab_kp (k := 0) (n := 0) (fun v_2 f => ?_))
      refine ab_if_eq C (tgt := 28) dX8_knowers_21 (by decide) (fun c_3 => ?_) (fun c_3 => ?_)
      · have f := f.1 c_3
        refine ab_iconst C (v := (0 : Int32)) dX8_knowers_28 (by decide) ?_
        refine ab_iadd C dX8_knowers_29 ?_
        refine ab_istore_n C (lv' := [(2, .int (y2 + (0 : Int32))), (0, .ref (G.1 + 105)), (1, .int x1), (3, .int y3)]) dX8_knowers_30 rfl (by decide) rfl ?_
        refine ab_iinc C (lv' := [(3, .int (y3 + (1 : Int32))), (2, .int (y2 + (0 : Int32))), (0, .ref (G.1 + 105)), (1, .int x1)]) 3 (v := (y3 + (1 : Int32))) dX8_knowers_31 rfl rfl (by decide) rfl ?_
        refine ab_goto C (tgt := 4) dX8_knowers_34 (by decide) ?_
        refine ab_sub (lv' := [(0, .ref (G.1 + 105)), (1, .int x1), (2, .int (y2 + (0 : Int32))), (3, .int (y3 + (1 : Int32)))]) [2, 3, 1, 0] rfl ?_
        exact ih (y2 + (0 : Int32)) (y3 + (1 : Int32))   f
      · have f := f.2 c_3
        refine ab_iconst C (v := (1 : Int32)) dX8_knowers_24 (by decide) ?_
        refine ab_goto C (tgt := 29) dX8_knowers_25 (by decide) ?_
        refine ab_iadd C dX8_knowers_29 ?_
        refine ab_istore_n C (lv' := [(2, .int (y2 + (1 : Int32))), (0, .ref (G.1 + 105)), (1, .int x1), (3, .int y3)]) dX8_knowers_30 rfl (by decide) rfl ?_
        refine ab_iinc C (lv' := [(3, .int (y3 + (1 : Int32))), (2, .int (y2 + (1 : Int32))), (0, .ref (G.1 + 105)), (1, .int x1)]) 3 (v := (y3 + (1 : Int32))) dX8_knowers_31 rfl rfl (by decide) rfl ?_
        refine ab_goto C (tgt := 4) dX8_knowers_34 (by decide) ?_
        refine ab_sub (lv' := [(0, .ref (G.1 + 105)), (1, .int x1), (2, .int (y2 + (1 : Int32))), (3, .int (y3 + (1 : Int32)))]) [2, 3, 1, 0] rfl ?_
        exact ih (y2 + (1 : Int32)) (y3 + (1 : Int32))   f
def wp_X8_knowers (x1 : Int32) (h : hp_T) (Q : Int32 → Prop) : Prop :=
  (∃ n0, wp_X8_knowers_L4 x1 h Q  n0 (0 : Int32) (0 : Int32))
set_option maxRecDepth 100000 in
set_option maxHeartbeats 4000000 in
theorem mt_X8_knowers {l : Launch} {G : ab_G} {x1 : Int32} {h : hp_T} {Q : Int32 → Prop} (hw : wf h) (f : wp_X8_knowers x1 h Q) : ab_M l G yX8_knowers cX8_knowers 4 (some .int) rm_X8_knowers 0 0 [.ref (G.1 + 105), .int x1] h (po_p h Q) := by
  refine ab_intro (own := RX8) (nm := "knowers") rfl rfl rfl (Nat.le_of_ble_eq_true rfl) (fun F C => ?_)
  show ab_W l G F 4 (ab_MQ G F (po_p h Q) 0 0) 0 0 h [(0, .ref (G.1 + 105)), (1, .int x1)] [] 0
  unfold wp_X8_knowers at f
  refine ab_iconst C (v := (0 : Int32)) dX8_knowers_0 (by decide) ?_
  refine ab_istore_n C (lv' := [(2, .int (0 : Int32)), (0, .ref (G.1 + 105)), (1, .int x1)]) dX8_knowers_1 rfl (by decide) rfl ?_
  refine ab_iconst C (v := (0 : Int32)) dX8_knowers_2 (by decide) ?_
  refine ab_istore_n C (lv' := [(3, .int (0 : Int32)), (2, .int (0 : Int32)), (0, .ref (G.1 + 105)), (1, .int x1)]) dX8_knowers_3 rfl (by decide) rfl ?_
  obtain ⟨n0, f⟩ := f
  refine ab_sub (lv' := [(0, .ref (G.1 + 105)), (1, .int x1), (2, .int (0 : Int32)), (3, .int (0 : Int32))]) [2, 3, 1, 0] rfl ?_
  exact bt_X8_knowers_L4 C  hw  n0 (0 : Int32) (0 : Int32)   f
/-! X8_draw -/
def rm_X8_draw : Room := { frames := 2, cells := 0, slots := 0, locals := 100 }
def wp_X8_draw (h : hp_T) (Q : Int32 → hp_T → Prop) : Prop :=
  (∀ h_1, h_1 = hp_si h 106 6 (((hp_i h 106 6) * (1103515245 : Int32)) + (12345 : Int32)) → (Q (ab_ush (hp_i h_1 106 6) (8 : Int32)) h_1))
set_option maxRecDepth 100000 in
set_option maxHeartbeats 4000000 in
theorem mt_X8_draw {l : Launch} {G : ab_G}  {h : hp_T} {Q : Int32 → hp_T → Prop} (hw : wf h) (f : wp_X8_draw h Q) : ab_M l G yX8_draw cX8_draw 1 (some .int) rm_X8_draw 0 0 [.ref (G.1 + 105)] h (po_h Q) := by
  refine ab_intro (own := RX8) (nm := "draw") rfl rfl rfl (Nat.le_of_ble_eq_true rfl) (fun F C => ?_)
  show ab_W l G F 1 (ab_MQ G F (po_h Q) 0 0) 0 0 h [(0, .ref (G.1 + 105))] [] 0
  unfold wp_X8_draw at f
  refine ab_aload_n C 0 dX8_draw_0 rfl rfl ?_
  refine ab_getR C (q := 106) fl_X8_7 rfl kd_105 (wf_lt hw kd_105 rfl) (wr_8_0 hw) dX8_draw_1 ?_
  refine ab_bipush C (v := (6 : Int32)) dX8_draw_4 (by decide) ?_
  refine ab_aload_n C 0 dX8_draw_6 rfl rfl ?_
  refine ab_getR C (q := 106) fl_X8_7 rfl kd_105 (wf_lt hw kd_105 rfl) (wr_8_0 hw) dX8_draw_7 ?_
  refine ab_bipush C (v := (6 : Int32)) dX8_draw_10 (by decide) ?_
  refine ab_iald C (by rw [kd_106]; decide) (wf_lt hw kd_106 rfl) (wf_len hw kd_106 rfl rfl (by decide)) (vp_lit (by decide)) (j := 6) (by decide) dX8_draw_12 ?_
  refine ab_ldc C kw_t1054 dX8_draw_13 ?_
  refine ab_imul C dX8_draw_15 ?_
  refine ab_sipush C (v := (12345 : Int32)) dX8_draw_16 (by decide) ?_
  refine ab_iadd C dX8_draw_19 ?_
  refine ab_iast C (by rw [kd_106]; decide) (wf_lt hw kd_106 rfl) (wf_len hw kd_106 rfl rfl (by decide)) (vp_lit (by decide)) (j := 6) (by decide) dX8_draw_20 (fun h_1 e_2 => ?_)
  have f := f h_1 e_2
  have hw_3 := wf_si e_2 hw
  refine ab_aload_n C 0 dX8_draw_21 rfl rfl ?_
  refine ab_getR C (q := 106) fl_X8_7 rfl kd_105 (wf_lt hw_3 kd_105 rfl) (wr_8_0 hw_3) dX8_draw_22 ?_
  refine ab_bipush C (v := (6 : Int32)) dX8_draw_25 (by decide) ?_
  refine ab_iald C (by rw [kd_106]; decide) (wf_lt hw_3 kd_106 rfl) (wf_len hw_3 kd_106 rfl rfl (by decide)) (vp_lit (by decide)) (j := 6) (by decide) dX8_draw_27 ?_
  refine ab_bipush C (v := (8 : Int32)) dX8_draw_28 (by decide) ?_
  refine ab_iushr C dX8_draw_30 ?_
  exact ab_iret C dX8_draw_31 ⟨hw_3, _, rfl, f⟩
/-! X8_isMute -/
def rm_X8_isMute : Room := { frames := 4, cells := 0, slots := 0, locals := 143 }
def wp_X8_isMute (x1 : Int32) (h : hp_T) (Q : Int32 → Prop) : Prop :=
  wp_X8_its x1 (0 : Int32) h (fun v_1 => ((v_1 = (2 : Int32) → (Q (1 : Int32))) ∧ (¬ (v_1 = (2 : Int32)) → wp_X8_its x1 (0 : Int32) h (fun v_3 => ((v_3 = (5 : Int32) → (Q (1 : Int32))) ∧ (¬ (v_3 = (5 : Int32)) → (Q (0 : Int32))))))))
set_option maxRecDepth 100000 in
set_option maxHeartbeats 4000000 in
theorem mt_X8_isMute {l : Launch} {G : ab_G} {x1 : Int32} {h : hp_T} {Q : Int32 → Prop} (hw : wf h) (f : wp_X8_isMute x1 h Q) : ab_M l G yX8_isMute cX8_isMute 2 (some .boolean) rm_X8_isMute 0 0 [.ref (G.1 + 105), .int x1] h (po_p h Q) := by
  refine ab_intro (own := RX8) (nm := "isMute") rfl rfl rfl (Nat.le_of_ble_eq_true rfl) (fun F C => ?_)
  show ab_W l G F 2 (ab_MQ G F (po_p h Q) 0 0) 0 0 h [(0, .ref (G.1 + 105)), (1, .int x1)] [] 0
  unfold wp_X8_isMute at f
  refine ab_aload_n C 0 dX8_isMute_0 rfl rfl ?_
  refine ab_iload_n C 1 dX8_isMute_1 rfl rfl ?_
  refine ab_iconst C (v := (0 : Int32)) dX8_isMute_2 (by decide) ?_
  refine ab_callV C (k := 0) (n := 0) (rest := []) [.int x1, .int (0 : Int32)] cl_X8_60 (mt_X8_its  hw f) rfl (by decide) kd_105 (wf_lt hw kd_105 rfl) ⟨rfl, rfl, Nat.le_of_ble_eq_true rfl, Nat.le_of_ble_eq_true rfl, Nat.zero_le _, Nat.zero_le _⟩ rfl rfl (Nat.le_of_ble_eq_true rfl) dX8_isMute_3 (ab_kp (k := 0) (n := 0) (fun v_1 f => ?_))
  refine ab_iconst C (v := (2 : Int32)) dX8_isMute_6 (by decide) ?_
  refine ab_icmp_eq C (tgt := 20) dX8_isMute_7 (by decide) (fun c_2 => ?_) (fun c_2 => ?_)
  · have f := f.1 c_2
    refine ab_iconst C (v := (1 : Int32)) dX8_isMute_20 (by decide) ?_
    refine ab_goto C (tgt := 25) dX8_isMute_21 (by decide) ?_
    exact ab_zret C dX8_isMute_25 rfl ⟨rfl, _, rfl, f⟩
  · have f := f.2 c_2
    refine ab_aload_n C 0 dX8_isMute_10 rfl rfl ?_
    refine ab_iload_n C 1 dX8_isMute_11 rfl rfl ?_
    refine ab_iconst C (v := (0 : Int32)) dX8_isMute_12 (by decide) ?_
    refine ab_callV C (k := 0) (n := 0) (rest := []) [.int x1, .int (0 : Int32)] cl_X8_60 (mt_X8_its  hw f) rfl (by decide) kd_105 (wf_lt hw kd_105 rfl) ⟨rfl, rfl, Nat.le_of_ble_eq_true rfl, Nat.le_of_ble_eq_true rfl, Nat.zero_le _, Nat.zero_le _⟩ rfl rfl (Nat.le_of_ble_eq_true rfl) dX8_isMute_13 (ab_kp (k := 0) (n := 0) (fun v_3 f => ?_))
    refine ab_iconst C (v := (5 : Int32)) dX8_isMute_16 (by decide) ?_
    refine ab_icmp_ne C (tgt := 24) dX8_isMute_17 (by decide) (fun c_4 => ?_) (fun c_4 => ?_)
    · have f := f.2 c_4
      refine ab_iconst C (v := (0 : Int32)) dX8_isMute_24 (by decide) ?_
      exact ab_zret C dX8_isMute_25 rfl ⟨rfl, _, rfl, f⟩
    · have f := f.1 c_4
      refine ab_iconst C (v := (1 : Int32)) dX8_isMute_20 (by decide) ?_
      refine ab_goto C (tgt := 25) dX8_isMute_21 (by decide) ?_
      exact ab_zret C dX8_isMute_25 rfl ⟨rfl, _, rfl, f⟩
/-! X8_tells -/
def rm_X8_tells : Room := { frames := 4, cells := 0, slots := 0, locals := 143 }
def wp_X8_tells (x1 : Int32) (x2 : Int32) (h : hp_T) (Q : Int32 → Prop) : Prop :=
  wp_X8_its x1 (0 : Int32) h (fun v_1 => wp_X8_its x1 ((5 : Int32) + x2) h (fun v_2 => ((v_1 = (3 : Int32) → wp_X8_its x1 (1 : Int32) h (fun v_7 => wp_X8_held (v_2 + v_7) (0 : Int32) (999 : Int32) h (fun v_8 => (Q v_8)))) ∧ (¬ (v_1 = (3 : Int32)) → ((v_1 = (4 : Int32) → wp_X8_held (v_2 + (x2 - x2 / (2 : Int32) * (2 : Int32))) (0 : Int32) (999 : Int32) h (fun v_6 => (Q v_6))) ∧ (¬ (v_1 = (4 : Int32)) → wp_X8_held v_2 (0 : Int32) (999 : Int32) h (fun v_5 => (Q v_5))))))))
set_option maxRecDepth 100000 in
set_option maxHeartbeats 4000000 in
theorem mt_X8_tells {l : Launch} {G : ab_G} {x1 : Int32} {x2 : Int32} {h : hp_T} {Q : Int32 → Prop} (hw : wf h) (f : wp_X8_tells x1 x2 h Q) : ab_M l G yX8_tells cX8_tells 5 (some .int) rm_X8_tells 0 0 [.ref (G.1 + 105), .int x1, .int x2] h (po_p h Q) := by
  refine ab_intro (own := RX8) (nm := "tells") rfl rfl rfl (Nat.le_of_ble_eq_true rfl) (fun F C => ?_)
  show ab_W l G F 5 (ab_MQ G F (po_p h Q) 0 0) 0 0 h [(0, .ref (G.1 + 105)), (1, .int x1), (2, .int x2)] [] 0
  unfold wp_X8_tells at f
  refine ab_aload_n C 0 dX8_tells_0 rfl rfl ?_
  refine ab_iload_n C 1 dX8_tells_1 rfl rfl ?_
  refine ab_iconst C (v := (0 : Int32)) dX8_tells_2 (by decide) ?_
  refine ab_callV C (k := 0) (n := 0) (rest := []) [.int x1, .int (0 : Int32)] cl_X8_60 (mt_X8_its  hw f) rfl (by decide) kd_105 (wf_lt hw kd_105 rfl) ⟨rfl, rfl, Nat.le_of_ble_eq_true rfl, Nat.le_of_ble_eq_true rfl, Nat.zero_le _, Nat.zero_le _⟩ rfl rfl (Nat.le_of_ble_eq_true rfl) dX8_tells_3 (ab_kp (k := 0) (n := 0) (fun v_1 f => ?_))
  refine ab_istore_n C (lv' := [(3, .int v_1), (0, .ref (G.1 + 105)), (1, .int x1), (2, .int x2)]) dX8_tells_6 rfl (by decide) rfl ?_
  refine ab_aload_n C 1 dX8_tells_7 rfl rfl ?_
  refine ab_iload_n C 2 dX8_tells_8 rfl rfl ?_
  refine ab_iconst C (v := (5 : Int32)) dX8_tells_9 (by decide) ?_
  refine ab_iload_n C 3 dX8_tells_10 rfl rfl ?_
  refine ab_iadd C dX8_tells_11 ?_
  refine ab_callV C (k := 0) (n := 0) (rest := []) [.int x1, .int ((5 : Int32) + x2)] cl_X8_60 (mt_X8_its  hw f) rfl (by decide) kd_105 (wf_lt hw kd_105 rfl) ⟨rfl, rfl, Nat.le_of_ble_eq_true rfl, Nat.le_of_ble_eq_true rfl, Nat.zero_le _, Nat.zero_le _⟩ rfl rfl (Nat.le_of_ble_eq_true rfl) dX8_tells_12 (ab_kp (k := 0) (n := 0) (fun v_2 f => ?_))
  refine ab_istore C (lv' := [(4, .int v_2), (3, .int v_1), (0, .ref (G.1 + 105)), (1, .int x1), (2, .int x2)]) dX8_tells_15 (by decide) rfl ?_
  refine ab_iload_n C 1 dX8_tells_17 rfl rfl ?_
  refine ab_iconst C (v := (3 : Int32)) dX8_tells_18 (by decide) ?_
  refine ab_icmp_ne C (tgt := 34) dX8_tells_19 (by decide) (fun c_3 => ?_) (fun c_3 => ?_)
  · have f := f.2 c_3
    refine ab_iload_n C 1 dX8_tells_34 rfl rfl ?_
    refine ab_iconst C (v := (4 : Int32)) dX8_tells_35 (by decide) ?_
    refine ab_icmp_ne C (tgt := 48) dX8_tells_36 (by decide) (fun c_4 => ?_) (fun c_4 => ?_)
    · have f := f.2 c_4
      refine ab_iload C 0 dX8_tells_48 rfl ?_
      refine ab_iconst C (v := (0 : Int32)) dX8_tells_50 (by decide) ?_
      refine ab_sipush C (v := (999 : Int32)) dX8_tells_51 (by decide) ?_
      refine ab_callS C (k := 0) (n := 0) (rest := []) [.int v_2, .int (0 : Int32), .int (999 : Int32)] cl_X8_75 (mt_X8_held  hw f) ⟨rfl, rfl, Nat.le_of_ble_eq_true rfl, Nat.le_of_ble_eq_true rfl, Nat.zero_le _, Nat.zero_le _⟩ rfl rfl (Nat.le_of_ble_eq_true rfl) dX8_tells_54 (ab_kp (k := 0) (n := 0) (fun v_5 f => ?_))
      exact ab_iret C dX8_tells_57 ⟨rfl, _, rfl, f⟩
    · have f := f.1 c_4
      refine ab_iload C 0 dX8_tells_39 rfl ?_
      refine ab_iload_n C 4 dX8_tells_41 rfl rfl ?_
      refine ab_iconst C (v := (2 : Int32)) dX8_tells_42 (by decide) ?_
      refine ab_irem C dX8_tells_43 (by decide) ?_
      refine ab_iadd C dX8_tells_44 ?_
      refine ab_goto C (tgt := 50) dX8_tells_45 (by decide) ?_
      refine ab_iconst C (v := (0 : Int32)) dX8_tells_50 (by decide) ?_
      refine ab_sipush C (v := (999 : Int32)) dX8_tells_51 (by decide) ?_
      refine ab_callS C (k := 0) (n := 0) (rest := []) [.int (v_2 + (x2 - x2 / (2 : Int32) * (2 : Int32))), .int (0 : Int32), .int (999 : Int32)] cl_X8_75 (mt_X8_held  hw f) ⟨rfl, rfl, Nat.le_of_ble_eq_true rfl, Nat.le_of_ble_eq_true rfl, Nat.zero_le _, Nat.zero_le _⟩ rfl rfl (Nat.le_of_ble_eq_true rfl) dX8_tells_54 (ab_kp (k := 0) (n := 0) (fun v_6 f => ?_))
      exact ab_iret C dX8_tells_57 ⟨rfl, _, rfl, f⟩
  · have f := f.1 c_3
    refine ab_iload C 0 dX8_tells_22 rfl ?_
    refine ab_aload_n C 2 dX8_tells_24 rfl rfl ?_
    refine ab_iload_n C 3 dX8_tells_25 rfl rfl ?_
    refine ab_iconst C (v := (1 : Int32)) dX8_tells_26 (by decide) ?_
    refine ab_callV C (k := 0) (n := 0) (rest := [.int v_2]) [.int x1, .int (1 : Int32)] cl_X8_60 (mt_X8_its  hw f) rfl (by decide) kd_105 (wf_lt hw kd_105 rfl) ⟨rfl, rfl, Nat.le_of_ble_eq_true rfl, Nat.le_of_ble_eq_true rfl, Nat.zero_le _, Nat.zero_le _⟩ rfl rfl (Nat.le_of_ble_eq_true rfl) dX8_tells_27 (ab_kp (k := 0) (n := 0) (fun v_7 f => ?_))
    refine ab_iadd C dX8_tells_30 ?_
    refine ab_goto C (tgt := 50) dX8_tells_31 (by decide) ?_
    refine ab_iconst C (v := (0 : Int32)) dX8_tells_50 (by decide) ?_
    refine ab_sipush C (v := (999 : Int32)) dX8_tells_51 (by decide) ?_
    refine ab_callS C (k := 0) (n := 0) (rest := []) [.int (v_2 + v_7), .int (0 : Int32), .int (999 : Int32)] cl_X8_75 (mt_X8_held  hw f) ⟨rfl, rfl, Nat.le_of_ble_eq_true rfl, Nat.le_of_ble_eq_true rfl, Nat.zero_le _, Nat.zero_le _⟩ rfl rfl (Nat.le_of_ble_eq_true rfl) dX8_tells_54 (ab_kp (k := 0) (n := 0) (fun v_8 f => ?_))
    exact ab_iret C dX8_tells_57 ⟨rfl, _, rfl, f⟩
/-! X8_lesson -/
def rm_X8_lesson : Room := { frames := 5, cells := 0, slots := 0, locals := 174 }
def wp_X8_lesson (x1 : Int32) (x2 : Int32) (h : hp_T) (Q : hp_T → Prop) : Prop :=
  wp_X8_its x1 (4 : Int32) h (fun v_1 => (¬ (hp_i h 106 0) = 0) ∧ ((v_1 < 0 → (Q h)) ∧ (¬ (v_1 < 0) → wp_X8_isKnowing x1 v_1 h (fun v_4 => ((v_4 = 0 → (Q h)) ∧ (¬ (v_4 = 0) → wp_X8_isMute x1 h (fun v_6 => ((v_6 = 0 → wp_X8_isKnowing ((x1 + (1 : Int32)) - (x1 + (1 : Int32)) / (hp_i h 106 0) * (hp_i h 106 0)) v_1 h (fun v_8 => ((v_8 = 0 → wp_X8_at ((x1 + (1 : Int32)) - (x1 + (1 : Int32)) / (hp_i h 106 0) * (hp_i h 106 0)) ((11 : Int32) + v_1) h (fun v_10 => wp_X8_its ((x1 + (1 : Int32)) - (x1 + (1 : Int32)) / (hp_i h 106 0) * (hp_i h 106 0)) ((11 : Int32) + v_1) h (fun v_11 => wp_X8_held (v_11 + (1 : Int32)) (0 : Int32) (99 : Int32) h (fun v_12 => (vp_in v_10 357) ∧ (∀ h_14, h_14 = hp_si h 106 v_10.toNatClampNeg v_12 → wp_X8_its ((x1 + (1 : Int32)) - (x1 + (1 : Int32)) / (hp_i h 106 0) * (hp_i h 106 0)) ((11 : Int32) + v_1) h_14 (fun v_17 => wp_X8_needs ((x1 + (1 : Int32)) - (x1 + (1 : Int32)) / (hp_i h 106 0) * (hp_i h 106 0)) v_1 h_14 (fun v_18 h_19 => ((v_17 < v_18 → (Q h_19)) ∧ (¬ (v_17 < v_18) → wp_X8_tells x1 v_1 h_19 (fun v_22 => ((x2 = 0 → wp_X8_at ((x1 + (1 : Int32)) - (x1 + (1 : Int32)) / (hp_i h 106 0) * (hp_i h 106 0)) (3 : Int32) h_19 (fun v_24 => (vp_in v_24 357) ∧ (vp_in v_24 357) ∧ (∀ h_27, h_27 = hp_si h_19 106 v_24.toNatClampNeg ((hp_i h_19 106 v_24.toNatClampNeg) ||| ((1 : Int32) <<< (v_1 &&& 31))) → wp_X8_at ((x1 + (1 : Int32)) - (x1 + (1 : Int32)) / (hp_i h 106 0) * (hp_i h 106 0)) ((5 : Int32) + v_1) h_27 (fun v_30 => (vp_in v_30 357) ∧ (∀ h_32, h_32 = hp_si h_27 106 v_30.toNatClampNeg v_22 → (Q h_32)))))) ∧ (¬ (x2 = 0) → wp_X8_draw h_19 (fun v_35 h_36 => (((hp_i h_36 106 5) ≤ (v_35 - v_35 / (16 : Int32) * (16 : Int32)) → wp_X8_at ((x1 + (1 : Int32)) - (x1 + (1 : Int32)) / (hp_i h 106 0) * (hp_i h 106 0)) (3 : Int32) h_36 (fun v_39 => (vp_in v_39 357) ∧ (vp_in v_39 357) ∧ (∀ h_42, h_42 = hp_si h_36 106 v_39.toNatClampNeg ((hp_i h_36 106 v_39.toNatClampNeg) ||| ((1 : Int32) <<< (v_1 &&& 31))) → wp_X8_at ((x1 + (1 : Int32)) - (x1 + (1 : Int32)) / (hp_i h 106 0) * (hp_i h 106 0)) ((5 : Int32) + v_1) h_42 (fun v_45 => (vp_in v_45 357) ∧ (∀ h_47, h_47 = hp_si h_42 106 v_45.toNatClampNeg v_22 → (Q h_47)))))) ∧ (¬ ((hp_i h_36 106 5) ≤ (v_35 - v_35 / (16 : Int32) * (16 : Int32))) → wp_X8_held (v_22 + (1 : Int32)) (0 : Int32) (999 : Int32) h_36 (fun v_50 => (∀ h_51, h_51 = hp_si h_36 105 13 ((hp_i h_36 105 13) + (1 : Int32)) → wp_X8_at ((x1 + (1 : Int32)) - (x1 + (1 : Int32)) / (hp_i h 106 0) * (hp_i h 106 0)) (3 : Int32) h_51 (fun v_54 => (vp_in v_54 357) ∧ (vp_in v_54 357) ∧ (∀ h_57, h_57 = hp_si h_51 106 v_54.toNatClampNeg ((hp_i h_51 106 v_54.toNatClampNeg) ||| ((1 : Int32) <<< (v_1 &&& 31))) → wp_X8_at ((x1 + (1 : Int32)) - (x1 + (1 : Int32)) / (hp_i h 106 0) * (hp_i h 106 0)) ((5 : Int32) + v_1) h_57 (fun v_60 => (vp_in v_60 357) ∧ (∀ h_62, h_62 = hp_si h_57 106 v_60.toNatClampNeg v_50 → (Q h_62)))))))))))))))))))))) ∧ (¬ (v_8 = 0) → (Q h))))) ∧ (¬ (v_6 = 0) → (Q h))))))))))
set_option maxRecDepth 100000 in
set_option maxHeartbeats 4000000 in
theorem mt_X8_lesson {l : Launch} {G : ab_G} {x1 : Int32} {x2 : Int32} {h : hp_T} {Q : hp_T → Prop} (hw : wf h) (f : wp_X8_lesson x1 x2 h Q) : ab_M l G yX8_lesson cX8_lesson 6 none rm_X8_lesson 0 0 [.ref (G.1 + 105), .int x1, .int x2] h (po_v Q) := by
  refine ab_intro (own := RX8) (nm := "lesson") rfl rfl rfl (Nat.le_of_ble_eq_true rfl) (fun F C => ?_)
  show ab_W l G F 6 (ab_MQ G F (po_v Q) 0 0) 0 0 h [(0, .ref (G.1 + 105)), (1, .int x1), (2, .int x2)] [] 0
  unfold wp_X8_lesson at f
  refine ab_aload_n C 0 dX8_lesson_0 rfl rfl ?_
  refine ab_iload_n C 1 dX8_lesson_1 rfl rfl ?_
  refine ab_iconst C (v := (4 : Int32)) dX8_lesson_2 (by decide) ?_
  refine ab_callV C (k := 0) (n := 0) (rest := []) [.int x1, .int (4 : Int32)] cl_X8_60 (mt_X8_its  hw f) rfl (by decide) kd_105 (wf_lt hw kd_105 rfl) ⟨rfl, rfl, Nat.le_of_ble_eq_true rfl, Nat.le_of_ble_eq_true rfl, Nat.zero_le _, Nat.zero_le _⟩ rfl rfl (Nat.le_of_ble_eq_true rfl) dX8_lesson_3 (ab_kp (k := 0) (n := 0) (fun v_1 f => ?_))
  refine ab_istore_n C (lv' := [(3, .int v_1), (0, .ref (G.1 + 105)), (1, .int x1), (2, .int x2)]) dX8_lesson_6 rfl (by decide) rfl ?_
  refine ab_iload_n C 2 dX8_lesson_7 rfl rfl ?_
  refine ab_iconst C (v := (1 : Int32)) dX8_lesson_8 (by decide) ?_
  refine ab_iadd C dX8_lesson_9 ?_
  refine ab_aload_n C 1 dX8_lesson_10 rfl rfl ?_
  refine ab_getR C (q := 106) fl_X8_7 rfl kd_105 (wf_lt hw kd_105 rfl) (wr_8_0 hw) dX8_lesson_11 ?_
  refine ab_iconst C (v := (0 : Int32)) dX8_lesson_14 (by decide) ?_
  refine ab_iald C (by rw [kd_106]; decide) (wf_lt hw kd_106 rfl) (wf_len hw kd_106 rfl rfl (by decide)) (vp_lit (by decide)) (j := 0) (by decide) dX8_lesson_15 ?_
  obtain ⟨c_2, f⟩ := f
  refine ab_irem C dX8_lesson_16 c_2 ?_
  refine ab_istore C (lv' := [(4, .int ((x1 + (1 : Int32)) - (x1 + (1 : Int32)) / (hp_i h 106 0) * (hp_i h 106 0))), (3, .int v_1), (0, .ref (G.1 + 105)), (1, .int x1), (2, .int x2)]) dX8_lesson_17 (by decide) rfl ?_
  refine ab_iload_n C 1 dX8_lesson_19 rfl rfl ?_
  refine ab_if_lt C (tgt := 185) dX8_lesson_20 (by decide) (fun c_3 => ?_) (fun c_3 => ?_)
  · have f := f.1 c_3
    exact ab_vret C dX8_lesson_185 ⟨hw, rfl, f⟩
  · have f := f.2 c_3
    refine ab_aload_n C 2 dX8_lesson_23 rfl rfl ?_
    refine ab_iload_n C 3 dX8_lesson_24 rfl rfl ?_
    refine ab_iload_n C 1 dX8_lesson_25 rfl rfl ?_
    refine ab_callV C (k := 0) (n := 0) (rest := []) [.int x1, .int v_1] cl_X8_118 (mt_X8_isKnowing  hw f) rfl (by decide) kd_105 (wf_lt hw kd_105 rfl) ⟨rfl, rfl, Nat.le_of_ble_eq_true rfl, Nat.le_of_ble_eq_true rfl, Nat.zero_le _, Nat.zero_le _⟩ rfl rfl (Nat.le_of_ble_eq_true rfl) dX8_lesson_26 (ab_kp (k := 0) (n := 0) (fun v_4 f => ?_))
    refine ab_if_eq C (tgt := 185) dX8_lesson_29 (by decide) (fun c_5 => ?_) (fun c_5 => ?_)
    · have f := f.1 c_5
      exact ab_vret C dX8_lesson_185 ⟨hw, rfl, f⟩
    · have f := f.2 c_5
      refine ab_aload_n C 2 dX8_lesson_32 rfl rfl ?_
      refine ab_iload_n C 3 dX8_lesson_33 rfl rfl ?_
      refine ab_callV C (k := 0) (n := 0) (rest := []) [.int x1] cl_X8_218 (mt_X8_isMute  hw f) rfl (by decide) kd_105 (wf_lt hw kd_105 rfl) ⟨rfl, rfl, Nat.le_of_ble_eq_true rfl, Nat.le_of_ble_eq_true rfl, Nat.zero_le _, Nat.zero_le _⟩ rfl rfl (Nat.le_of_ble_eq_true rfl) dX8_lesson_34 (ab_kp (k := 0) (n := 0) (fun v_6 f => ?_))
      refine ab_if_ne C (tgt := 185) dX8_lesson_37 (by decide) (fun c_7 => ?_) (fun c_7 => ?_)
      · have f := f.2 c_7
        exact ab_vret C dX8_lesson_185 ⟨hw, rfl, f⟩
      · have f := f.1 c_7
        refine ab_aload_n C 2 dX8_lesson_40 rfl rfl ?_
        refine ab_iload C 0 dX8_lesson_41 rfl ?_
        refine ab_iload_n C 1 dX8_lesson_43 rfl rfl ?_
        refine ab_callV C (k := 0) (n := 0) (rest := []) [.int ((x1 + (1 : Int32)) - (x1 + (1 : Int32)) / (hp_i h 106 0) * (hp_i h 106 0)), .int v_1] cl_X8_118 (mt_X8_isKnowing  hw f) rfl (by decide) kd_105 (wf_lt hw kd_105 rfl) ⟨rfl, rfl, Nat.le_of_ble_eq_true rfl, Nat.le_of_ble_eq_true rfl, Nat.zero_le _, Nat.zero_le _⟩ rfl rfl (Nat.le_of_ble_eq_true rfl) dX8_lesson_44 (ab_kp (k := 0) (n := 0) (fun v_8 f => ?_))
        refine ab_if_ne C (tgt := 185) dX8_lesson_47 (by decide) (fun c_9 => ?_) (fun c_9 => ?_)
        · have f := f.2 c_9
          exact ab_vret C dX8_lesson_185 ⟨hw, rfl, f⟩
        · have f := f.1 c_9
          refine ab_aload_n C 2 dX8_lesson_50 rfl rfl ?_
          refine ab_getR C (q := 106) fl_X8_7 rfl kd_105 (wf_lt hw kd_105 rfl) (wr_8_0 hw) dX8_lesson_51 ?_
          refine ab_iload C 0 dX8_lesson_54 rfl ?_
          refine ab_bipush C (v := (11 : Int32)) dX8_lesson_56 (by decide) ?_
          refine ab_iload_n C 1 dX8_lesson_58 rfl rfl ?_
          refine ab_iadd C dX8_lesson_59 ?_
          refine ab_callS C (k := 0) (n := 0) (rest := [.ref (G.1 + 106)]) [.int ((x1 + (1 : Int32)) - (x1 + (1 : Int32)) / (hp_i h 106 0) * (hp_i h 106 0)), .int ((11 : Int32) + v_1)] cl_X8_56 (mt_X8_at  hw f) ⟨rfl, rfl, Nat.le_of_ble_eq_true rfl, Nat.le_of_ble_eq_true rfl, Nat.zero_le _, Nat.zero_le _⟩ rfl rfl (Nat.le_of_ble_eq_true rfl) dX8_lesson_60 (ab_kp (k := 0) (n := 0) (fun v_10 f => ?_))
          refine ab_aload_n C 2 dX8_lesson_63 rfl rfl ?_
          refine ab_iload C 0 dX8_lesson_64 rfl ?_
          refine ab_bipush C (v := (11 : Int32)) dX8_lesson_66 (by decide) ?_
          refine ab_iload_n C 1 dX8_lesson_68 rfl rfl ?_
          refine ab_iadd C dX8_lesson_69 ?_
          refine ab_callV C (k := 0) (n := 0) (rest := [.int v_10, .ref (G.1 + 106)]) [.int ((x1 + (1 : Int32)) - (x1 + (1 : Int32)) / (hp_i h 106 0) * (hp_i h 106 0)), .int ((11 : Int32) + v_1)] cl_X8_60 (mt_X8_its  hw f) rfl (by decide) kd_105 (wf_lt hw kd_105 rfl) ⟨rfl, rfl, Nat.le_of_ble_eq_true rfl, Nat.le_of_ble_eq_true rfl, Nat.zero_le _, Nat.zero_le _⟩ rfl rfl (Nat.le_of_ble_eq_true rfl) dX8_lesson_70 (ab_kp (k := 0) (n := 0) (fun v_11 f => ?_))
          refine ab_iconst C (v := (1 : Int32)) dX8_lesson_73 (by decide) ?_
          refine ab_iadd C dX8_lesson_74 ?_
          refine ab_iconst C (v := (0 : Int32)) dX8_lesson_75 (by decide) ?_
          refine ab_bipush C (v := (99 : Int32)) dX8_lesson_76 (by decide) ?_
          refine ab_callS C (k := 0) (n := 0) (rest := [.int v_10, .ref (G.1 + 106)]) [.int (v_11 + (1 : Int32)), .int (0 : Int32), .int (99 : Int32)] cl_X8_75 (mt_X8_held  hw f) ⟨rfl, rfl, Nat.le_of_ble_eq_true rfl, Nat.le_of_ble_eq_true rfl, Nat.zero_le _, Nat.zero_le _⟩ rfl rfl (Nat.le_of_ble_eq_true rfl) dX8_lesson_78 (ab_kp (k := 0) (n := 0) (fun v_12 f => ?_))
          obtain ⟨c_13, f⟩ := f
          refine ab_iast C (by rw [kd_106]; decide) (wf_lt hw kd_106 rfl) (wf_len hw kd_106 rfl rfl (by decide)) c_13 (j := v_10.toNatClampNeg) rfl dX8_lesson_81 (fun h_14 e_15 => ?_)
          have f := f h_14 e_15
          have hw_16 := wf_si e_15 hw
          refine ab_aload_n C 2 dX8_lesson_82 rfl rfl ?_
          refine ab_iload C 0 dX8_lesson_83 rfl ?_
          refine ab_bipush C (v := (11 : Int32)) dX8_lesson_85 (by decide) ?_
          refine ab_iload_n C 1 dX8_lesson_87 rfl rfl ?_
          refine ab_iadd C dX8_lesson_88 ?_
          refine ab_callV C (k := 0) (n := 0) (rest := []) [.int ((x1 + (1 : Int32)) - (x1 + (1 : Int32)) / (hp_i h 106 0) * (hp_i h 106 0)), .int ((11 : Int32) + v_1)] cl_X8_60 (mt_X8_its  hw_16 f) rfl (by decide) kd_105 (wf_lt hw_16 kd_105 rfl) ⟨rfl, rfl, Nat.le_of_ble_eq_true rfl, Nat.le_of_ble_eq_true rfl, Nat.zero_le _, Nat.zero_le _⟩ rfl rfl (Nat.le_of_ble_eq_true rfl) dX8_lesson_89 (ab_kp (k := 0) (n := 0) (fun v_17 f => ?_))
          refine ab_aload_n C 2 dX8_lesson_92 rfl rfl ?_
          refine ab_iload C 0 dX8_lesson_93 rfl ?_
          refine ab_iload_n C 1 dX8_lesson_95 rfl rfl ?_
          refine ab_callV C (k := 0) (n := 0) (rest := [.int v_17]) [.int ((x1 + (1 : Int32)) - (x1 + (1 : Int32)) / (hp_i h 106 0) * (hp_i h 106 0)), .int v_1] cl_X8_95 (mt_X8_needs  hw_16 f) rfl (by decide) kd_105 (wf_lt hw_16 kd_105 rfl) ⟨rfl, rfl, Nat.le_of_ble_eq_true rfl, Nat.le_of_ble_eq_true rfl, Nat.zero_le _, Nat.zero_le _⟩ rfl rfl (Nat.le_of_ble_eq_true rfl) dX8_lesson_96 (ab_kh (k := 0) (n := 0) (fun v_18 h_19 hw_20 f => ?_))
          refine ab_icmp_lt C (tgt := 185) dX8_lesson_99 (by decide) (fun c_21 => ?_) (fun c_21 => ?_)
          · have f := f.1 c_21
            exact ab_vret C dX8_lesson_185 ⟨hw_20, rfl, f⟩
          · have f := f.2 c_21
            refine ab_aload_n C 2 dX8_lesson_102 rfl rfl ?_
            refine ab_iload_n C 3 dX8_lesson_103 rfl rfl ?_
            refine ab_iload_n C 1 dX8_lesson_104 rfl rfl ?_
            refine ab_callV C (k := 0) (n := 0) (rest := []) [.int x1, .int v_1] cl_X8_221 (mt_X8_tells  hw_20 f) rfl (by decide) kd_105 (wf_lt hw_20 kd_105 rfl) ⟨rfl, rfl, Nat.le_of_ble_eq_true rfl, Nat.le_of_ble_eq_true rfl, Nat.zero_le _, Nat.zero_le _⟩ rfl rfl (Nat.le_of_ble_eq_true rfl) dX8_lesson_105 (ab_kp (k := 0) (n := 0) (fun v_22 f => ?_))
            refine ab_istore C (lv' := [(5, .int v_22), (4, .int ((x1 + (1 : Int32)) - (x1 + (1 : Int32)) / (hp_i h 106 0) * (hp_i h 106 0))), (3, .int v_1), (0, .ref (G.1 + 105)), (1, .int x1), (2, .int x2)]) dX8_lesson_108 (by decide) rfl ?_
            refine ab_iload_n C 5 dX8_lesson_110 rfl rfl ?_
            refine ab_if_eq C (tgt := 153) dX8_lesson_111 (by decide) (fun c_23 => ?_) (fun c_23 => ?_)
            · have f := f.1 c_23
              refine ab_aload_n C 3 dX8_lesson_153 rfl rfl ?_
              refine ab_getR C (q := 106) fl_X8_7 rfl kd_105 (wf_lt hw_20 kd_105 rfl) (wr_8_0 hw_20) dX8_lesson_154 ?_
              refine ab_iload C 1 dX8_lesson_157 rfl ?_
              refine ab_iconst C (v := (3 : Int32)) dX8_lesson_159 (by decide) ?_
              refine ab_callS C (k := 0) (n := 0) (rest := [.ref (G.1 + 106)]) [.int ((x1 + (1 : Int32)) - (x1 + (1 : Int32)) / (hp_i h 106 0) * (hp_i h 106 0)), .int (3 : Int32)] cl_X8_56 (mt_X8_at  hw_20 f) ⟨rfl, rfl, Nat.le_of_ble_eq_true rfl, Nat.le_of_ble_eq_true rfl, Nat.zero_le _, Nat.zero_le _⟩ rfl rfl (Nat.le_of_ble_eq_true rfl) dX8_lesson_160 (ab_kp (k := 0) (n := 0) (fun v_24 f => ?_))
              refine ab_dup2 C dX8_lesson_163 rfl rfl ?_
              obtain ⟨c_25, f⟩ := f
              refine ab_iald C (by rw [kd_106]; decide) (wf_lt hw_20 kd_106 rfl) (wf_len hw_20 kd_106 rfl rfl (by decide)) c_25 (j := v_24.toNatClampNeg) rfl dX8_lesson_164 ?_
              refine ab_iconst C (v := (1 : Int32)) dX8_lesson_165 (by decide) ?_
              refine ab_iload_n C 2 dX8_lesson_166 rfl rfl ?_
              refine ab_ishl C dX8_lesson_167 ?_
              refine ab_ior C dX8_lesson_168 ?_
              obtain ⟨c_26, f⟩ := f
              refine ab_iast C (by rw [kd_106]; decide) (wf_lt hw_20 kd_106 rfl) (wf_len hw_20 kd_106 rfl rfl (by decide)) c_26 (j := v_24.toNatClampNeg) rfl dX8_lesson_169 (fun h_27 e_28 => ?_)
              have f := f h_27 e_28
              have hw_29 := wf_si e_28 hw_20
              refine ab_aload_n C 3 dX8_lesson_170 rfl rfl ?_
              refine ab_getR C (q := 106) fl_X8_7 rfl kd_105 (wf_lt hw_29 kd_105 rfl) (wr_8_0 hw_29) dX8_lesson_171 ?_
              refine ab_iload C 1 dX8_lesson_174 rfl ?_
              refine ab_iconst C (v := (5 : Int32)) dX8_lesson_176 (by decide) ?_
              refine ab_iload_n C 2 dX8_lesson_177 rfl rfl ?_
              refine ab_iadd C dX8_lesson_178 ?_
              refine ab_callS C (k := 0) (n := 0) (rest := [.ref (G.1 + 106)]) [.int ((x1 + (1 : Int32)) - (x1 + (1 : Int32)) / (hp_i h 106 0) * (hp_i h 106 0)), .int ((5 : Int32) + v_1)] cl_X8_56 (mt_X8_at  hw_29 f) ⟨rfl, rfl, Nat.le_of_ble_eq_true rfl, Nat.le_of_ble_eq_true rfl, Nat.zero_le _, Nat.zero_le _⟩ rfl rfl (Nat.le_of_ble_eq_true rfl) dX8_lesson_179 (ab_kp (k := 0) (n := 0) (fun v_30 f => ?_))
              refine ab_iload C 0 dX8_lesson_182 rfl ?_
              obtain ⟨c_31, f⟩ := f
              refine ab_iast C (by rw [kd_106]; decide) (wf_lt hw_29 kd_106 rfl) (wf_len hw_29 kd_106 rfl rfl (by decide)) c_31 (j := v_30.toNatClampNeg) rfl dX8_lesson_184 (fun h_32 e_33 => ?_)
              have f := f h_32 e_33
              have hw_34 := wf_si e_33 hw_29
              exact ab_vret C dX8_lesson_185 ⟨hw_34, rfl, f⟩
            · have f := f.2 c_23
              refine ab_aload_n C 3 dX8_lesson_114 rfl rfl ?_
              refine ab_callV C (k := 0) (n := 0) (rest := []) [] cl_X8_224 (mt_X8_draw  hw_20 f) rfl (by decide) kd_105 (wf_lt hw_20 kd_105 rfl) ⟨rfl, rfl, Nat.le_of_ble_eq_true rfl, Nat.le_of_ble_eq_true rfl, Nat.zero_le _, Nat.zero_le _⟩ rfl rfl (Nat.le_of_ble_eq_true rfl) dX8_lesson_115 (ab_kh (k := 0) (n := 0) (fun v_35 h_36 hw_37 f => ?_))
              refine ab_bipush C (v := (16 : Int32)) dX8_lesson_118 (by decide) ?_
              refine ab_irem C dX8_lesson_120 (by decide) ?_
              refine ab_aload_n C 3 dX8_lesson_121 rfl rfl ?_
              refine ab_getR C (q := 106) fl_X8_7 rfl kd_105 (wf_lt hw_37 kd_105 rfl) (wr_8_0 hw_37) dX8_lesson_122 ?_
              refine ab_iconst C (v := (5 : Int32)) dX8_lesson_125 (by decide) ?_
              refine ab_iald C (by rw [kd_106]; decide) (wf_lt hw_37 kd_106 rfl) (wf_len hw_37 kd_106 rfl rfl (by decide)) (vp_lit (by decide)) (j := 5) (by decide) dX8_lesson_126 ?_
              refine ab_icmp_ge C (tgt := 153) dX8_lesson_127 (by decide) (fun c_38 => ?_) (fun c_38 => ?_)
              · have f := f.1 c_38
                refine ab_aload_n C 3 dX8_lesson_153 rfl rfl ?_
                refine ab_getR C (q := 106) fl_X8_7 rfl kd_105 (wf_lt hw_37 kd_105 rfl) (wr_8_0 hw_37) dX8_lesson_154 ?_
                refine ab_iload C 1 dX8_lesson_157 rfl ?_
                refine ab_iconst C (v := (3 : Int32)) dX8_lesson_159 (by decide) ?_
                refine ab_callS C (k := 0) (n := 0) (rest := [.ref (G.1 + 106)]) [.int ((x1 + (1 : Int32)) - (x1 + (1 : Int32)) / (hp_i h 106 0) * (hp_i h 106 0)), .int (3 : Int32)] cl_X8_56 (mt_X8_at  hw_37 f) ⟨rfl, rfl, Nat.le_of_ble_eq_true rfl, Nat.le_of_ble_eq_true rfl, Nat.zero_le _, Nat.zero_le _⟩ rfl rfl (Nat.le_of_ble_eq_true rfl) dX8_lesson_160 (ab_kp (k := 0) (n := 0) (fun v_39 f => ?_))
                refine ab_dup2 C dX8_lesson_163 rfl rfl ?_
                obtain ⟨c_40, f⟩ := f
                refine ab_iald C (by rw [kd_106]; decide) (wf_lt hw_37 kd_106 rfl) (wf_len hw_37 kd_106 rfl rfl (by decide)) c_40 (j := v_39.toNatClampNeg) rfl dX8_lesson_164 ?_
                refine ab_iconst C (v := (1 : Int32)) dX8_lesson_165 (by decide) ?_
                refine ab_iload_n C 2 dX8_lesson_166 rfl rfl ?_
                refine ab_ishl C dX8_lesson_167 ?_
                refine ab_ior C dX8_lesson_168 ?_
                obtain ⟨c_41, f⟩ := f
                refine ab_iast C (by rw [kd_106]; decide) (wf_lt hw_37 kd_106 rfl) (wf_len hw_37 kd_106 rfl rfl (by decide)) c_41 (j := v_39.toNatClampNeg) rfl dX8_lesson_169 (fun h_42 e_43 => ?_)
                have f := f h_42 e_43
                have hw_44 := wf_si e_43 hw_37
                refine ab_aload_n C 3 dX8_lesson_170 rfl rfl ?_
                refine ab_getR C (q := 106) fl_X8_7 rfl kd_105 (wf_lt hw_44 kd_105 rfl) (wr_8_0 hw_44) dX8_lesson_171 ?_
                refine ab_iload C 1 dX8_lesson_174 rfl ?_
                refine ab_iconst C (v := (5 : Int32)) dX8_lesson_176 (by decide) ?_
                refine ab_iload_n C 2 dX8_lesson_177 rfl rfl ?_
                refine ab_iadd C dX8_lesson_178 ?_
                refine ab_callS C (k := 0) (n := 0) (rest := [.ref (G.1 + 106)]) [.int ((x1 + (1 : Int32)) - (x1 + (1 : Int32)) / (hp_i h 106 0) * (hp_i h 106 0)), .int ((5 : Int32) + v_1)] cl_X8_56 (mt_X8_at  hw_44 f) ⟨rfl, rfl, Nat.le_of_ble_eq_true rfl, Nat.le_of_ble_eq_true rfl, Nat.zero_le _, Nat.zero_le _⟩ rfl rfl (Nat.le_of_ble_eq_true rfl) dX8_lesson_179 (ab_kp (k := 0) (n := 0) (fun v_45 f => ?_))
                refine ab_iload C 0 dX8_lesson_182 rfl ?_
                obtain ⟨c_46, f⟩ := f
                refine ab_iast C (by rw [kd_106]; decide) (wf_lt hw_44 kd_106 rfl) (wf_len hw_44 kd_106 rfl rfl (by decide)) c_46 (j := v_45.toNatClampNeg) rfl dX8_lesson_184 (fun h_47 e_48 => ?_)
                have f := f h_47 e_48
                have hw_49 := wf_si e_48 hw_44
                exact ab_vret C dX8_lesson_185 ⟨hw_49, rfl, f⟩
              · have f := f.2 c_38
                refine ab_iload C 0 dX8_lesson_130 rfl ?_
                refine ab_iconst C (v := (1 : Int32)) dX8_lesson_132 (by decide) ?_
                refine ab_iadd C dX8_lesson_133 ?_
                refine ab_iconst C (v := (0 : Int32)) dX8_lesson_134 (by decide) ?_
                refine ab_sipush C (v := (999 : Int32)) dX8_lesson_135 (by decide) ?_
                refine ab_callS C (k := 0) (n := 0) (rest := []) [.int (v_22 + (1 : Int32)), .int (0 : Int32), .int (999 : Int32)] cl_X8_75 (mt_X8_held  hw_37 f) ⟨rfl, rfl, Nat.le_of_ble_eq_true rfl, Nat.le_of_ble_eq_true rfl, Nat.zero_le _, Nat.zero_le _⟩ rfl rfl (Nat.le_of_ble_eq_true rfl) dX8_lesson_138 (ab_kp (k := 0) (n := 0) (fun v_50 f => ?_))
                refine ab_istore C (lv' := [(5, .int v_50), (4, .int ((x1 + (1 : Int32)) - (x1 + (1 : Int32)) / (hp_i h 106 0) * (hp_i h 106 0))), (3, .int v_1), (0, .ref (G.1 + 105)), (1, .int x1), (2, .int x2)]) dX8_lesson_141 (by decide) rfl ?_
                refine ab_aload_n C 3 dX8_lesson_143 rfl rfl ?_
                refine ab_dup C dX8_lesson_144 rfl ?_
                refine ab_getI C fl_X8_227 rfl kd_105 (wf_lt hw_37 kd_105 rfl) dX8_lesson_145 ?_
                refine ab_iconst C (v := (1 : Int32)) dX8_lesson_148 (by decide) ?_
                refine ab_iadd C dX8_lesson_149 ?_
                refine ab_putI C fl_X8_227 rfl kd_105 (wf_lt hw_37 kd_105 rfl) rfl rfl dX8_lesson_150 (fun h_51 e_52 => ?_)
                have f := f h_51 e_52
                have hw_53 := wf_si e_52 hw_37
                refine ab_aload_n C 3 dX8_lesson_153 rfl rfl ?_
                refine ab_getR C (q := 106) fl_X8_7 rfl kd_105 (wf_lt hw_53 kd_105 rfl) (wr_8_0 hw_53) dX8_lesson_154 ?_
                refine ab_iload C 1 dX8_lesson_157 rfl ?_
                refine ab_iconst C (v := (3 : Int32)) dX8_lesson_159 (by decide) ?_
                refine ab_callS C (k := 0) (n := 0) (rest := [.ref (G.1 + 106)]) [.int ((x1 + (1 : Int32)) - (x1 + (1 : Int32)) / (hp_i h 106 0) * (hp_i h 106 0)), .int (3 : Int32)] cl_X8_56 (mt_X8_at  hw_53 f) ⟨rfl, rfl, Nat.le_of_ble_eq_true rfl, Nat.le_of_ble_eq_true rfl, Nat.zero_le _, Nat.zero_le _⟩ rfl rfl (Nat.le_of_ble_eq_true rfl) dX8_lesson_160 (ab_kp (k := 0) (n := 0) (fun v_54 f => ?_))
                refine ab_dup2 C dX8_lesson_163 rfl rfl ?_
                obtain ⟨c_55, f⟩ := f
                refine ab_iald C (by rw [kd_106]; decide) (wf_lt hw_53 kd_106 rfl) (wf_len hw_53 kd_106 rfl rfl (by decide)) c_55 (j := v_54.toNatClampNeg) rfl dX8_lesson_164 ?_
                refine ab_iconst C (v := (1 : Int32)) dX8_lesson_165 (by decide) ?_
                refine ab_iload_n C 2 dX8_lesson_166 rfl rfl ?_
                refine ab_ishl C dX8_lesson_167 ?_
                refine ab_ior C dX8_lesson_168 ?_
                obtain ⟨c_56, f⟩ := f
                refine ab_iast C (by rw [kd_106]; decide) (wf_lt hw_53 kd_106 rfl) (wf_len hw_53 kd_106 rfl rfl (by decide)) c_56 (j := v_54.toNatClampNeg) rfl dX8_lesson_169 (fun h_57 e_58 => ?_)
                have f := f h_57 e_58
                have hw_59 := wf_si e_58 hw_53
                refine ab_aload_n C 3 dX8_lesson_170 rfl rfl ?_
                refine ab_getR C (q := 106) fl_X8_7 rfl kd_105 (wf_lt hw_59 kd_105 rfl) (wr_8_0 hw_59) dX8_lesson_171 ?_
                refine ab_iload C 1 dX8_lesson_174 rfl ?_
                refine ab_iconst C (v := (5 : Int32)) dX8_lesson_176 (by decide) ?_
                refine ab_iload_n C 2 dX8_lesson_177 rfl rfl ?_
                refine ab_iadd C dX8_lesson_178 ?_
                refine ab_callS C (k := 0) (n := 0) (rest := [.ref (G.1 + 106)]) [.int ((x1 + (1 : Int32)) - (x1 + (1 : Int32)) / (hp_i h 106 0) * (hp_i h 106 0)), .int ((5 : Int32) + v_1)] cl_X8_56 (mt_X8_at  hw_59 f) ⟨rfl, rfl, Nat.le_of_ble_eq_true rfl, Nat.le_of_ble_eq_true rfl, Nat.zero_le _, Nat.zero_le _⟩ rfl rfl (Nat.le_of_ble_eq_true rfl) dX8_lesson_179 (ab_kp (k := 0) (n := 0) (fun v_60 f => ?_))
                refine ab_iload C 0 dX8_lesson_182 rfl ?_
                obtain ⟨c_61, f⟩ := f
                refine ab_iast C (by rw [kd_106]; decide) (wf_lt hw_59 kd_106 rfl) (wf_len hw_59 kd_106 rfl rfl (by decide)) c_61 (j := v_60.toNatClampNeg) rfl dX8_lesson_184 (fun h_62 e_63 => ?_)
                have f := f h_62 e_63
                have hw_64 := wf_si e_63 hw_59
                exact ab_vret C dX8_lesson_185 ⟨hw_64, rfl, f⟩
/-! X8_where -/
def rm_X8_where : Room := { frames := 2, cells := 0, slots := 0, locals := 100 }
def wp_X8_where (x0 : Int32) (x1 : Int32) (h : hp_T) (Q : Int32 → Prop) : Prop :=
  (Q (((137 : Int32) + ((4 : Int32) * x0)) + x1))
set_option maxRecDepth 100000 in
set_option maxHeartbeats 4000000 in
theorem mt_X8_where {l : Launch} {G : ab_G} {x0 : Int32} {x1 : Int32} {h : hp_T} {Q : Int32 → Prop} (hw : wf h) (f : wp_X8_where x0 x1 h Q) : ab_M l G yX8_where cX8_where 2 (some .int) rm_X8_where 0 0 [.int x0, .int x1] h (po_p h Q) := by
  refine ab_intro (own := RX8) (nm := "where") rfl rfl rfl (Nat.le_of_ble_eq_true rfl) (fun F C => ?_)
  show ab_W l G F 2 (ab_MQ G F (po_p h Q) 0 0) 0 0 h [(0, .int x0), (1, .int x1)] [] 0
  unfold wp_X8_where at f
  refine ab_sipush C (v := (137 : Int32)) dX8_where_0 (by decide) ?_
  refine ab_iconst C (v := (4 : Int32)) dX8_where_3 (by decide) ?_
  refine ab_iload_n C 0 dX8_where_4 rfl rfl ?_
  refine ab_imul C dX8_where_5 ?_
  refine ab_iadd C dX8_where_6 ?_
  refine ab_iload_n C 1 dX8_where_7 rfl rfl ?_
  refine ab_iadd C dX8_where_8 ?_
  exact ab_iret C dX8_where_9 ⟨rfl, _, rfl, f⟩
/-! X8_ofTask -/
def rm_X8_ofTask : Room := { frames := 3, cells := 0, slots := 0, locals := 121 }
def wp_X8_ofTask (x1 : Int32) (x2 : Int32) (h : hp_T) (Q : Int32 → Prop) : Prop :=
  wp_X8_where x1 x2 h (fun v_1 => (vp_in v_1 357) ∧ (Q (hp_i h 106 v_1.toNatClampNeg)))
set_option maxRecDepth 100000 in
set_option maxHeartbeats 4000000 in
theorem mt_X8_ofTask {l : Launch} {G : ab_G} {x1 : Int32} {x2 : Int32} {h : hp_T} {Q : Int32 → Prop} (hw : wf h) (f : wp_X8_ofTask x1 x2 h Q) : ab_M l G yX8_ofTask cX8_ofTask 3 (some .int) rm_X8_ofTask 0 0 [.ref (G.1 + 105), .int x1, .int x2] h (po_p h Q) := by
  refine ab_intro (own := RX8) (nm := "ofTask") rfl rfl rfl (Nat.le_of_ble_eq_true rfl) (fun F C => ?_)
  show ab_W l G F 3 (ab_MQ G F (po_p h Q) 0 0) 0 0 h [(0, .ref (G.1 + 105)), (1, .int x1), (2, .int x2)] [] 0
  unfold wp_X8_ofTask at f
  refine ab_aload_n C 0 dX8_ofTask_0 rfl rfl ?_
  refine ab_getR C (q := 106) fl_X8_7 rfl kd_105 (wf_lt hw kd_105 rfl) (wr_8_0 hw) dX8_ofTask_1 ?_
  refine ab_iload_n C 1 dX8_ofTask_4 rfl rfl ?_
  refine ab_iload_n C 2 dX8_ofTask_5 rfl rfl ?_
  refine ab_callS C (k := 0) (n := 0) (rest := [.ref (G.1 + 106)]) [.int x1, .int x2] cl_X8_131 (mt_X8_where  hw f) ⟨rfl, rfl, Nat.le_of_ble_eq_true rfl, Nat.le_of_ble_eq_true rfl, Nat.zero_le _, Nat.zero_le _⟩ rfl rfl (Nat.le_of_ble_eq_true rfl) dX8_ofTask_6 (ab_kp (k := 0) (n := 0) (fun v_1 f => ?_))
  obtain ⟨c_2, f⟩ := f
  refine ab_iald C (by rw [kd_106]; decide) (wf_lt hw kd_106 rfl) (wf_len hw kd_106 rfl rfl (by decide)) c_2 (j := v_1.toNatClampNeg) rfl dX8_ofTask_9 ?_
  exact ab_iret C dX8_ofTask_10 ⟨rfl, _, rfl, f⟩
/-! X8_isStaying -/
def rm_X8_isStaying : Room := { frames := 4, cells := 0, slots := 0, locals := 143 }
def wp_X8_isStaying (x1 : Int32) (h : hp_T) (Q : Int32 → Prop) : Prop :=
  wp_X8_its x1 (0 : Int32) h (fun v_1 => ((v_1 = (5 : Int32) → wp_X8_its x1 (1 : Int32) h (fun v_3 => (¬ (v_3 + (2 : Int32)) = 0) ∧ ((((hp_i h 106 3) - (hp_i h 106 3) / (v_3 + (2 : Int32)) * (v_3 + (2 : Int32))) = 0 → (Q (1 : Int32))) ∧ (¬ (((hp_i h 106 3) - (hp_i h 106 3) / (v_3 + (2 : Int32)) * (v_3 + (2 : Int32))) = 0) → (Q (0 : Int32)))))) ∧ (¬ (v_1 = (5 : Int32)) → (Q (0 : Int32)))))
set_option maxRecDepth 100000 in
set_option maxHeartbeats 4000000 in
theorem mt_X8_isStaying {l : Launch} {G : ab_G} {x1 : Int32} {h : hp_T} {Q : Int32 → Prop} (hw : wf h) (f : wp_X8_isStaying x1 h Q) : ab_M l G yX8_isStaying cX8_isStaying 2 (some .boolean) rm_X8_isStaying 0 0 [.ref (G.1 + 105), .int x1] h (po_p h Q) := by
  refine ab_intro (own := RX8) (nm := "isStaying") rfl rfl rfl (Nat.le_of_ble_eq_true rfl) (fun F C => ?_)
  show ab_W l G F 2 (ab_MQ G F (po_p h Q) 0 0) 0 0 h [(0, .ref (G.1 + 105)), (1, .int x1)] [] 0
  unfold wp_X8_isStaying at f
  refine ab_aload_n C 0 dX8_isStaying_0 rfl rfl ?_
  refine ab_iload_n C 1 dX8_isStaying_1 rfl rfl ?_
  refine ab_iconst C (v := (0 : Int32)) dX8_isStaying_2 (by decide) ?_
  refine ab_callV C (k := 0) (n := 0) (rest := []) [.int x1, .int (0 : Int32)] cl_X8_60 (mt_X8_its  hw f) rfl (by decide) kd_105 (wf_lt hw kd_105 rfl) ⟨rfl, rfl, Nat.le_of_ble_eq_true rfl, Nat.le_of_ble_eq_true rfl, Nat.zero_le _, Nat.zero_le _⟩ rfl rfl (Nat.le_of_ble_eq_true rfl) dX8_isStaying_3 (ab_kp (k := 0) (n := 0) (fun v_1 f => ?_))
  refine ab_iconst C (v := (5 : Int32)) dX8_isStaying_6 (by decide) ?_
  refine ab_icmp_ne C (tgt := 32) dX8_isStaying_7 (by decide) (fun c_2 => ?_) (fun c_2 => ?_)
  · have f := f.2 c_2
    refine ab_iconst C (v := (0 : Int32)) dX8_isStaying_32 (by decide) ?_
    exact ab_zret C dX8_isStaying_33 rfl ⟨rfl, _, rfl, f⟩
  · have f := f.1 c_2
    refine ab_aload_n C 0 dX8_isStaying_10 rfl rfl ?_
    refine ab_getR C (q := 106) fl_X8_7 rfl kd_105 (wf_lt hw kd_105 rfl) (wr_8_0 hw) dX8_isStaying_11 ?_
    refine ab_iconst C (v := (3 : Int32)) dX8_isStaying_14 (by decide) ?_
    refine ab_iald C (by rw [kd_106]; decide) (wf_lt hw kd_106 rfl) (wf_len hw kd_106 rfl rfl (by decide)) (vp_lit (by decide)) (j := 3) (by decide) dX8_isStaying_15 ?_
    refine ab_aload_n C 0 dX8_isStaying_16 rfl rfl ?_
    refine ab_iload_n C 1 dX8_isStaying_17 rfl rfl ?_
    refine ab_iconst C (v := (1 : Int32)) dX8_isStaying_18 (by decide) ?_
    refine ab_callV C (k := 0) (n := 0) (rest := [.int (hp_i h 106 3)]) [.int x1, .int (1 : Int32)] cl_X8_60 (mt_X8_its  hw f) rfl (by decide) kd_105 (wf_lt hw kd_105 rfl) ⟨rfl, rfl, Nat.le_of_ble_eq_true rfl, Nat.le_of_ble_eq_true rfl, Nat.zero_le _, Nat.zero_le _⟩ rfl rfl (Nat.le_of_ble_eq_true rfl) dX8_isStaying_19 (ab_kp (k := 0) (n := 0) (fun v_3 f => ?_))
    refine ab_iconst C (v := (2 : Int32)) dX8_isStaying_22 (by decide) ?_
    refine ab_iadd C dX8_isStaying_23 ?_
    obtain ⟨c_4, f⟩ := f
    refine ab_irem C dX8_isStaying_24 c_4 ?_
    refine ab_if_ne C (tgt := 32) dX8_isStaying_25 (by decide) (fun c_5 => ?_) (fun c_5 => ?_)
    · have f := f.2 c_5
      refine ab_iconst C (v := (0 : Int32)) dX8_isStaying_32 (by decide) ?_
      exact ab_zret C dX8_isStaying_33 rfl ⟨rfl, _, rfl, f⟩
    · have f := f.1 c_5
      refine ab_iconst C (v := (1 : Int32)) dX8_isStaying_28 (by decide) ?_
      refine ab_goto C (tgt := 33) dX8_isStaying_29 (by decide) ?_
      exact ab_zret C dX8_isStaying_33 rfl ⟨rfl, _, rfl, f⟩
/-! X8_relieves -/
def rm_X8_relieves : Room := { frames := 5, cells := 0, slots := 0, locals := 164 }
def wp_X8_relieves (h : hp_T) (Q : hp_T → Prop) : Prop :=
  (((hp_i h 106 0) ≤ 0 → (Q h)) ∧ (¬ ((hp_i h 106 0) ≤ 0) → (((hp_i h 106 1) ≤ 0 → (Q h)) ∧ (¬ ((hp_i h 106 1) ≤ 0) → (¬ (hp_i h 106 0) = 0) ∧ wp_X8_isStaying ((hp_i h 106 3) - (hp_i h 106 3) / (hp_i h 106 0) * (hp_i h 106 0)) h (fun v_4 => ((v_4 = 0 → (vp_in ((113 : Int32) + ((2 : Int32) * (hp_i h 106 2))) 357) ∧ (vp_in (((113 : Int32) + ((2 : Int32) * (hp_i h 106 2))) + (1 : Int32)) 357) ∧ wp_X8_comes ((hp_i h 106 3) - (hp_i h 106 3) / (hp_i h 106 0) * (hp_i h 106 0)) (hp_i h 106 (((113 : Int32) + ((2 : Int32) * (hp_i h 106 2))).toNatClampNeg)) (hp_i h 106 ((((113 : Int32) + ((2 : Int32) * (hp_i h 106 2))) + (1 : Int32)).toNatClampNeg)) (hp_i h 106 4) (hp_i h 106 3) h (fun h_8 => (¬ (hp_i h_8 106 1) = 0) ∧ (∀ h_11, h_11 = hp_si h_8 106 2 (((hp_i h_8 106 2) + (1 : Int32)) - ((hp_i h_8 106 2) + (1 : Int32)) / (hp_i h_8 106 1) * (hp_i h_8 106 1)) → (∀ h_14, h_14 = hp_si h_11 105 12 ((hp_i h_11 105 12) + (1 : Int32)) → (Q h_14))))) ∧ (¬ (v_4 = 0) → (Q h))))))))
set_option maxRecDepth 100000 in
set_option maxHeartbeats 4000000 in
theorem mt_X8_relieves {l : Launch} {G : ab_G}  {h : hp_T} {Q : hp_T → Prop} (hw : wf h) (f : wp_X8_relieves h Q) : ab_M l G yX8_relieves cX8_relieves 2 none rm_X8_relieves 0 0 [.ref (G.1 + 105)] h (po_v Q) := by
  refine ab_intro (own := RX8) (nm := "relieves") rfl rfl rfl (Nat.le_of_ble_eq_true rfl) (fun F C => ?_)
  show ab_W l G F 2 (ab_MQ G F (po_v Q) 0 0) 0 0 h [(0, .ref (G.1 + 105))] [] 0
  unfold wp_X8_relieves at f
  refine ab_aload_n C 0 dX8_relieves_0 rfl rfl ?_
  refine ab_getR C (q := 106) fl_X8_7 rfl kd_105 (wf_lt hw kd_105 rfl) (wr_8_0 hw) dX8_relieves_1 ?_
  refine ab_iconst C (v := (0 : Int32)) dX8_relieves_4 (by decide) ?_
  refine ab_iald C (by rw [kd_106]; decide) (wf_lt hw kd_106 rfl) (wf_len hw kd_106 rfl rfl (by decide)) (vp_lit (by decide)) (j := 0) (by decide) dX8_relieves_5 ?_
  refine ab_if_le C (tgt := 122) dX8_relieves_6 (by decide) (fun c_1 => ?_) (fun c_1 => ?_)
  · have f := f.1 c_1
    exact ab_vret C dX8_relieves_122 ⟨hw, rfl, f⟩
  · have f := f.2 c_1
    refine ab_aload_n C 0 dX8_relieves_9 rfl rfl ?_
    refine ab_getR C (q := 106) fl_X8_7 rfl kd_105 (wf_lt hw kd_105 rfl) (wr_8_0 hw) dX8_relieves_10 ?_
    refine ab_iconst C (v := (1 : Int32)) dX8_relieves_13 (by decide) ?_
    refine ab_iald C (by rw [kd_106]; decide) (wf_lt hw kd_106 rfl) (wf_len hw kd_106 rfl rfl (by decide)) (vp_lit (by decide)) (j := 1) (by decide) dX8_relieves_14 ?_
    refine ab_if_le C (tgt := 122) dX8_relieves_15 (by decide) (fun c_2 => ?_) (fun c_2 => ?_)
    · have f := f.1 c_2
      exact ab_vret C dX8_relieves_122 ⟨hw, rfl, f⟩
    · have f := f.2 c_2
      refine ab_aload_n C 0 dX8_relieves_18 rfl rfl ?_
      refine ab_getR C (q := 106) fl_X8_7 rfl kd_105 (wf_lt hw kd_105 rfl) (wr_8_0 hw) dX8_relieves_19 ?_
      refine ab_iconst C (v := (3 : Int32)) dX8_relieves_22 (by decide) ?_
      refine ab_iald C (by rw [kd_106]; decide) (wf_lt hw kd_106 rfl) (wf_len hw kd_106 rfl rfl (by decide)) (vp_lit (by decide)) (j := 3) (by decide) dX8_relieves_23 ?_
      refine ab_aload_n C 0 dX8_relieves_24 rfl rfl ?_
      refine ab_getR C (q := 106) fl_X8_7 rfl kd_105 (wf_lt hw kd_105 rfl) (wr_8_0 hw) dX8_relieves_25 ?_
      refine ab_iconst C (v := (0 : Int32)) dX8_relieves_28 (by decide) ?_
      refine ab_iald C (by rw [kd_106]; decide) (wf_lt hw kd_106 rfl) (wf_len hw kd_106 rfl rfl (by decide)) (vp_lit (by decide)) (j := 0) (by decide) dX8_relieves_29 ?_
      obtain ⟨c_3, f⟩ := f
      refine ab_irem C dX8_relieves_30 c_3 ?_
      refine ab_istore_n C (lv' := [(1, .int ((hp_i h 106 3) - (hp_i h 106 3) / (hp_i h 106 0) * (hp_i h 106 0))), (0, .ref (G.1 + 105))]) dX8_relieves_31 rfl (by decide) rfl ?_
      refine ab_aload_n C 1 dX8_relieves_32 rfl rfl ?_
      refine ab_iload_n C 0 dX8_relieves_33 rfl rfl ?_
      refine ab_callV C (k := 0) (n := 0) (rest := []) [.int ((hp_i h 106 3) - (hp_i h 106 3) / (hp_i h 106 0) * (hp_i h 106 0))] cl_X8_212 (mt_X8_isStaying  hw f) rfl (by decide) kd_105 (wf_lt hw kd_105 rfl) ⟨rfl, rfl, Nat.le_of_ble_eq_true rfl, Nat.le_of_ble_eq_true rfl, Nat.zero_le _, Nat.zero_le _⟩ rfl rfl (Nat.le_of_ble_eq_true rfl) dX8_relieves_34 (ab_kp (k := 0) (n := 0) (fun v_4 f => ?_))
      refine ab_if_ne C (tgt := 122) dX8_relieves_37 (by decide) (fun c_5 => ?_) (fun c_5 => ?_)
      · have f := f.2 c_5
        exact ab_vret C dX8_relieves_122 ⟨hw, rfl, f⟩
      · have f := f.1 c_5
        refine ab_aload_n C 1 dX8_relieves_40 rfl rfl ?_
        refine ab_iload_n C 0 dX8_relieves_41 rfl rfl ?_
        refine ab_aload_n C 1 dX8_relieves_42 rfl rfl ?_
        refine ab_getR C (q := 106) fl_X8_7 rfl kd_105 (wf_lt hw kd_105 rfl) (wr_8_0 hw) dX8_relieves_43 ?_
        refine ab_bipush C (v := (113 : Int32)) dX8_relieves_46 (by decide) ?_
        refine ab_iconst C (v := (2 : Int32)) dX8_relieves_48 (by decide) ?_
        refine ab_aload_n C 1 dX8_relieves_49 rfl rfl ?_
        refine ab_getR C (q := 106) fl_X8_7 rfl kd_105 (wf_lt hw kd_105 rfl) (wr_8_0 hw) dX8_relieves_50 ?_
        refine ab_iconst C (v := (2 : Int32)) dX8_relieves_53 (by decide) ?_
        refine ab_iald C (by rw [kd_106]; decide) (wf_lt hw kd_106 rfl) (wf_len hw kd_106 rfl rfl (by decide)) (vp_lit (by decide)) (j := 2) (by decide) dX8_relieves_54 ?_
        refine ab_imul C dX8_relieves_55 ?_
        refine ab_iadd C dX8_relieves_56 ?_
        obtain ⟨c_6, f⟩ := f
        refine ab_iald C (by rw [kd_106]; decide) (wf_lt hw kd_106 rfl) (wf_len hw kd_106 rfl rfl (by decide)) c_6 (j := ((113 : Int32) + ((2 : Int32) * (hp_i h 106 2))).toNatClampNeg) rfl dX8_relieves_57 ?_
        refine ab_aload_n C 1 dX8_relieves_58 rfl rfl ?_
        refine ab_getR C (q := 106) fl_X8_7 rfl kd_105 (wf_lt hw kd_105 rfl) (wr_8_0 hw) dX8_relieves_59 ?_
        refine ab_bipush C (v := (113 : Int32)) dX8_relieves_62 (by decide) ?_
        refine ab_iconst C (v := (2 : Int32)) dX8_relieves_64 (by decide) ?_
        refine ab_aload_n C 1 dX8_relieves_65 rfl rfl ?_
        refine ab_getR C (q := 106) fl_X8_7 rfl kd_105 (wf_lt hw kd_105 rfl) (wr_8_0 hw) dX8_relieves_66 ?_
        refine ab_iconst C (v := (2 : Int32)) dX8_relieves_69 (by decide) ?_
        refine ab_iald C (by rw [kd_106]; decide) (wf_lt hw kd_106 rfl) (wf_len hw kd_106 rfl rfl (by decide)) (vp_lit (by decide)) (j := 2) (by decide) dX8_relieves_70 ?_
        refine ab_imul C dX8_relieves_71 ?_
        refine ab_iadd C dX8_relieves_72 ?_
        refine ab_iconst C (v := (1 : Int32)) dX8_relieves_73 (by decide) ?_
        refine ab_iadd C dX8_relieves_74 ?_
        obtain ⟨c_7, f⟩ := f
        refine ab_iald C (by rw [kd_106]; decide) (wf_lt hw kd_106 rfl) (wf_len hw kd_106 rfl rfl (by decide)) c_7 (j := (((113 : Int32) + ((2 : Int32) * (hp_i h 106 2))) + (1 : Int32)).toNatClampNeg) rfl dX8_relieves_75 ?_
        refine ab_aload_n C 1 dX8_relieves_76 rfl rfl ?_
        refine ab_getR C (q := 106) fl_X8_7 rfl kd_105 (wf_lt hw kd_105 rfl) (wr_8_0 hw) dX8_relieves_77 ?_
        refine ab_iconst C (v := (4 : Int32)) dX8_relieves_80 (by decide) ?_
        refine ab_iald C (by rw [kd_106]; decide) (wf_lt hw kd_106 rfl) (wf_len hw kd_106 rfl rfl (by decide)) (vp_lit (by decide)) (j := 4) (by decide) dX8_relieves_81 ?_
        refine ab_aload_n C 1 dX8_relieves_82 rfl rfl ?_
        refine ab_getR C (q := 106) fl_X8_7 rfl kd_105 (wf_lt hw kd_105 rfl) (wr_8_0 hw) dX8_relieves_83 ?_
        refine ab_iconst C (v := (3 : Int32)) dX8_relieves_86 (by decide) ?_
        refine ab_iald C (by rw [kd_106]; decide) (wf_lt hw kd_106 rfl) (wf_len hw kd_106 rfl rfl (by decide)) (vp_lit (by decide)) (j := 3) (by decide) dX8_relieves_87 ?_
        refine ab_callV C (k := 0) (n := 0) (rest := []) [.int ((hp_i h 106 3) - (hp_i h 106 3) / (hp_i h 106 0) * (hp_i h 106 0)), .int (hp_i h 106 (((113 : Int32) + ((2 : Int32) * (hp_i h 106 2))).toNatClampNeg)), .int (hp_i h 106 ((((113 : Int32) + ((2 : Int32) * (hp_i h 106 2))) + (1 : Int32)).toNatClampNeg)), .int (hp_i h 106 4), .int (hp_i h 106 3)] cl_X8_88 (mt_X8_comes  hw f) rfl (by decide) kd_105 (wf_lt hw kd_105 rfl) ⟨rfl, rfl, Nat.le_of_ble_eq_true rfl, Nat.le_of_ble_eq_true rfl, Nat.zero_le _, Nat.zero_le _⟩ rfl rfl (Nat.le_of_ble_eq_true rfl) dX8_relieves_88 (ab_kv (k := 0) (n := 0) (fun h_8 hw_9 f => ?_))
        refine ab_aload_n C 1 dX8_relieves_91 rfl rfl ?_
        refine ab_getR C (q := 106) fl_X8_7 rfl kd_105 (wf_lt hw_9 kd_105 rfl) (wr_8_0 hw_9) dX8_relieves_92 ?_
        refine ab_iconst C (v := (2 : Int32)) dX8_relieves_95 (by decide) ?_
        refine ab_aload_n C 1 dX8_relieves_96 rfl rfl ?_
        refine ab_getR C (q := 106) fl_X8_7 rfl kd_105 (wf_lt hw_9 kd_105 rfl) (wr_8_0 hw_9) dX8_relieves_97 ?_
        refine ab_iconst C (v := (2 : Int32)) dX8_relieves_100 (by decide) ?_
        refine ab_iald C (by rw [kd_106]; decide) (wf_lt hw_9 kd_106 rfl) (wf_len hw_9 kd_106 rfl rfl (by decide)) (vp_lit (by decide)) (j := 2) (by decide) dX8_relieves_101 ?_
        refine ab_iconst C (v := (1 : Int32)) dX8_relieves_102 (by decide) ?_
        refine ab_iadd C dX8_relieves_103 ?_
        refine ab_aload_n C 1 dX8_relieves_104 rfl rfl ?_
        refine ab_getR C (q := 106) fl_X8_7 rfl kd_105 (wf_lt hw_9 kd_105 rfl) (wr_8_0 hw_9) dX8_relieves_105 ?_
        refine ab_iconst C (v := (1 : Int32)) dX8_relieves_108 (by decide) ?_
        refine ab_iald C (by rw [kd_106]; decide) (wf_lt hw_9 kd_106 rfl) (wf_len hw_9 kd_106 rfl rfl (by decide)) (vp_lit (by decide)) (j := 1) (by decide) dX8_relieves_109 ?_
        obtain ⟨c_10, f⟩ := f
        refine ab_irem C dX8_relieves_110 c_10 ?_
        refine ab_iast C (by rw [kd_106]; decide) (wf_lt hw_9 kd_106 rfl) (wf_len hw_9 kd_106 rfl rfl (by decide)) (vp_lit (by decide)) (j := 2) (by decide) dX8_relieves_111 (fun h_11 e_12 => ?_)
        have f := f h_11 e_12
        have hw_13 := wf_si e_12 hw_9
        refine ab_aload_n C 1 dX8_relieves_112 rfl rfl ?_
        refine ab_dup C dX8_relieves_113 rfl ?_
        refine ab_getI C fl_X8_215 rfl kd_105 (wf_lt hw_13 kd_105 rfl) dX8_relieves_114 ?_
        refine ab_iconst C (v := (1 : Int32)) dX8_relieves_117 (by decide) ?_
        refine ab_iadd C dX8_relieves_118 ?_
        refine ab_putI C fl_X8_215 rfl kd_105 (wf_lt hw_13 kd_105 rfl) rfl rfl dX8_relieves_119 (fun h_14 e_15 => ?_)
        have f := f h_14 e_15
        have hw_16 := wf_si e_15 hw_13
        exact ab_vret C dX8_relieves_122 ⟨hw_16, rfl, f⟩
/-! X8_day -/
def rm_X8_day : Room := { frames := 6, cells := 0, slots := 0, locals := 199 }
def wp_X8_day_L40 (x1 : Int32) (Q : hp_T → Prop) : Nat → Int32 → hp_T → Prop
  | 0 => fun _ _ => False
  | nn + 1 => fun y2 h => (((4 : Int32) ≤ y2 → (∀ h_5, h_5 = hp_si h 106 3 ((hp_i h 106 3) + (1 : Int32)) → (Q h_5))) ∧ (¬ ((4 : Int32) ≤ y2) → wp_X8_ofTask y2 (0 : Int32) h (fun v_8 => wp_X8_knowers v_8 h (fun v_9 => wp_X8_ofTask y2 (1 : Int32) h (fun v_10 => ((v_9 < v_10 → wp_X8_where y2 (3 : Int32) h (fun v_12 => wp_X8_ofTask y2 (3 : Int32) h (fun v_13 => wp_X8_ofTask y2 (1 : Int32) h (fun v_14 => ((v_14 ≤ 0 → wp_X8_held (v_13 + (0 : Int32)) (0 : Int32) (999999 : Int32) h (fun v_16 => (vp_in v_12 357) ∧ (∀ h_18, h_18 = hp_si h 106 v_12.toNatClampNeg v_16 → (wp_X8_day_L40 x1 Q nn) (y2 + (1 : Int32)) h_18))) ∧ (¬ (v_14 ≤ 0) → wp_X8_held (v_13 + (1 : Int32)) (0 : Int32) (999999 : Int32) h (fun v_21 => (vp_in v_12 357) ∧ (∀ h_23, h_23 = hp_si h 106 v_12.toNatClampNeg v_21 → (wp_X8_day_L40 x1 Q nn) (y2 + (1 : Int32)) h_23)))))))) ∧ (¬ (v_9 < v_10) → wp_X8_where y2 (2 : Int32) h (fun v_26 => wp_X8_ofTask y2 (2 : Int32) h (fun v_27 => wp_X8_ofTask y2 (1 : Int32) h (fun v_28 => ((v_28 ≤ 0 → wp_X8_held (v_27 + (0 : Int32)) (0 : Int32) (999999 : Int32) h (fun v_30 => (vp_in v_26 357) ∧ (∀ h_32, h_32 = hp_si h 106 v_26.toNatClampNeg v_30 → (wp_X8_day_L40 x1 Q nn) (y2 + (1 : Int32)) h_32))) ∧ (¬ (v_28 ≤ 0) → wp_X8_held (v_27 + (1 : Int32)) (0 : Int32) (999999 : Int32) h (fun v_35 => (vp_in v_26 357) ∧ (∀ h_37, h_37 = hp_si h 106 v_26.toNatClampNeg v_35 → (wp_X8_day_L40 x1 Q nn) (y2 + (1 : Int32)) h_37))))))))))))))
set_option maxRecDepth 100000 in
set_option maxHeartbeats 4000000 in
theorem bt_X8_day_L40 {l : Launch} {G : ab_G} {F : ab_F} {x1 : Int32} {Q : hp_T → Prop}  (C : ab_C G F rm_X8_day cX8_day 4 RX8 none "day")   : ∀ (nn : Nat) (y2 : Int32) (h : hp_T), wf h → wp_X8_day_L40 x1 Q nn y2 h → ab_W l G F 4 (ab_MQ G F (po_v Q) 0 0) 0 0 h [(0, .ref (G.1 + 105)), (2, .int y2)] [] 40 := by
  intro nn
  induction nn with
  | zero =>
    intro y2 h hw f
    exact absurd f id
  | succ nn ih =>
    intro y2 h hw f
    unfold wp_X8_day_L40 at f
    refine ab_iload_n C 1 dX8_day_40 rfl rfl ?_
    refine ab_iconst C (v := (4 : Int32)) dX8_day_41 (by decide) ?_
    refine ab_icmp_ge C (tgt := 113) dX8_day_42 (by decide) (fun c_4 => ?_) (fun c_4 => ?_)
    · have f := f.1 c_4
      refine ab_aload_n C 0 dX8_day_113 rfl rfl ?_
      refine ab_getR C (q := 106) fl_X8_7 rfl kd_105 (wf_lt hw kd_105 rfl) (wr_8_0 hw) dX8_day_114 ?_
      refine ab_iconst C (v := (3 : Int32)) dX8_day_117 (by decide) ?_
      refine ab_dup2 C dX8_day_118 rfl rfl ?_
      refine ab_iald C (by rw [kd_106]; decide) (wf_lt hw kd_106 rfl) (wf_len hw kd_106 rfl rfl (by decide)) (vp_lit (by decide)) (j := 3) (by decide) dX8_day_119 ?_
      refine ab_iconst C (v := (1 : Int32)) dX8_day_120 (by decide) ?_
      refine ab_iadd C dX8_day_121 ?_
      refine ab_iast C (by rw [kd_106]; decide) (wf_lt hw kd_106 rfl) (wf_len hw kd_106 rfl rfl (by decide)) (vp_lit (by decide)) (j := 3) (by decide) dX8_day_122 (fun h_5 e_6 => ?_)
      have f := f h_5 e_6
      have hw_7 := wf_si e_6 hw
      exact ab_vret C dX8_day_123 ⟨hw_7, rfl, f⟩
    · have f := f.2 c_4
      refine ab_aload_n C 0 dX8_day_45 rfl rfl ?_
      refine ab_aload_n C 0 dX8_day_46 rfl rfl ?_
      refine ab_iload_n C 1 dX8_day_47 rfl rfl ?_
      refine ab_iconst C (v := (0 : Int32)) dX8_day_48 (by decide) ?_
      refine ab_callV C (k := 0) (n := 0) (rest := [.ref (G.1 + 105)]) [.int y2, .int (0 : Int32)] cl_X8_136 (mt_X8_ofTask  hw f) rfl (by decide) kd_105 (wf_lt hw kd_105 rfl) ⟨rfl, rfl, Nat.le_of_ble_eq_true rfl, Nat.le_of_ble_eq_true rfl, Nat.zero_le _, Nat.zero_le _⟩ rfl rfl (Nat.le_of_ble_eq_true rfl) dX8_day_49 (ab_kp (k := 0) (n := 0) (fun v_8 f => ?_))
      refine ab_callV C (k := 0) (n := 0) (rest := []) [.int v_8] cl_X8_139 (mt_X8_knowers  hw f) rfl (by decide) kd_105 (wf_lt hw kd_105 rfl) ⟨rfl, rfl, Nat.le_of_ble_eq_true rfl, Nat.le_of_ble_eq_true rfl, Nat.zero_le _, Nat.zero_le _⟩ rfl rfl (Nat.le_of_ble_eq_true rfl) dX8_day_52 (ab_kp (k := 0) (n := 0) (fun v_9 f => ?_))
      refine ab_aload_n C 0 dX8_day_55 rfl rfl ?_
      refine ab_iload_n C 1 dX8_day_56 rfl rfl ?_
      refine ab_iconst C (v := (1 : Int32)) dX8_day_57 (by decide) ?_
      refine ab_callV C (k := 0) (n := 0) (rest := [.int v_9]) [.int y2, .int (1 : Int32)] cl_X8_136 (mt_X8_ofTask  hw f) rfl (by decide) kd_105 (wf_lt hw kd_105 rfl) ⟨rfl, rfl, Nat.le_of_ble_eq_true rfl, Nat.le_of_ble_eq_true rfl, Nat.zero_le _, Nat.zero_le _⟩ rfl rfl (Nat.le_of_ble_eq_true rfl) dX8_day_58 (ab_kp (k := 0) (n := 0) (fun v_10 f => ?_))
      refine ab_icmp_lt C (tgt := 68) dX8_day_61 (by decide) (fun c_11 => ?_) (fun c_11 => ?_)
      · have f := f.1 c_11
        refine ab_iconst C (v := (3 : Int32)) dX8_day_68 (by decide) ?_
        refine ab_istore_n C (lv' := [(3, .int (3 : Int32)), (0, .ref (G.1 + 105)), (2, .int y2)]) dX8_day_69 rfl (by decide) rfl ?_
        refine ab_aload_n C 1 dX8_day_70 rfl rfl ?_
        refine ab_getR C (q := 106) fl_X8_7 rfl kd_105 (wf_lt hw kd_105 rfl) (wr_8_0 hw) dX8_day_71 ?_
        refine ab_iload_n C 2 dX8_day_74 rfl rfl ?_
        refine ab_iload_n C 0 dX8_day_75 rfl rfl ?_
        refine ab_callS C (k := 0) (n := 0) (rest := [.ref (G.1 + 106)]) [.int y2, .int (3 : Int32)] cl_X8_131 (mt_X8_where  hw f) ⟨rfl, rfl, Nat.le_of_ble_eq_true rfl, Nat.le_of_ble_eq_true rfl, Nat.zero_le _, Nat.zero_le _⟩ rfl rfl (Nat.le_of_ble_eq_true rfl) dX8_day_76 (ab_kp (k := 0) (n := 0) (fun v_12 f => ?_))
        refine ab_aload_n C 1 dX8_day_79 rfl rfl ?_
        refine ab_iload_n C 2 dX8_day_80 rfl rfl ?_
        refine ab_iload_n C 0 dX8_day_81 rfl rfl ?_
        refine ab_callV C (k := 0) (n := 0) (rest := [.int v_12, .ref (G.1 + 106)]) [.int y2, .int (3 : Int32)] cl_X8_136 (mt_X8_ofTask  hw f) rfl (by decide) kd_105 (wf_lt hw kd_105 rfl) ⟨rfl, rfl, Nat.le_of_ble_eq_true rfl, Nat.le_of_ble_eq_true rfl, Nat.zero_le _, Nat.zero_le _⟩ rfl rfl (Nat.le_of_ble_eq_true rfl) dX8_day_82 (ab_kp (k := 0) (n := 0) (fun v_13 f => ?_))
        refine ab_aload_n C 1 dX8_day_85 rfl rfl ?_
        refine ab_iload_n C 2 dX8_day_86 rfl rfl ?_
        refine ab_iconst C (v := (1 : Int32)) dX8_day_87 (by decide) ?_
        refine ab_callV C (k := 0) (n := 0) (rest := [.int v_13, .int v_12, .ref (G.1 + 106)]) [.int y2, .int (1 : Int32)] cl_X8_136 (mt_X8_ofTask  hw f) rfl (by decide) kd_105 (wf_lt hw kd_105 rfl) ⟨rfl, rfl, Nat.le_of_ble_eq_true rfl, Nat.le_of_ble_eq_true rfl, Nat.zero_le _, Nat.zero_le _⟩ rfl rfl (Nat.le_of_ble_eq_true rfl) dX8_day_88 (ab_kp (k := 0) (n := 0) (fun v_14 f => ?_))
        refine ab_if_le C (tgt := 98) dX8_day_91 (by decide) (fun c_15 => ?_) (fun c_15 => ?_)
        · have f := f.1 c_15
          refine ab_iconst C (v := (0 : Int32)) dX8_day_98 (by decide) ?_
          refine ab_iadd C dX8_day_99 ?_
          refine ab_iconst C (v := (0 : Int32)) dX8_day_100 (by decide) ?_
          refine ab_ldc C kw_t1055 dX8_day_101 ?_
          refine ab_callS C (k := 0) (n := 0) (rest := [.int v_12, .ref (G.1 + 106)]) [.int (v_13 + (0 : Int32)), .int (0 : Int32), .int (999999 : Int32)] cl_X8_75 (mt_X8_held  hw f) ⟨rfl, rfl, Nat.le_of_ble_eq_true rfl, Nat.le_of_ble_eq_true rfl, Nat.zero_le _, Nat.zero_le _⟩ rfl rfl (Nat.le_of_ble_eq_true rfl) dX8_day_103 (ab_kp (k := 0) (n := 0) (fun v_16 f => ?_))
          obtain ⟨c_17, f⟩ := f
          refine ab_iast C (by rw [kd_106]; decide) (wf_lt hw kd_106 rfl) (wf_len hw kd_106 rfl rfl (by decide)) c_17 (j := v_12.toNatClampNeg) rfl dX8_day_106 (fun h_18 e_19 => ?_)
          have f := f h_18 e_19
          have hw_20 := wf_si e_19 hw
          refine ab_iinc C (lv' := [(2, .int (y2 + (1 : Int32))), (3, .int (3 : Int32)), (0, .ref (G.1 + 105))]) 2 (v := (y2 + (1 : Int32))) dX8_day_107 rfl rfl (by decide) rfl ?_
          refine ab_goto C (tgt := 40) dX8_day_110 (by decide) ?_
          refine ab_sub (lv' := [(0, .ref (G.1 + 105)), (2, .int (y2 + (1 : Int32)))]) [2, 0] rfl ?_
          exact ih (y2 + (1 : Int32)) h_18  hw_20 f
        · have f := f.2 c_15
          refine ab_iconst C (v := (1 : Int32)) dX8_day_94 (by decide) ?_
          refine ab_goto C (tgt := 99) dX8_day_95 (by decide) ?_
          refine ab_iadd C dX8_day_99 ?_
          refine ab_iconst C (v := (0 : Int32)) dX8_day_100 (by decide) ?_
          refine ab_ldc C kw_t1055 dX8_day_101 ?_
          refine ab_callS C (k := 0) (n := 0) (rest := [.int v_12, .ref (G.1 + 106)]) [.int (v_13 + (1 : Int32)), .int (0 : Int32), .int (999999 : Int32)] cl_X8_75 (mt_X8_held  hw f) ⟨rfl, rfl, Nat.le_of_ble_eq_true rfl, Nat.le_of_ble_eq_true rfl, Nat.zero_le _, Nat.zero_le _⟩ rfl rfl (Nat.le_of_ble_eq_true rfl) dX8_day_103 (ab_kp (k := 0) (n := 0) (fun v_21 f => ?_))
          obtain ⟨c_22, f⟩ := f
          refine ab_iast C (by rw [kd_106]; decide) (wf_lt hw kd_106 rfl) (wf_len hw kd_106 rfl rfl (by decide)) c_22 (j := v_12.toNatClampNeg) rfl dX8_day_106 (fun h_23 e_24 => ?_)
          have f := f h_23 e_24
          have hw_25 := wf_si e_24 hw
          refine ab_iinc C (lv' := [(2, .int (y2 + (1 : Int32))), (3, .int (3 : Int32)), (0, .ref (G.1 + 105))]) 2 (v := (y2 + (1 : Int32))) dX8_day_107 rfl rfl (by decide) rfl ?_
          refine ab_goto C (tgt := 40) dX8_day_110 (by decide) ?_
          refine ab_sub (lv' := [(0, .ref (G.1 + 105)), (2, .int (y2 + (1 : Int32)))]) [2, 0] rfl ?_
          exact ih (y2 + (1 : Int32)) h_23  hw_25 f
      · have f := f.2 c_11
        refine ab_iconst C (v := (2 : Int32)) dX8_day_64 (by decide) ?_
        refine ab_goto C (tgt := 69) dX8_day_65 (by decide) ?_
        refine ab_istore_n C (lv' := [(3, .int (2 : Int32)), (0, .ref (G.1 + 105)), (2, .int y2)]) dX8_day_69 rfl (by decide) rfl ?_
        refine ab_aload_n C 1 dX8_day_70 rfl rfl ?_
        refine ab_getR C (q := 106) fl_X8_7 rfl kd_105 (wf_lt hw kd_105 rfl) (wr_8_0 hw) dX8_day_71 ?_
        refine ab_iload_n C 2 dX8_day_74 rfl rfl ?_
        refine ab_iload_n C 0 dX8_day_75 rfl rfl ?_
        refine ab_callS C (k := 0) (n := 0) (rest := [.ref (G.1 + 106)]) [.int y2, .int (2 : Int32)] cl_X8_131 (mt_X8_where  hw f) ⟨rfl, rfl, Nat.le_of_ble_eq_true rfl, Nat.le_of_ble_eq_true rfl, Nat.zero_le _, Nat.zero_le _⟩ rfl rfl (Nat.le_of_ble_eq_true rfl) dX8_day_76 (ab_kp (k := 0) (n := 0) (fun v_26 f => ?_))
        refine ab_aload_n C 1 dX8_day_79 rfl rfl ?_
        refine ab_iload_n C 2 dX8_day_80 rfl rfl ?_
        refine ab_iload_n C 0 dX8_day_81 rfl rfl ?_
        refine ab_callV C (k := 0) (n := 0) (rest := [.int v_26, .ref (G.1 + 106)]) [.int y2, .int (2 : Int32)] cl_X8_136 (mt_X8_ofTask  hw f) rfl (by decide) kd_105 (wf_lt hw kd_105 rfl) ⟨rfl, rfl, Nat.le_of_ble_eq_true rfl, Nat.le_of_ble_eq_true rfl, Nat.zero_le _, Nat.zero_le _⟩ rfl rfl (Nat.le_of_ble_eq_true rfl) dX8_day_82 (ab_kp (k := 0) (n := 0) (fun v_27 f => ?_))
        refine ab_aload_n C 1 dX8_day_85 rfl rfl ?_
        refine ab_iload_n C 2 dX8_day_86 rfl rfl ?_
        refine ab_iconst C (v := (1 : Int32)) dX8_day_87 (by decide) ?_
        refine ab_callV C (k := 0) (n := 0) (rest := [.int v_27, .int v_26, .ref (G.1 + 106)]) [.int y2, .int (1 : Int32)] cl_X8_136 (mt_X8_ofTask  hw f) rfl (by decide) kd_105 (wf_lt hw kd_105 rfl) ⟨rfl, rfl, Nat.le_of_ble_eq_true rfl, Nat.le_of_ble_eq_true rfl, Nat.zero_le _, Nat.zero_le _⟩ rfl rfl (Nat.le_of_ble_eq_true rfl) dX8_day_88 (ab_kp (k := 0) (n := 0) (fun v_28 f => ?_))
        refine ab_if_le C (tgt := 98) dX8_day_91 (by decide) (fun c_29 => ?_) (fun c_29 => ?_)
        · have f := f.1 c_29
          refine ab_iconst C (v := (0 : Int32)) dX8_day_98 (by decide) ?_
          refine ab_iadd C dX8_day_99 ?_
          refine ab_iconst C (v := (0 : Int32)) dX8_day_100 (by decide) ?_
          refine ab_ldc C kw_t1055 dX8_day_101 ?_
          refine ab_callS C (k := 0) (n := 0) (rest := [.int v_26, .ref (G.1 + 106)]) [.int (v_27 + (0 : Int32)), .int (0 : Int32), .int (999999 : Int32)] cl_X8_75 (mt_X8_held  hw f) ⟨rfl, rfl, Nat.le_of_ble_eq_true rfl, Nat.le_of_ble_eq_true rfl, Nat.zero_le _, Nat.zero_le _⟩ rfl rfl (Nat.le_of_ble_eq_true rfl) dX8_day_103 (ab_kp (k := 0) (n := 0) (fun v_30 f => ?_))
          obtain ⟨c_31, f⟩ := f
          refine ab_iast C (by rw [kd_106]; decide) (wf_lt hw kd_106 rfl) (wf_len hw kd_106 rfl rfl (by decide)) c_31 (j := v_26.toNatClampNeg) rfl dX8_day_106 (fun h_32 e_33 => ?_)
          have f := f h_32 e_33
          have hw_34 := wf_si e_33 hw
          refine ab_iinc C (lv' := [(2, .int (y2 + (1 : Int32))), (3, .int (2 : Int32)), (0, .ref (G.1 + 105))]) 2 (v := (y2 + (1 : Int32))) dX8_day_107 rfl rfl (by decide) rfl ?_
          refine ab_goto C (tgt := 40) dX8_day_110 (by decide) ?_
          refine ab_sub (lv' := [(0, .ref (G.1 + 105)), (2, .int (y2 + (1 : Int32)))]) [2, 0] rfl ?_
          exact ih (y2 + (1 : Int32)) h_32  hw_34 f
        · have f := f.2 c_29
          refine ab_iconst C (v := (1 : Int32)) dX8_day_94 (by decide) ?_
          refine ab_goto C (tgt := 99) dX8_day_95 (by decide) ?_
          refine ab_iadd C dX8_day_99 ?_
          refine ab_iconst C (v := (0 : Int32)) dX8_day_100 (by decide) ?_
          refine ab_ldc C kw_t1055 dX8_day_101 ?_
          refine ab_callS C (k := 0) (n := 0) (rest := [.int v_26, .ref (G.1 + 106)]) [.int (v_27 + (1 : Int32)), .int (0 : Int32), .int (999999 : Int32)] cl_X8_75 (mt_X8_held  hw f) ⟨rfl, rfl, Nat.le_of_ble_eq_true rfl, Nat.le_of_ble_eq_true rfl, Nat.zero_le _, Nat.zero_le _⟩ rfl rfl (Nat.le_of_ble_eq_true rfl) dX8_day_103 (ab_kp (k := 0) (n := 0) (fun v_35 f => ?_))
          obtain ⟨c_36, f⟩ := f
          refine ab_iast C (by rw [kd_106]; decide) (wf_lt hw kd_106 rfl) (wf_len hw kd_106 rfl rfl (by decide)) c_36 (j := v_26.toNatClampNeg) rfl dX8_day_106 (fun h_37 e_38 => ?_)
          have f := f h_37 e_38
          have hw_39 := wf_si e_38 hw
          refine ab_iinc C (lv' := [(2, .int (y2 + (1 : Int32))), (3, .int (2 : Int32)), (0, .ref (G.1 + 105))]) 2 (v := (y2 + (1 : Int32))) dX8_day_107 rfl rfl (by decide) rfl ?_
          refine ab_goto C (tgt := 40) dX8_day_110 (by decide) ?_
          refine ab_sub (lv' := [(0, .ref (G.1 + 105)), (2, .int (y2 + (1 : Int32)))]) [2, 0] rfl ?_
          exact ih (y2 + (1 : Int32)) h_37  hw_39 f
def wp_X8_day_L6 (x1 : Int32) (Q : hp_T → Prop) : Nat → Int32 → hp_T → Prop
  | 0 => fun _ _ => False
  | nn + 1 => fun y2 h => (((hp_i h 106 0) ≤ y2 → (∃ n0, wp_X8_day_L40 x1 Q  n0 (0 : Int32) h)) ∧ (¬ ((hp_i h 106 0) ≤ y2) → (((hp_i h 106 0) ≤ (1 : Int32) → (∃ n0, wp_X8_day_L40 x1 Q  n0 (0 : Int32) h)) ∧ (¬ ((hp_i h 106 0) ≤ (1 : Int32)) → wp_X8_lesson y2 x1 h (fun h_41 => (wp_X8_day_L6 x1 Q nn) (y2 + (1 : Int32)) h_41)))))
set_option maxRecDepth 100000 in
set_option maxHeartbeats 4000000 in
theorem bt_X8_day_L6 {l : Launch} {G : ab_G} {F : ab_F} {x1 : Int32} {Q : hp_T → Prop}  (C : ab_C G F rm_X8_day cX8_day 4 RX8 none "day")   : ∀ (nn : Nat) (y2 : Int32) (h : hp_T), wf h → wp_X8_day_L6 x1 Q nn y2 h → ab_W l G F 4 (ab_MQ G F (po_v Q) 0 0) 0 0 h [(0, .ref (G.1 + 105)), (1, .int x1), (2, .int y2)] [] 6 := by
  intro nn
  induction nn with
  | zero =>
    intro y2 h hw f
    exact absurd f id
  | succ nn ih =>
    intro y2 h hw f
    unfold wp_X8_day_L6 at f
    refine ab_iload_n C 2 dX8_day_6 rfl rfl ?_
    refine ab_aload_n C 0 dX8_day_7 rfl rfl ?_
    refine ab_getR C (q := 106) fl_X8_7 rfl kd_105 (wf_lt hw kd_105 rfl) (wr_8_0 hw) dX8_day_8 ?_
    refine ab_iconst C (v := (0 : Int32)) dX8_day_11 (by decide) ?_
    refine ab_iald C (by rw [kd_106]; decide) (wf_lt hw kd_106 rfl) (wf_len hw kd_106 rfl rfl (by decide)) (vp_lit (by decide)) (j := 0) (by decide) dX8_day_12 ?_
    refine ab_icmp_ge C (tgt := 38) dX8_day_13 (by decide) (fun c_3 => ?_) (fun c_3 => ?_)
    · have f := f.1 c_3
      refine ab_iconst C (v := (0 : Int32)) dX8_day_38 (by decide) ?_
      refine ab_istore_n C (lv' := [(2, .int (0 : Int32)), (0, .ref (G.1 + 105)), (1, .int x1)]) dX8_day_39 rfl (by decide) rfl ?_
      obtain ⟨n0, f⟩ := f
      refine ab_sub (lv' := [(0, .ref (G.1 + 105)), (2, .int (0 : Int32))]) [1, 0] rfl ?_
      exact bt_X8_day_L40 C    n0 (0 : Int32) h  hw f
    · have f := f.2 c_3
      refine ab_aload_n C 0 dX8_day_16 rfl rfl ?_
      refine ab_getR C (q := 106) fl_X8_7 rfl kd_105 (wf_lt hw kd_105 rfl) (wr_8_0 hw) dX8_day_17 ?_
      refine ab_iconst C (v := (0 : Int32)) dX8_day_20 (by decide) ?_
      refine ab_iald C (by rw [kd_106]; decide) (wf_lt hw kd_106 rfl) (wf_len hw kd_106 rfl rfl (by decide)) (vp_lit (by decide)) (j := 0) (by decide) dX8_day_21 ?_
      refine ab_iconst C (v := (1 : Int32)) dX8_day_22 (by decide) ?_
      refine ab_icmp_le C (tgt := 38) dX8_day_23 (by decide) (fun c_40 => ?_) (fun c_40 => ?_)
      · have f := f.1 c_40
        refine ab_iconst C (v := (0 : Int32)) dX8_day_38 (by decide) ?_
        refine ab_istore_n C (lv' := [(2, .int (0 : Int32)), (0, .ref (G.1 + 105)), (1, .int x1)]) dX8_day_39 rfl (by decide) rfl ?_
        obtain ⟨n0, f⟩ := f
        refine ab_sub (lv' := [(0, .ref (G.1 + 105)), (2, .int (0 : Int32))]) [1, 0] rfl ?_
        exact bt_X8_day_L40 C    n0 (0 : Int32) h  hw f
      · have f := f.2 c_40
        refine ab_aload_n C 0 dX8_day_26 rfl rfl ?_
        refine ab_iload_n C 2 dX8_day_27 rfl rfl ?_
        refine ab_iload_n C 1 dX8_day_28 rfl rfl ?_
        refine ab_callV C (k := 0) (n := 0) (rest := []) [.int y2, .int x1] cl_X8_233 (mt_X8_lesson  hw f) rfl (by decide) kd_105 (wf_lt hw kd_105 rfl) ⟨rfl, rfl, Nat.le_of_ble_eq_true rfl, Nat.le_of_ble_eq_true rfl, Nat.zero_le _, Nat.zero_le _⟩ rfl rfl (Nat.le_of_ble_eq_true rfl) dX8_day_29 (ab_kv (k := 0) (n := 0) (fun h_41 hw_42 f => ?_))
        refine ab_iinc C (lv' := [(2, .int (y2 + (1 : Int32))), (0, .ref (G.1 + 105)), (1, .int x1)]) 2 (v := (y2 + (1 : Int32))) dX8_day_32 rfl rfl (by decide) rfl ?_
        refine ab_goto C (tgt := 6) dX8_day_35 (by decide) ?_
        refine ab_sub (lv' := [(0, .ref (G.1 + 105)), (1, .int x1), (2, .int (y2 + (1 : Int32)))]) [1, 2, 0] rfl ?_
        exact ih (y2 + (1 : Int32)) h_41  hw_42 f
def wp_X8_day (x1 : Int32) (h : hp_T) (Q : hp_T → Prop) : Prop :=
  wp_X8_relieves h (fun h_1 => (∃ n0, wp_X8_day_L6 x1 Q  n0 (0 : Int32) h_1))
set_option maxRecDepth 100000 in
set_option maxHeartbeats 4000000 in
theorem mt_X8_day {l : Launch} {G : ab_G} {x1 : Int32} {h : hp_T} {Q : hp_T → Prop} (hw : wf h) (f : wp_X8_day x1 h Q) : ab_M l G yX8_day cX8_day 4 none rm_X8_day 0 0 [.ref (G.1 + 105), .int x1] h (po_v Q) := by
  refine ab_intro (own := RX8) (nm := "day") rfl rfl rfl (Nat.le_of_ble_eq_true rfl) (fun F C => ?_)
  show ab_W l G F 4 (ab_MQ G F (po_v Q) 0 0) 0 0 h [(0, .ref (G.1 + 105)), (1, .int x1)] [] 0
  unfold wp_X8_day at f
  refine ab_aload_n C 0 dX8_day_0 rfl rfl ?_
  refine ab_callV C (k := 0) (n := 0) (rest := []) [] cl_X8_230 (mt_X8_relieves  hw f) rfl (by decide) kd_105 (wf_lt hw kd_105 rfl) ⟨rfl, rfl, Nat.le_of_ble_eq_true rfl, Nat.le_of_ble_eq_true rfl, Nat.zero_le _, Nat.zero_le _⟩ rfl rfl (Nat.le_of_ble_eq_true rfl) dX8_day_1 (ab_kv (k := 0) (n := 0) (fun h_1 hw_2 f => ?_))
  refine ab_iconst C (v := (0 : Int32)) dX8_day_4 (by decide) ?_
  refine ab_istore_n C (lv' := [(2, .int (0 : Int32)), (0, .ref (G.1 + 105)), (1, .int x1)]) dX8_day_5 rfl (by decide) rfl ?_
  obtain ⟨n0, f⟩ := f
  refine ab_sub (lv' := [(0, .ref (G.1 + 105)), (1, .int x1), (2, .int (0 : Int32))]) [1, 2, 0] rfl ?_
  exact bt_X8_day_L6 C    n0 (0 : Int32) h_1  hw_2 f
/-! X8_keepsAside -/
def rm_X8_keepsAside : Room := { frames := 2, cells := 0, slots := 0, locals := 100 }
def wp_X8_keepsAside_L2 (Q : hp_T → Prop) : Nat → Int32 → hp_T → Prop
  | 0 => fun _ _ => False
  | nn + 1 => fun y1 h => (((357 : Int32) ≤ y1 → (Q h)) ∧ (¬ ((357 : Int32) ≤ y1) → (vp_in y1 357) ∧ (vp_in y1 357) ∧ (∀ h_4, h_4 = hp_si h 108 y1.toNatClampNeg (hp_i h 106 y1.toNatClampNeg) → (wp_X8_keepsAside_L2 Q nn) (y1 + (1 : Int32)) h_4)))
set_option maxRecDepth 100000 in
set_option maxHeartbeats 4000000 in
theorem bt_X8_keepsAside_L2 {l : Launch} {G : ab_G} {F : ab_F}  {Q : hp_T → Prop}  (C : ab_C G F rm_X8_keepsAside cX8_keepsAside 2 RX8 none "keepsAside")   : ∀ (nn : Nat) (y1 : Int32) (h : hp_T), wf h → wp_X8_keepsAside_L2 Q nn y1 h → ab_W l G F 2 (ab_MQ G F (po_v Q) 0 0) 0 0 h [(0, .ref (G.1 + 105)), (1, .int y1)] [] 2 := by
  intro nn
  induction nn with
  | zero =>
    intro y1 h hw f
    exact absurd f id
  | succ nn ih =>
    intro y1 h hw f
    unfold wp_X8_keepsAside_L2 at f
    refine ab_iload_n C 1 dX8_keepsAside_2 rfl rfl ?_
    refine ab_sipush C (v := (357 : Int32)) dX8_keepsAside_3 (by decide) ?_
    refine ab_icmp_ge C (tgt := 27) dX8_keepsAside_6 (by decide) (fun c_1 => ?_) (fun c_1 => ?_)
    · have f := f.1 c_1
      exact ab_vret C dX8_keepsAside_27 ⟨hw, rfl, f⟩
    · have f := f.2 c_1
      refine ab_aload_n C 0 dX8_keepsAside_9 rfl rfl ?_
      refine ab_getR C (q := 108) fl_X8_16 rfl kd_105 (wf_lt hw kd_105 rfl) (wr_8_2 hw) dX8_keepsAside_10 ?_
      refine ab_iload_n C 1 dX8_keepsAside_13 rfl rfl ?_
      refine ab_aload_n C 0 dX8_keepsAside_14 rfl rfl ?_
      refine ab_getR C (q := 106) fl_X8_7 rfl kd_105 (wf_lt hw kd_105 rfl) (wr_8_0 hw) dX8_keepsAside_15 ?_
      refine ab_iload_n C 1 dX8_keepsAside_18 rfl rfl ?_
      obtain ⟨c_2, f⟩ := f
      refine ab_iald C (by rw [kd_106]; decide) (wf_lt hw kd_106 rfl) (wf_len hw kd_106 rfl rfl (by decide)) c_2 (j := y1.toNatClampNeg) rfl dX8_keepsAside_19 ?_
      obtain ⟨c_3, f⟩ := f
      refine ab_iast C (by rw [kd_108]; decide) (wf_lt hw kd_108 rfl) (wf_len hw kd_108 rfl rfl (by decide)) c_3 (j := y1.toNatClampNeg) rfl dX8_keepsAside_20 (fun h_4 e_5 => ?_)
      have f := f h_4 e_5
      have hw_6 := wf_si e_5 hw
      refine ab_iinc C (lv' := [(1, .int (y1 + (1 : Int32))), (0, .ref (G.1 + 105))]) 1 (v := (y1 + (1 : Int32))) dX8_keepsAside_21 rfl rfl (by decide) rfl ?_
      refine ab_goto C (tgt := 2) dX8_keepsAside_24 (by decide) ?_
      refine ab_sub (lv' := [(0, .ref (G.1 + 105)), (1, .int (y1 + (1 : Int32)))]) [1, 0] rfl ?_
      exact ih (y1 + (1 : Int32)) h_4  hw_6 f
def wp_X8_keepsAside (h : hp_T) (Q : hp_T → Prop) : Prop :=
  (∃ n0, wp_X8_keepsAside_L2 Q  n0 (0 : Int32) h)
set_option maxRecDepth 100000 in
set_option maxHeartbeats 4000000 in
theorem mt_X8_keepsAside {l : Launch} {G : ab_G}  {h : hp_T} {Q : hp_T → Prop} (hw : wf h) (f : wp_X8_keepsAside h Q) : ab_M l G yX8_keepsAside cX8_keepsAside 2 none rm_X8_keepsAside 0 0 [.ref (G.1 + 105)] h (po_v Q) := by
  refine ab_intro (own := RX8) (nm := "keepsAside") rfl rfl rfl (Nat.le_of_ble_eq_true rfl) (fun F C => ?_)
  show ab_W l G F 2 (ab_MQ G F (po_v Q) 0 0) 0 0 h [(0, .ref (G.1 + 105))] [] 0
  unfold wp_X8_keepsAside at f
  refine ab_iconst C (v := (0 : Int32)) dX8_keepsAside_0 (by decide) ?_
  refine ab_istore_n C (lv' := [(1, .int (0 : Int32)), (0, .ref (G.1 + 105))]) dX8_keepsAside_1 rfl (by decide) rfl ?_
  obtain ⟨n0, f⟩ := f
  refine ab_sub (lv' := [(0, .ref (G.1 + 105)), (1, .int (0 : Int32))]) [1, 0] rfl ?_
  exact bt_X8_keepsAside_L2 C    n0 (0 : Int32) h  hw f
/-! X8_putsBack -/
def rm_X8_putsBack : Room := { frames := 2, cells := 0, slots := 0, locals := 100 }
def wp_X8_putsBack_L2 (Q : hp_T → Prop) : Nat → Int32 → hp_T → Prop
  | 0 => fun _ _ => False
  | nn + 1 => fun y1 h => (((357 : Int32) ≤ y1 → (Q h)) ∧ (¬ ((357 : Int32) ≤ y1) → (vp_in y1 357) ∧ (vp_in y1 357) ∧ (∀ h_4, h_4 = hp_si h 106 y1.toNatClampNeg (hp_i h 108 y1.toNatClampNeg) → (wp_X8_putsBack_L2 Q nn) (y1 + (1 : Int32)) h_4)))
set_option maxRecDepth 100000 in
set_option maxHeartbeats 4000000 in
theorem bt_X8_putsBack_L2 {l : Launch} {G : ab_G} {F : ab_F}  {Q : hp_T → Prop}  (C : ab_C G F rm_X8_putsBack cX8_putsBack 2 RX8 none "putsBack")   : ∀ (nn : Nat) (y1 : Int32) (h : hp_T), wf h → wp_X8_putsBack_L2 Q nn y1 h → ab_W l G F 2 (ab_MQ G F (po_v Q) 0 0) 0 0 h [(0, .ref (G.1 + 105)), (1, .int y1)] [] 2 := by
  intro nn
  induction nn with
  | zero =>
    intro y1 h hw f
    exact absurd f id
  | succ nn ih =>
    intro y1 h hw f
    unfold wp_X8_putsBack_L2 at f
    refine ab_iload_n C 1 dX8_putsBack_2 rfl rfl ?_
    refine ab_sipush C (v := (357 : Int32)) dX8_putsBack_3 (by decide) ?_
    refine ab_icmp_ge C (tgt := 27) dX8_putsBack_6 (by decide) (fun c_1 => ?_) (fun c_1 => ?_)
    · have f := f.1 c_1
      exact ab_vret C dX8_putsBack_27 ⟨hw, rfl, f⟩
    · have f := f.2 c_1
      refine ab_aload_n C 0 dX8_putsBack_9 rfl rfl ?_
      refine ab_getR C (q := 106) fl_X8_7 rfl kd_105 (wf_lt hw kd_105 rfl) (wr_8_0 hw) dX8_putsBack_10 ?_
      refine ab_iload_n C 1 dX8_putsBack_13 rfl rfl ?_
      refine ab_aload_n C 0 dX8_putsBack_14 rfl rfl ?_
      refine ab_getR C (q := 108) fl_X8_16 rfl kd_105 (wf_lt hw kd_105 rfl) (wr_8_2 hw) dX8_putsBack_15 ?_
      refine ab_iload_n C 1 dX8_putsBack_18 rfl rfl ?_
      obtain ⟨c_2, f⟩ := f
      refine ab_iald C (by rw [kd_108]; decide) (wf_lt hw kd_108 rfl) (wf_len hw kd_108 rfl rfl (by decide)) c_2 (j := y1.toNatClampNeg) rfl dX8_putsBack_19 ?_
      obtain ⟨c_3, f⟩ := f
      refine ab_iast C (by rw [kd_106]; decide) (wf_lt hw kd_106 rfl) (wf_len hw kd_106 rfl rfl (by decide)) c_3 (j := y1.toNatClampNeg) rfl dX8_putsBack_20 (fun h_4 e_5 => ?_)
      have f := f h_4 e_5
      have hw_6 := wf_si e_5 hw
      refine ab_iinc C (lv' := [(1, .int (y1 + (1 : Int32))), (0, .ref (G.1 + 105))]) 1 (v := (y1 + (1 : Int32))) dX8_putsBack_21 rfl rfl (by decide) rfl ?_
      refine ab_goto C (tgt := 2) dX8_putsBack_24 (by decide) ?_
      refine ab_sub (lv' := [(0, .ref (G.1 + 105)), (1, .int (y1 + (1 : Int32)))]) [1, 0] rfl ?_
      exact ih (y1 + (1 : Int32)) h_4  hw_6 f
def wp_X8_putsBack (h : hp_T) (Q : hp_T → Prop) : Prop :=
  (∃ n0, wp_X8_putsBack_L2 Q  n0 (0 : Int32) h)
set_option maxRecDepth 100000 in
set_option maxHeartbeats 4000000 in
theorem mt_X8_putsBack {l : Launch} {G : ab_G}  {h : hp_T} {Q : hp_T → Prop} (hw : wf h) (f : wp_X8_putsBack h Q) : ab_M l G yX8_putsBack cX8_putsBack 2 none rm_X8_putsBack 0 0 [.ref (G.1 + 105)] h (po_v Q) := by
  refine ab_intro (own := RX8) (nm := "putsBack") rfl rfl rfl (Nat.le_of_ble_eq_true rfl) (fun F C => ?_)
  show ab_W l G F 2 (ab_MQ G F (po_v Q) 0 0) 0 0 h [(0, .ref (G.1 + 105))] [] 0
  unfold wp_X8_putsBack at f
  refine ab_iconst C (v := (0 : Int32)) dX8_putsBack_0 (by decide) ?_
  refine ab_istore_n C (lv' := [(1, .int (0 : Int32)), (0, .ref (G.1 + 105))]) dX8_putsBack_1 rfl (by decide) rfl ?_
  obtain ⟨n0, f⟩ := f
  refine ab_sub (lv' := [(0, .ref (G.1 + 105)), (1, .int (0 : Int32))]) [1, 0] rfl ?_
  exact bt_X8_putsBack_L2 C    n0 (0 : Int32) h  hw f
/-! X8_check -/
def rm_X8_check : Room := { frames := 7, cells := 0, slots := 0, locals := 222 }
def wp_X8_check_L39 (x1 : Int32) (Q : Int32 → hp_T → Prop) : Nat → Int32 → Int32 → Int32 → hp_T → Prop
  | 0 => fun _ _ _ _ => False
  | nn + 1 => fun y2 y3 y4 h => ((y4 = 0 → wp_X8_putsBack h (fun h_9 => ((y4 = 0 → (Q ((1 : Int32) + y3) h_9)) ∧ (¬ (y4 = 0) → (Q (0 : Int32) h_9))))) ∧ (¬ (y4 = 0) → ((y2 ≤ y3 → wp_X8_putsBack h (fun h_13 => ((y4 = 0 → (Q ((1 : Int32) + y3) h_13)) ∧ (¬ (y4 = 0) → (Q (0 : Int32) h_13))))) ∧ (¬ (y2 ≤ y3) → wp_X8_day (0 : Int32) h (fun h_16 => wp_X8_knowers x1 h_16 (fun v_18 => (vp_in ((213 : Int32) + y3) 357) ∧ ((v_18 = (hp_i h_16 106 (((213 : Int32) + y3).toNatClampNeg)) → (wp_X8_check_L39 x1 Q nn) y2 (y3 + (1 : Int32)) (1 : Int32) h_16) ∧ (¬ (v_18 = (hp_i h_16 106 (((213 : Int32) + y3).toNatClampNeg))) → (wp_X8_check_L39 x1 Q nn) y2 (y3 + (0 : Int32)) (0 : Int32) h_16))))))))
set_option maxRecDepth 100000 in
set_option maxHeartbeats 4000000 in
theorem bt_X8_check_L39 {l : Launch} {G : ab_G} {F : ab_F} {x1 : Int32} {Q : Int32 → hp_T → Prop}  (C : ab_C G F rm_X8_check cX8_check 5 RX8 (some .int) "check")   : ∀ (nn : Nat) (y2 : Int32) (y3 : Int32) (y4 : Int32) (h : hp_T), wf h → wp_X8_check_L39 x1 Q nn y2 y3 y4 h → ab_W l G F 5 (ab_MQ G F (po_h Q) 0 0) 0 0 h [(0, .ref (G.1 + 105)), (1, .int x1), (2, .int y2), (3, .int y3), (4, .int y4)] [] 39 := by
  intro nn
  induction nn with
  | zero =>
    intro y2 y3 y4 h hw f
    exact absurd f id
  | succ nn ih =>
    intro y2 y3 y4 h hw f
    unfold wp_X8_check_L39 at f
    refine ab_iload C 4 dX8_check_39 rfl ?_
    refine ab_if_eq C (tgt := 95) dX8_check_41 (by decide) (fun c_8 => ?_) (fun c_8 => ?_)
    · have f := f.1 c_8
      refine ab_aload_n C 0 dX8_check_95 rfl rfl ?_
      refine ab_callV C (k := 0) (n := 0) (rest := []) [] cl_X8_259 (mt_X8_putsBack  hw f) rfl (by decide) kd_105 (wf_lt hw kd_105 rfl) ⟨rfl, rfl, Nat.le_of_ble_eq_true rfl, Nat.le_of_ble_eq_true rfl, Nat.zero_le _, Nat.zero_le _⟩ rfl rfl (Nat.le_of_ble_eq_true rfl) dX8_check_96 (ab_kv (k := 0) (n := 0) (fun h_9 hw_10 f => ?_))
      refine ab_iload C 4 dX8_check_99 rfl ?_
      refine ab_if_eq C (tgt := 108) dX8_check_101 (by decide) (fun c_11 => ?_) (fun c_11 => ?_)
      · have f := f.1 c_11
        refine ab_iconst C (v := (1 : Int32)) dX8_check_108 (by decide) ?_
        refine ab_iload_n C 3 dX8_check_109 rfl rfl ?_
        refine ab_iadd C dX8_check_110 ?_
        exact ab_iret C dX8_check_111 ⟨hw_10, _, rfl, f⟩
      · have f := f.2 c_11
        refine ab_iconst C (v := (0 : Int32)) dX8_check_104 (by decide) ?_
        refine ab_goto C (tgt := 111) dX8_check_105 (by decide) ?_
        exact ab_iret C dX8_check_111 ⟨hw_10, _, rfl, f⟩
    · have f := f.2 c_8
      refine ab_iload_n C 3 dX8_check_44 rfl rfl ?_
      refine ab_iload_n C 2 dX8_check_45 rfl rfl ?_
      refine ab_icmp_ge C (tgt := 95) dX8_check_46 (by decide) (fun c_12 => ?_) (fun c_12 => ?_)
      · have f := f.1 c_12
        refine ab_aload_n C 0 dX8_check_95 rfl rfl ?_
        refine ab_callV C (k := 0) (n := 0) (rest := []) [] cl_X8_259 (mt_X8_putsBack  hw f) rfl (by decide) kd_105 (wf_lt hw kd_105 rfl) ⟨rfl, rfl, Nat.le_of_ble_eq_true rfl, Nat.le_of_ble_eq_true rfl, Nat.zero_le _, Nat.zero_le _⟩ rfl rfl (Nat.le_of_ble_eq_true rfl) dX8_check_96 (ab_kv (k := 0) (n := 0) (fun h_13 hw_14 f => ?_))
        refine ab_iload C 4 dX8_check_99 rfl ?_
        refine ab_if_eq C (tgt := 108) dX8_check_101 (by decide) (fun c_15 => ?_) (fun c_15 => ?_)
        · have f := f.1 c_15
          refine ab_iconst C (v := (1 : Int32)) dX8_check_108 (by decide) ?_
          refine ab_iload_n C 3 dX8_check_109 rfl rfl ?_
          refine ab_iadd C dX8_check_110 ?_
          exact ab_iret C dX8_check_111 ⟨hw_14, _, rfl, f⟩
        · have f := f.2 c_15
          refine ab_iconst C (v := (0 : Int32)) dX8_check_104 (by decide) ?_
          refine ab_goto C (tgt := 111) dX8_check_105 (by decide) ?_
          exact ab_iret C dX8_check_111 ⟨hw_14, _, rfl, f⟩
      · have f := f.2 c_12
        refine ab_aload_n C 0 dX8_check_49 rfl rfl ?_
        refine ab_iconst C (v := (0 : Int32)) dX8_check_50 (by decide) ?_
        refine ab_callV C (k := 0) (n := 0) (rest := []) [.int (0 : Int32)] cl_X8_238 (mt_X8_day  hw f) rfl (by decide) kd_105 (wf_lt hw kd_105 rfl) ⟨rfl, rfl, Nat.le_of_ble_eq_true rfl, Nat.le_of_ble_eq_true rfl, Nat.zero_le _, Nat.zero_le _⟩ rfl rfl (Nat.le_of_ble_eq_true rfl) dX8_check_51 (ab_kv (k := 0) (n := 0) (fun h_16 hw_17 f => ?_))
        refine ab_aload_n C 0 dX8_check_54 rfl rfl ?_
        refine ab_iload_n C 1 dX8_check_55 rfl rfl ?_
        refine ab_callV C (k := 0) (n := 0) (rest := []) [.int x1] cl_X8_139 (mt_X8_knowers  hw_17 f) rfl (by decide) kd_105 (wf_lt hw_17 kd_105 rfl) ⟨rfl, rfl, Nat.le_of_ble_eq_true rfl, Nat.le_of_ble_eq_true rfl, Nat.zero_le _, Nat.zero_le _⟩ rfl rfl (Nat.le_of_ble_eq_true rfl) dX8_check_56 (ab_kp (k := 0) (n := 0) (fun v_18 f => ?_))
        refine ab_aload_n C 0 dX8_check_59 rfl rfl ?_
        refine ab_getR C (q := 106) fl_X8_7 rfl kd_105 (wf_lt hw_17 kd_105 rfl) (wr_8_0 hw_17) dX8_check_60 ?_
        refine ab_sipush C (v := (213 : Int32)) dX8_check_63 (by decide) ?_
        refine ab_iload_n C 3 dX8_check_66 rfl rfl ?_
        refine ab_iadd C dX8_check_67 ?_
        obtain ⟨c_19, f⟩ := f
        refine ab_iald C (by rw [kd_106]; decide) (wf_lt hw_17 kd_106 rfl) (wf_len hw_17 kd_106 rfl rfl (by decide)) c_19 (j := ((213 : Int32) + y3).toNatClampNeg) rfl dX8_check_68 ?_
        refine ab_icmp_ne C (tgt := 76) dX8_check_69 (by decide) (fun c_20 => ?_) (fun c_20 => ?_)
        · have f := f.2 c_20
          refine ab_iconst C (v := (0 : Int32)) dX8_check_76 (by decide) ?_
          refine ab_istore C (lv' := [(4, .int (0 : Int32)), (0, .ref (G.1 + 105)), (1, .int x1), (2, .int y2), (3, .int y3)]) dX8_check_77 (by decide) rfl ?_
          refine ab_iload_n C 4 dX8_check_79 rfl rfl ?_
          refine ab_iload C 0 dX8_check_80 rfl ?_
          refine ab_if_eq C (tgt := 89) dX8_check_82 (by decide) (fun _ => ?_) (fun z => absurd z (by decide))
          refine ab_iconst C (v := (0 : Int32)) dX8_check_89 (by decide) ?_
          refine ab_iadd C dX8_check_90 ?_
          refine ab_istore_n C (lv' := [(3, .int (y3 + (0 : Int32))), (4, .int (0 : Int32)), (0, .ref (G.1 + 105)), (1, .int x1), (2, .int y2)]) dX8_check_91 rfl (by decide) rfl ?_
          refine ab_goto C (tgt := 39) dX8_check_92 (by decide) ?_
          refine ab_sub (lv' := [(0, .ref (G.1 + 105)), (1, .int x1), (2, .int y2), (3, .int (y3 + (0 : Int32))), (4, .int (0 : Int32))]) [2, 3, 4, 0, 1] rfl ?_
          exact ih y2 (y3 + (0 : Int32)) (0 : Int32) h_16  hw_17 f
        · have f := f.1 c_20
          refine ab_iconst C (v := (1 : Int32)) dX8_check_72 (by decide) ?_
          refine ab_goto C (tgt := 77) dX8_check_73 (by decide) ?_
          refine ab_istore C (lv' := [(4, .int (1 : Int32)), (0, .ref (G.1 + 105)), (1, .int x1), (2, .int y2), (3, .int y3)]) dX8_check_77 (by decide) rfl ?_
          refine ab_iload_n C 4 dX8_check_79 rfl rfl ?_
          refine ab_iload C 0 dX8_check_80 rfl ?_
          refine ab_if_eq C (tgt := 89) dX8_check_82 (by decide) (fun z => absurd z (by decide)) (fun _ => ?_)
          refine ab_iconst C (v := (1 : Int32)) dX8_check_85 (by decide) ?_
          refine ab_goto C (tgt := 90) dX8_check_86 (by decide) ?_
          refine ab_iadd C dX8_check_90 ?_
          refine ab_istore_n C (lv' := [(3, .int (y3 + (1 : Int32))), (4, .int (1 : Int32)), (0, .ref (G.1 + 105)), (1, .int x1), (2, .int y2)]) dX8_check_91 rfl (by decide) rfl ?_
          refine ab_goto C (tgt := 39) dX8_check_92 (by decide) ?_
          refine ab_sub (lv' := [(0, .ref (G.1 + 105)), (1, .int x1), (2, .int y2), (3, .int (y3 + (1 : Int32))), (4, .int (1 : Int32))]) [2, 3, 4, 0, 1] rfl ?_
          exact ih y2 (y3 + (1 : Int32)) (1 : Int32) h_16  hw_17 f
def wp_X8_check (x1 : Int32) (h : hp_T) (Q : Int32 → hp_T → Prop) : Prop :=
  (∀ h_1, h_1 = hp_si h 106 8 (0 : Int32) → wp_X8_isKnack x1 h_1 (fun v_4 => ((v_4 = 0 → wp_X8_errs (-1000000001 : Int32) h_1 (fun v_21 h_22 => (Q v_21 h_22))) ∧ (¬ (v_4 = 0) → wp_X8_keepsAside h_1 (fun h_6 => (∃ n0, wp_X8_check_L39 x1 Q  n0 (hp_i h 106 8) (0 : Int32) (1 : Int32) h_6))))))
set_option maxRecDepth 100000 in
set_option maxHeartbeats 4000000 in
theorem mt_X8_check {l : Launch} {G : ab_G} {x1 : Int32} {h : hp_T} {Q : Int32 → hp_T → Prop} (hw : wf h) (f : wp_X8_check x1 h Q) : ab_M l G yX8_check cX8_check 5 (some .int) rm_X8_check 0 0 [.ref (G.1 + 105), .int x1] h (po_h Q) := by
  refine ab_intro (own := RX8) (nm := "check") rfl rfl rfl (Nat.le_of_ble_eq_true rfl) (fun F C => ?_)
  show ab_W l G F 5 (ab_MQ G F (po_h Q) 0 0) 0 0 h [(0, .ref (G.1 + 105)), (1, .int x1)] [] 0
  unfold wp_X8_check at f
  refine ab_aload_n C 0 dX8_check_0 rfl rfl ?_
  refine ab_getR C (q := 106) fl_X8_7 rfl kd_105 (wf_lt hw kd_105 rfl) (wr_8_0 hw) dX8_check_1 ?_
  refine ab_bipush C (v := (8 : Int32)) dX8_check_4 (by decide) ?_
  refine ab_iald C (by rw [kd_106]; decide) (wf_lt hw kd_106 rfl) (wf_len hw kd_106 rfl rfl (by decide)) (vp_lit (by decide)) (j := 8) (by decide) dX8_check_6 ?_
  refine ab_istore_n C (lv' := [(2, .int (hp_i h 106 8)), (0, .ref (G.1 + 105)), (1, .int x1)]) dX8_check_7 rfl (by decide) rfl ?_
  refine ab_aload_n C 1 dX8_check_8 rfl rfl ?_
  refine ab_getR C (q := 106) fl_X8_7 rfl kd_105 (wf_lt hw kd_105 rfl) (wr_8_0 hw) dX8_check_9 ?_
  refine ab_bipush C (v := (8 : Int32)) dX8_check_12 (by decide) ?_
  refine ab_iconst C (v := (0 : Int32)) dX8_check_14 (by decide) ?_
  refine ab_iast C (by rw [kd_106]; decide) (wf_lt hw kd_106 rfl) (wf_len hw kd_106 rfl rfl (by decide)) (vp_lit (by decide)) (j := 8) (by decide) dX8_check_15 (fun h_1 e_2 => ?_)
  have f := f h_1 e_2
  have hw_3 := wf_si e_2 hw
  refine ab_iload_n C 2 dX8_check_16 rfl rfl ?_
  refine ab_callS C (k := 0) (n := 0) (rest := []) [.int x1] cl_X8_113 (mt_X8_isKnack  hw_3 f) ⟨rfl, rfl, Nat.le_of_ble_eq_true rfl, Nat.le_of_ble_eq_true rfl, Nat.zero_le _, Nat.zero_le _⟩ rfl rfl (Nat.le_of_ble_eq_true rfl) dX8_check_17 (ab_kp (k := 0) (n := 0) (fun v_4 f => ?_))
  refine ab_if_ne C (tgt := 30) dX8_check_20 (by decide) (fun c_5 => ?_) (fun c_5 => ?_)
  · have f := f.2 c_5
    refine ab_aload_n C 1 dX8_check_30 rfl rfl ?_
    refine ab_callV C (k := 0) (n := 0) (rest := []) [] cl_X8_256 (mt_X8_keepsAside  hw_3 f) rfl (by decide) kd_105 (wf_lt hw_3 kd_105 rfl) ⟨rfl, rfl, Nat.le_of_ble_eq_true rfl, Nat.le_of_ble_eq_true rfl, Nat.zero_le _, Nat.zero_le _⟩ rfl rfl (Nat.le_of_ble_eq_true rfl) dX8_check_31 (ab_kv (k := 0) (n := 0) (fun h_6 hw_7 f => ?_))
    refine ab_iconst C (v := (0 : Int32)) dX8_check_34 (by decide) ?_
    refine ab_istore_n C (lv' := [(3, .int (0 : Int32)), (2, .int (hp_i h 106 8)), (0, .ref (G.1 + 105)), (1, .int x1)]) dX8_check_35 rfl (by decide) rfl ?_
    refine ab_iconst C (v := (1 : Int32)) dX8_check_36 (by decide) ?_
    refine ab_istore C (lv' := [(4, .int (1 : Int32)), (3, .int (0 : Int32)), (2, .int (hp_i h 106 8)), (0, .ref (G.1 + 105)), (1, .int x1)]) dX8_check_37 (by decide) rfl ?_
    obtain ⟨n0, f⟩ := f
    refine ab_sub (lv' := [(0, .ref (G.1 + 105)), (1, .int x1), (2, .int (hp_i h 106 8)), (3, .int (0 : Int32)), (4, .int (1 : Int32))]) [3, 4, 2, 1, 0] rfl ?_
    exact bt_X8_check_L39 C    n0 (hp_i h 106 8) (0 : Int32) (1 : Int32) h_6  hw_7 f
  · have f := f.1 c_5
    refine ab_aload_n C 1 dX8_check_23 rfl rfl ?_
    refine ab_ldc C kw_t821 dX8_check_24 ?_
    refine ab_callV C (k := 0) (n := 0) (rest := []) [.int (-1000000001 : Int32)] cl_X8_84 (mt_X8_errs  hw_3 f) rfl (by decide) kd_105 (wf_lt hw_3 kd_105 rfl) ⟨rfl, rfl, Nat.le_of_ble_eq_true rfl, Nat.le_of_ble_eq_true rfl, Nat.zero_le _, Nat.zero_le _⟩ rfl rfl (Nat.le_of_ble_eq_true rfl) dX8_check_26 (ab_kh (k := 0) (n := 0) (fun v_21 h_22 hw_23 f => ?_))
    exact ab_iret C dX8_check_29 ⟨hw_23, _, rfl, f⟩
/-! X8_knownByAny -/
def rm_X8_knownByAny : Room := { frames := 4, cells := 0, slots := 0, locals := 143 }
def wp_X8_knownByAny_L4 (h : hp_T) (Q : Int32 → Prop) : Nat → Int32 → Int32 → Prop
  | 0 => fun _ _ => False
  | nn + 1 => fun y1 y2 => (((hp_i h 106 0) ≤ y2 → (Q y1)) ∧ (¬ ((hp_i h 106 0) ≤ y2) → wp_X8_its y2 (3 : Int32) h (fun v_2 => (wp_X8_knownByAny_L4 h Q nn) (y1 ||| v_2) (y2 + (1 : Int32)))))
set_option maxRecDepth 100000 in
set_option maxHeartbeats 4000000 in
theorem bt_X8_knownByAny_L4 {l : Launch} {G : ab_G} {F : ab_F}  {h : hp_T} {Q : Int32 → Prop}  (C : ab_C G F rm_X8_knownByAny cX8_knownByAny 3 RX8 (some .int) "knownByAny")  (hw : wf h)  : ∀ (nn : Nat) (y1 : Int32) (y2 : Int32), wp_X8_knownByAny_L4 h Q nn y1 y2 → ab_W l G F 3 (ab_MQ G F (po_p h Q) 0 0) 0 0 h [(0, .ref (G.1 + 105)), (1, .int y1), (2, .int y2)] [] 4 := by
  intro nn
  induction nn with
  | zero =>
    intro y1 y2 f
    exact absurd f id
  | succ nn ih =>
    intro y1 y2 f
    unfold wp_X8_knownByAny_L4 at f
    refine ab_iload_n C 2 dX8_knownByAny_4 rfl rfl ?_
    refine ab_aload_n C 0 dX8_knownByAny_5 rfl rfl ?_
    refine ab_getR C (q := 106) fl_X8_7 rfl kd_105 (wf_lt hw kd_105 rfl) (wr_8_0 hw) dX8_knownByAny_6 ?_
    refine ab_iconst C (v := (0 : Int32)) dX8_knownByAny_9 (by decide) ?_
    refine ab_iald C (by rw [kd_106]; decide) (wf_lt hw kd_106 rfl) (wf_len hw kd_106 rfl rfl (by decide)) (vp_lit (by decide)) (j := 0) (by decide) dX8_knownByAny_10 ?_
    refine ab_icmp_ge C (tgt := 29) dX8_knownByAny_11 (by decide) (fun c_1 => ?_) (fun c_1 => ?_)
    · have f := f.1 c_1
      refine ab_iload_n C 1 dX8_knownByAny_29 rfl rfl ?_
      exact ab_iret C dX8_knownByAny_30 ⟨rfl, _, rfl, f⟩
    · have f := f.2 c_1
      refine ab_iload_n C 1 dX8_knownByAny_14 rfl rfl ?_
      refine ab_aload_n C 0 dX8_knownByAny_15 rfl rfl ?_
      refine ab_iload_n C 2 dX8_knownByAny_16 rfl rfl ?_
      refine ab_iconst C (v := (3 : Int32)) dX8_knownByAny_17 (by decide) ?_
      refine ab_callV C (k := 0) (n := 0) (rest := [.int y1]) [.int y2, .int (3 : Int32)] cl_X8_60 (mt_X8_its  hw f) rfl (by decide) kd_105 (wf_lt hw kd_105 rfl) ⟨rfl, rfl, Nat.le_of_ble_eq_true rfl, Nat.le_of_ble_eq_true rfl, Nat.zero_le _, Nat.zero_le _⟩ rfl rfl (Nat.le_of_ble_eq_true rfl) dX8_knownByAny_18 (ab_kp (k := 0) (n := 0) (fun v_2 f => ?_))
      refine ab_ior C dX8_knownByAny_21 ?_
      refine ab_istore_n C (lv' := [(1, .int (y1 ||| v_2)), (0, .ref (G.1 + 105)), (2, .int y2)]) dX8_knownByAny_22 rfl (by decide) rfl ?_
      refine ab_iinc C (lv' := [(2, .int (y2 + (1 : Int32))), (1, .int (y1 ||| v_2)), (0, .ref (G.1 + 105))]) 2 (v := (y2 + (1 : Int32))) dX8_knownByAny_23 rfl rfl (by decide) rfl ?_
      refine ab_goto C (tgt := 4) dX8_knownByAny_26 (by decide) ?_
      refine ab_sub (lv' := [(0, .ref (G.1 + 105)), (1, .int (y1 ||| v_2)), (2, .int (y2 + (1 : Int32)))]) [2, 1, 0] rfl ?_
      exact ih (y1 ||| v_2) (y2 + (1 : Int32))   f
def wp_X8_knownByAny (h : hp_T) (Q : Int32 → Prop) : Prop :=
  (∃ n0, wp_X8_knownByAny_L4 h Q  n0 (0 : Int32) (0 : Int32))
set_option maxRecDepth 100000 in
set_option maxHeartbeats 4000000 in
theorem mt_X8_knownByAny {l : Launch} {G : ab_G}  {h : hp_T} {Q : Int32 → Prop} (hw : wf h) (f : wp_X8_knownByAny h Q) : ab_M l G yX8_knownByAny cX8_knownByAny 3 (some .int) rm_X8_knownByAny 0 0 [.ref (G.1 + 105)] h (po_p h Q) := by
  refine ab_intro (own := RX8) (nm := "knownByAny") rfl rfl rfl (Nat.le_of_ble_eq_true rfl) (fun F C => ?_)
  show ab_W l G F 3 (ab_MQ G F (po_p h Q) 0 0) 0 0 h [(0, .ref (G.1 + 105))] [] 0
  unfold wp_X8_knownByAny at f
  refine ab_iconst C (v := (0 : Int32)) dX8_knownByAny_0 (by decide) ?_
  refine ab_istore_n C (lv' := [(1, .int (0 : Int32)), (0, .ref (G.1 + 105))]) dX8_knownByAny_1 rfl (by decide) rfl ?_
  refine ab_iconst C (v := (0 : Int32)) dX8_knownByAny_2 (by decide) ?_
  refine ab_istore_n C (lv' := [(2, .int (0 : Int32)), (1, .int (0 : Int32)), (0, .ref (G.1 + 105))]) dX8_knownByAny_3 rfl (by decide) rfl ?_
  obtain ⟨n0, f⟩ := f
  refine ab_sub (lv' := [(0, .ref (G.1 + 105)), (1, .int (0 : Int32)), (2, .int (0 : Int32))]) [2, 1, 0] rfl ?_
  exact bt_X8_knownByAny_L4 C  hw  n0 (0 : Int32) (0 : Int32)   f
/-! X8_count -/
def rm_X8_count : Room := { frames := 5, cells := 0, slots := 0, locals := 165 }
def wp_X8_count (x1 : Int32) (h : hp_T) (Q : Int32 → hp_T → Prop) : Prop :=
  ((x1 = (0 : Int32) → (vp_in x1 357) ∧ (Q (hp_i h 106 x1.toNatClampNeg) h)) ∧ (¬ (x1 = (0 : Int32)) → ((x1 = (1 : Int32) → (vp_in x1 357) ∧ (Q (hp_i h 106 x1.toNatClampNeg) h)) ∧ (¬ (x1 = (1 : Int32)) → ((x1 = (2 : Int32) → (vp_in x1 357) ∧ (Q (hp_i h 106 x1.toNatClampNeg) h)) ∧ (¬ (x1 = (2 : Int32)) → ((x1 = (3 : Int32) → (vp_in x1 357) ∧ (Q (hp_i h 106 x1.toNatClampNeg) h)) ∧ (¬ (x1 = (3 : Int32)) → ((x1 = (4 : Int32) → wp_X8_knownByAny h (fun v_10 => (Q v_10 h))) ∧ (¬ (x1 = (4 : Int32)) → ((x1 = (5 : Int32) → (Q (hp_i h 106 4) h)) ∧ (¬ (x1 = (5 : Int32)) → ((x1 = (6 : Int32) → (Q (hp_i h 106 5) h)) ∧ (¬ (x1 = (6 : Int32)) → ((x1 = (7 : Int32) → (Q (hp_i h 106 7) h)) ∧ (¬ (x1 = (7 : Int32)) → ((x1 = (8 : Int32) → (Q (hp_i h 106 8) h)) ∧ (¬ (x1 = (8 : Int32)) → ((x1 = (9 : Int32) → (Q (hp_i h 105 15) h)) ∧ (¬ (x1 = (9 : Int32)) → ((x1 = (10 : Int32) → (Q (hp_i h 106 6) h)) ∧ (¬ (x1 = (10 : Int32)) → wp_X8_errs (-1000000001 : Int32) h (fun v_17 h_18 => (Q v_17 h_18))))))))))))))))))))))))
set_option maxRecDepth 100000 in
set_option maxHeartbeats 4000000 in
theorem mt_X8_count {l : Launch} {G : ab_G} {x1 : Int32} {h : hp_T} {Q : Int32 → hp_T → Prop} (hw : wf h) (f : wp_X8_count x1 h Q) : ab_M l G yX8_count cX8_count 2 (some .int) rm_X8_count 0 0 [.ref (G.1 + 105), .int x1] h (po_h Q) := by
  refine ab_intro (own := RX8) (nm := "count") rfl rfl rfl (Nat.le_of_ble_eq_true rfl) (fun F C => ?_)
  show ab_W l G F 2 (ab_MQ G F (po_h Q) 0 0) 0 0 h [(0, .ref (G.1 + 105)), (1, .int x1)] [] 0
  unfold wp_X8_count at f
  refine ab_iload_n C 1 dX8_count_0 rfl rfl ?_
  by_cases c_1 : x1 = (0 : Int32)
  · have f := f.1 c_1
    refine ab_tabC C (off := 59) (tgt := 60) dX8_count_1 c_1 (by decide) (by decide) (by decide) (by decide) ?_
    refine ab_aload_n C 0 dX8_count_60 rfl rfl ?_
    refine ab_getR C (q := 106) fl_X8_7 rfl kd_105 (wf_lt hw kd_105 rfl) (wr_8_0 hw) dX8_count_61 ?_
    refine ab_iload_n C 1 dX8_count_64 rfl rfl ?_
    obtain ⟨c_2, f⟩ := f
    refine ab_iald C (by rw [kd_106]; decide) (wf_lt hw kd_106 rfl) (wf_len hw kd_106 rfl rfl (by decide)) c_2 (j := x1.toNatClampNeg) rfl dX8_count_65 ?_
    exact ab_iret C dX8_count_66 ⟨hw, _, rfl, f⟩
  have f := f.2 c_1
  by_cases c_3 : x1 = (1 : Int32)
  · have f := f.1 c_3
    refine ab_tabC C (off := 59) (tgt := 60) dX8_count_1 c_3 (by decide) (by decide) (by decide) (by decide) ?_
    refine ab_aload_n C 0 dX8_count_60 rfl rfl ?_
    refine ab_getR C (q := 106) fl_X8_7 rfl kd_105 (wf_lt hw kd_105 rfl) (wr_8_0 hw) dX8_count_61 ?_
    refine ab_iload_n C 1 dX8_count_64 rfl rfl ?_
    obtain ⟨c_4, f⟩ := f
    refine ab_iald C (by rw [kd_106]; decide) (wf_lt hw kd_106 rfl) (wf_len hw kd_106 rfl rfl (by decide)) c_4 (j := x1.toNatClampNeg) rfl dX8_count_65 ?_
    exact ab_iret C dX8_count_66 ⟨hw, _, rfl, f⟩
  have f := f.2 c_3
  by_cases c_5 : x1 = (2 : Int32)
  · have f := f.1 c_5
    refine ab_tabC C (off := 59) (tgt := 60) dX8_count_1 c_5 (by decide) (by decide) (by decide) (by decide) ?_
    refine ab_aload_n C 0 dX8_count_60 rfl rfl ?_
    refine ab_getR C (q := 106) fl_X8_7 rfl kd_105 (wf_lt hw kd_105 rfl) (wr_8_0 hw) dX8_count_61 ?_
    refine ab_iload_n C 1 dX8_count_64 rfl rfl ?_
    obtain ⟨c_6, f⟩ := f
    refine ab_iald C (by rw [kd_106]; decide) (wf_lt hw kd_106 rfl) (wf_len hw kd_106 rfl rfl (by decide)) c_6 (j := x1.toNatClampNeg) rfl dX8_count_65 ?_
    exact ab_iret C dX8_count_66 ⟨hw, _, rfl, f⟩
  have f := f.2 c_5
  by_cases c_7 : x1 = (3 : Int32)
  · have f := f.1 c_7
    refine ab_tabC C (off := 59) (tgt := 60) dX8_count_1 c_7 (by decide) (by decide) (by decide) (by decide) ?_
    refine ab_aload_n C 0 dX8_count_60 rfl rfl ?_
    refine ab_getR C (q := 106) fl_X8_7 rfl kd_105 (wf_lt hw kd_105 rfl) (wr_8_0 hw) dX8_count_61 ?_
    refine ab_iload_n C 1 dX8_count_64 rfl rfl ?_
    obtain ⟨c_8, f⟩ := f
    refine ab_iald C (by rw [kd_106]; decide) (wf_lt hw kd_106 rfl) (wf_len hw kd_106 rfl rfl (by decide)) c_8 (j := x1.toNatClampNeg) rfl dX8_count_65 ?_
    exact ab_iret C dX8_count_66 ⟨hw, _, rfl, f⟩
  have f := f.2 c_7
  by_cases c_9 : x1 = (4 : Int32)
  · have f := f.1 c_9
    refine ab_tabC C (off := 66) (tgt := 67) dX8_count_1 c_9 (by decide) (by decide) (by decide) (by decide) ?_
    refine ab_aload_n C 0 dX8_count_67 rfl rfl ?_
    refine ab_callV C (k := 0) (n := 0) (rest := []) [] cl_X8_315 (mt_X8_knownByAny  hw f) rfl (by decide) kd_105 (wf_lt hw kd_105 rfl) ⟨rfl, rfl, Nat.le_of_ble_eq_true rfl, Nat.le_of_ble_eq_true rfl, Nat.zero_le _, Nat.zero_le _⟩ rfl rfl (Nat.le_of_ble_eq_true rfl) dX8_count_68 (ab_kp (k := 0) (n := 0) (fun v_10 f => ?_))
    exact ab_iret C dX8_count_71 ⟨hw, _, rfl, f⟩
  have f := f.2 c_9
  by_cases c_11 : x1 = (5 : Int32)
  · have f := f.1 c_11
    refine ab_tabC C (off := 71) (tgt := 72) dX8_count_1 c_11 (by decide) (by decide) (by decide) (by decide) ?_
    refine ab_aload_n C 0 dX8_count_72 rfl rfl ?_
    refine ab_getR C (q := 106) fl_X8_7 rfl kd_105 (wf_lt hw kd_105 rfl) (wr_8_0 hw) dX8_count_73 ?_
    refine ab_iconst C (v := (4 : Int32)) dX8_count_76 (by decide) ?_
    refine ab_iald C (by rw [kd_106]; decide) (wf_lt hw kd_106 rfl) (wf_len hw kd_106 rfl rfl (by decide)) (vp_lit (by decide)) (j := 4) (by decide) dX8_count_77 ?_
    exact ab_iret C dX8_count_78 ⟨hw, _, rfl, f⟩
  have f := f.2 c_11
  by_cases c_12 : x1 = (6 : Int32)
  · have f := f.1 c_12
    refine ab_tabC C (off := 78) (tgt := 79) dX8_count_1 c_12 (by decide) (by decide) (by decide) (by decide) ?_
    refine ab_aload_n C 0 dX8_count_79 rfl rfl ?_
    refine ab_getR C (q := 106) fl_X8_7 rfl kd_105 (wf_lt hw kd_105 rfl) (wr_8_0 hw) dX8_count_80 ?_
    refine ab_iconst C (v := (5 : Int32)) dX8_count_83 (by decide) ?_
    refine ab_iald C (by rw [kd_106]; decide) (wf_lt hw kd_106 rfl) (wf_len hw kd_106 rfl rfl (by decide)) (vp_lit (by decide)) (j := 5) (by decide) dX8_count_84 ?_
    exact ab_iret C dX8_count_85 ⟨hw, _, rfl, f⟩
  have f := f.2 c_12
  by_cases c_13 : x1 = (7 : Int32)
  · have f := f.1 c_13
    refine ab_tabC C (off := 85) (tgt := 86) dX8_count_1 c_13 (by decide) (by decide) (by decide) (by decide) ?_
    refine ab_aload_n C 0 dX8_count_86 rfl rfl ?_
    refine ab_getR C (q := 106) fl_X8_7 rfl kd_105 (wf_lt hw kd_105 rfl) (wr_8_0 hw) dX8_count_87 ?_
    refine ab_bipush C (v := (7 : Int32)) dX8_count_90 (by decide) ?_
    refine ab_iald C (by rw [kd_106]; decide) (wf_lt hw kd_106 rfl) (wf_len hw kd_106 rfl rfl (by decide)) (vp_lit (by decide)) (j := 7) (by decide) dX8_count_92 ?_
    exact ab_iret C dX8_count_93 ⟨hw, _, rfl, f⟩
  have f := f.2 c_13
  by_cases c_14 : x1 = (8 : Int32)
  · have f := f.1 c_14
    refine ab_tabC C (off := 93) (tgt := 94) dX8_count_1 c_14 (by decide) (by decide) (by decide) (by decide) ?_
    refine ab_aload_n C 0 dX8_count_94 rfl rfl ?_
    refine ab_getR C (q := 106) fl_X8_7 rfl kd_105 (wf_lt hw kd_105 rfl) (wr_8_0 hw) dX8_count_95 ?_
    refine ab_bipush C (v := (8 : Int32)) dX8_count_98 (by decide) ?_
    refine ab_iald C (by rw [kd_106]; decide) (wf_lt hw kd_106 rfl) (wf_len hw kd_106 rfl rfl (by decide)) (vp_lit (by decide)) (j := 8) (by decide) dX8_count_100 ?_
    exact ab_iret C dX8_count_101 ⟨hw, _, rfl, f⟩
  have f := f.2 c_14
  by_cases c_15 : x1 = (9 : Int32)
  · have f := f.1 c_15
    refine ab_tabC C (off := 101) (tgt := 102) dX8_count_1 c_15 (by decide) (by decide) (by decide) (by decide) ?_
    refine ab_aload_n C 0 dX8_count_102 rfl rfl ?_
    refine ab_getI C fl_X8_278 rfl kd_105 (wf_lt hw kd_105 rfl) dX8_count_103 ?_
    exact ab_iret C dX8_count_106 ⟨hw, _, rfl, f⟩
  have f := f.2 c_15
  by_cases c_16 : x1 = (10 : Int32)
  · have f := f.1 c_16
    refine ab_tabC C (off := 106) (tgt := 107) dX8_count_1 c_16 (by decide) (by decide) (by decide) (by decide) ?_
    refine ab_aload_n C 0 dX8_count_107 rfl rfl ?_
    refine ab_getR C (q := 106) fl_X8_7 rfl kd_105 (wf_lt hw kd_105 rfl) (wr_8_0 hw) dX8_count_108 ?_
    refine ab_bipush C (v := (6 : Int32)) dX8_count_111 (by decide) ?_
    refine ab_iald C (by rw [kd_106]; decide) (wf_lt hw kd_106 rfl) (wf_len hw kd_106 rfl rfl (by decide)) (vp_lit (by decide)) (j := 6) (by decide) dX8_count_113 ?_
    exact ab_iret C dX8_count_114 ⟨hw, _, rfl, f⟩
  have f := f.2 c_16
  refine ab_tabOut C (tgt := 115) dX8_count_1 (ab_tout (fun j j1 j2 => ?_)) (by decide) ?_
  · have hh : j = 0 ∨ j = 1 ∨ j = 2 ∨ j = 3 ∨ j = 4 ∨ j = 5 ∨ j = 6 ∨ j = 7 ∨ j = 8 ∨ j = 9 ∨ j = 10 := by omega
    rcases hh with rfl | rfl | rfl | rfl | rfl | rfl | rfl | rfl | rfl | rfl | rfl
    · exact ab_ne c_1
    · exact ab_ne c_3
    · exact ab_ne c_5
    · exact ab_ne c_7
    · exact ab_ne c_9
    · exact ab_ne c_11
    · exact ab_ne c_12
    · exact ab_ne c_13
    · exact ab_ne c_14
    · exact ab_ne c_15
    · exact ab_ne c_16
  · skip
    refine ab_aload_n C 0 dX8_count_115 rfl rfl ?_
    refine ab_ldc C kw_t821 dX8_count_116 ?_
    refine ab_callV C (k := 0) (n := 0) (rest := []) [.int (-1000000001 : Int32)] cl_X8_84 (mt_X8_errs  hw f) rfl (by decide) kd_105 (wf_lt hw kd_105 rfl) ⟨rfl, rfl, Nat.le_of_ble_eq_true rfl, Nat.le_of_ble_eq_true rfl, Nat.zero_le _, Nat.zero_le _⟩ rfl rfl (Nat.le_of_ble_eq_true rfl) dX8_count_118 (ab_kh (k := 0) (n := 0) (fun v_17 h_18 hw_19 f => ?_))
    exact ab_iret C dX8_count_121 ⟨hw_19, _, rfl, f⟩
/-! X8_daysGo -/
def rm_X8_daysGo : Room := { frames := 7, cells := 0, slots := 0, locals := 222 }
def wp_X8_daysGo_L12 (x1 : Int32) (x2 : Int32) (Q : hp_T → Prop) : Nat → Int32 → hp_T → Prop
  | 0 => fun _ _ => False
  | nn + 1 => fun y3 h => ((x1 ≤ y3 → (Q h)) ∧ (¬ (x1 ≤ y3) → wp_X8_day x2 h (fun h_8 => (wp_X8_daysGo_L12 x1 x2 Q nn) (y3 + (1 : Int32)) h_8)))
set_option maxRecDepth 100000 in
set_option maxHeartbeats 4000000 in
theorem bt_X8_daysGo_L12 {l : Launch} {G : ab_G} {F : ab_F} {x1 : Int32} {x2 : Int32} {Q : hp_T → Prop}  (C : ab_C G F rm_X8_daysGo cX8_daysGo 4 RX8 none "daysGo")   : ∀ (nn : Nat) (y3 : Int32) (h : hp_T), wf h → wp_X8_daysGo_L12 x1 x2 Q nn y3 h → ab_W l G F 4 (ab_MQ G F (po_v Q) 0 0) 0 0 h [(0, .ref (G.1 + 105)), (1, .int x1), (2, .int x2), (3, .int y3)] [] 12 := by
  intro nn
  induction nn with
  | zero =>
    intro y3 h hw f
    exact absurd f id
  | succ nn ih =>
    intro y3 h hw f
    unfold wp_X8_daysGo_L12 at f
    refine ab_iload_n C 3 dX8_daysGo_12 rfl rfl ?_
    refine ab_iload_n C 1 dX8_daysGo_13 rfl rfl ?_
    refine ab_icmp_ge C (tgt := 28) dX8_daysGo_14 (by decide) (fun c_7 => ?_) (fun c_7 => ?_)
    · have f := f.1 c_7
      exact ab_vret C dX8_daysGo_28 ⟨hw, rfl, f⟩
    · have f := f.2 c_7
      refine ab_aload_n C 0 dX8_daysGo_17 rfl rfl ?_
      refine ab_iload_n C 2 dX8_daysGo_18 rfl rfl ?_
      refine ab_callV C (k := 0) (n := 0) (rest := []) [.int x2] cl_X8_238 (mt_X8_day  hw f) rfl (by decide) kd_105 (wf_lt hw kd_105 rfl) ⟨rfl, rfl, Nat.le_of_ble_eq_true rfl, Nat.le_of_ble_eq_true rfl, Nat.zero_le _, Nat.zero_le _⟩ rfl rfl (Nat.le_of_ble_eq_true rfl) dX8_daysGo_19 (ab_kv (k := 0) (n := 0) (fun h_8 hw_9 f => ?_))
      refine ab_iinc C (lv' := [(3, .int (y3 + (1 : Int32))), (0, .ref (G.1 + 105)), (1, .int x1), (2, .int x2)]) 3 (v := (y3 + (1 : Int32))) dX8_daysGo_22 rfl rfl (by decide) rfl ?_
      refine ab_goto C (tgt := 12) dX8_daysGo_25 (by decide) ?_
      refine ab_sub (lv' := [(0, .ref (G.1 + 105)), (1, .int x1), (2, .int x2), (3, .int (y3 + (1 : Int32)))]) [1, 2, 3, 0] rfl ?_
      exact ih (y3 + (1 : Int32)) h_8  hw_9 f
def wp_X8_daysGo (x1 : Int32) (x2 : Int32) (h : hp_T) (Q : hp_T → Prop) : Prop :=
  (∀ h_1, h_1 = hp_si h 105 12 (0 : Int32) → (∀ h_4, h_4 = hp_si h_1 105 13 (0 : Int32) → (∃ n0, wp_X8_daysGo_L12 x1 x2 Q  n0 (0 : Int32) h_4)))
set_option maxRecDepth 100000 in
set_option maxHeartbeats 4000000 in
theorem mt_X8_daysGo {l : Launch} {G : ab_G} {x1 : Int32} {x2 : Int32} {h : hp_T} {Q : hp_T → Prop} (hw : wf h) (f : wp_X8_daysGo x1 x2 h Q) : ab_M l G yX8_daysGo cX8_daysGo 4 none rm_X8_daysGo 0 0 [.ref (G.1 + 105), .int x1, .int x2] h (po_v Q) := by
  refine ab_intro (own := RX8) (nm := "daysGo") rfl rfl rfl (Nat.le_of_ble_eq_true rfl) (fun F C => ?_)
  show ab_W l G F 4 (ab_MQ G F (po_v Q) 0 0) 0 0 h [(0, .ref (G.1 + 105)), (1, .int x1), (2, .int x2)] [] 0
  unfold wp_X8_daysGo at f
  refine ab_aload_n C 0 dX8_daysGo_0 rfl rfl ?_
  refine ab_iconst C (v := (0 : Int32)) dX8_daysGo_1 (by decide) ?_
  refine ab_putI C fl_X8_215 rfl kd_105 (wf_lt hw kd_105 rfl) rfl rfl dX8_daysGo_2 (fun h_1 e_2 => ?_)
  have f := f h_1 e_2
  have hw_3 := wf_si e_2 hw
  refine ab_aload_n C 0 dX8_daysGo_5 rfl rfl ?_
  refine ab_iconst C (v := (0 : Int32)) dX8_daysGo_6 (by decide) ?_
  refine ab_putI C fl_X8_227 rfl kd_105 (wf_lt hw_3 kd_105 rfl) rfl rfl dX8_daysGo_7 (fun h_4 e_5 => ?_)
  have f := f h_4 e_5
  have hw_6 := wf_si e_5 hw_3
  refine ab_iconst C (v := (0 : Int32)) dX8_daysGo_10 (by decide) ?_
  refine ab_istore_n C (lv' := [(3, .int (0 : Int32)), (0, .ref (G.1 + 105)), (1, .int x1), (2, .int x2)]) dX8_daysGo_11 rfl (by decide) rfl ?_
  obtain ⟨n0, f⟩ := f
  refine ab_sub (lv' := [(0, .ref (G.1 + 105)), (1, .int x1), (2, .int x2), (3, .int (0 : Int32))]) [1, 2, 3, 0] rfl ?_
  exact bt_X8_daysGo_L12 C    n0 (0 : Int32) h_4  hw_6 f
/-! X8_isSpan -/
def rm_X8_isSpan : Room := { frames := 3, cells := 0, slots := 0, locals := 125 }
def wp_X8_isSpan (x0 : Int32) (h : hp_T) (Q : Int32 → Prop) : Prop :=
  wp_X8_in x0.toInt64 (1 : Int64) (90 : Int64) h (fun v_1 => (bo_ok v_1) ∧ (Q v_1))
set_option maxRecDepth 100000 in
set_option maxHeartbeats 4000000 in
theorem mt_X8_isSpan {l : Launch} {G : ab_G} {x0 : Int32} {h : hp_T} {Q : Int32 → Prop} (hw : wf h) (f : wp_X8_isSpan x0 h Q) : ab_M l G yX8_isSpan cX8_isSpan 1 (some .boolean) rm_X8_isSpan 0 0 [.int x0] h (po_p h Q) := by
  refine ab_intro (own := RX8) (nm := "isSpan") rfl rfl rfl (Nat.le_of_ble_eq_true rfl) (fun F C => ?_)
  show ab_W l G F 1 (ab_MQ G F (po_p h Q) 0 0) 0 0 h [(0, .int x0)] [] 0
  unfold wp_X8_isSpan at f
  refine ab_iload_n C 0 dX8_isSpan_0 rfl rfl ?_
  refine ab_i2l C dX8_isSpan_1 ?_
  refine ab_lconst C (v := (1 : Int64)) dX8_isSpan_2 (by decide) ?_
  refine ab_ldc2 C kw_t1020 dX8_isSpan_3 ?_
  refine ab_callS C (k := 0) (n := 0) (rest := []) [.long x0.toInt64, .long (1 : Int64), .long (90 : Int64)] cl_X8_44 (mt_X8_in  hw f) ⟨rfl, rfl, Nat.le_of_ble_eq_true rfl, Nat.le_of_ble_eq_true rfl, Nat.zero_le _, Nat.zero_le _⟩ rfl rfl (Nat.le_of_ble_eq_true rfl) dX8_isSpan_6 (ab_kp (k := 0) (n := 0) (fun v_1 f => ?_))
  obtain ⟨c_2, f⟩ := f
  exact ab_zret C dX8_isSpan_9 (bo_nar c_2) ⟨rfl, _, rfl, f⟩
/-! X8_daysWrong -/
def rm_X8_daysWrong : Room := { frames := 4, cells := 0, slots := 0, locals := 145 }
def wp_X8_daysWrong (x1 : Int32) (h : hp_T) (Q : Int32 → Prop) : Prop :=
  wp_X8_isSpan x1 h (fun v_1 => ((v_1 = 0 → (Q (-1000000001 : Int32))) ∧ (¬ (v_1 = 0) → ((((hp_i h 106 3) + x1) ≤ (9999 : Int32) → (Q (0 : Int32))) ∧ (¬ (((hp_i h 106 3) + x1) ≤ (9999 : Int32)) → (Q (-1000000003 : Int32)))))))
set_option maxRecDepth 100000 in
set_option maxHeartbeats 4000000 in
theorem mt_X8_daysWrong {l : Launch} {G : ab_G} {x1 : Int32} {h : hp_T} {Q : Int32 → Prop} (hw : wf h) (f : wp_X8_daysWrong x1 h Q) : ab_M l G yX8_daysWrong cX8_daysWrong 2 (some .int) rm_X8_daysWrong 0 0 [.ref (G.1 + 105), .int x1] h (po_p h Q) := by
  refine ab_intro (own := RX8) (nm := "daysWrong") rfl rfl rfl (Nat.le_of_ble_eq_true rfl) (fun F C => ?_)
  show ab_W l G F 2 (ab_MQ G F (po_p h Q) 0 0) 0 0 h [(0, .ref (G.1 + 105)), (1, .int x1)] [] 0
  unfold wp_X8_daysWrong at f
  refine ab_iload_n C 1 dX8_daysWrong_0 rfl rfl ?_
  refine ab_callS C (k := 0) (n := 0) (rest := []) [.int x1] cl_X8_244 (mt_X8_isSpan  hw f) ⟨rfl, rfl, Nat.le_of_ble_eq_true rfl, Nat.le_of_ble_eq_true rfl, Nat.zero_le _, Nat.zero_le _⟩ rfl rfl (Nat.le_of_ble_eq_true rfl) dX8_daysWrong_1 (ab_kp (k := 0) (n := 0) (fun v_1 f => ?_))
  refine ab_if_ne C (tgt := 12) dX8_daysWrong_4 (by decide) (fun c_2 => ?_) (fun c_2 => ?_)
  · have f := f.2 c_2
    refine ab_aload_n C 0 dX8_daysWrong_12 rfl rfl ?_
    refine ab_getR C (q := 106) fl_X8_7 rfl kd_105 (wf_lt hw kd_105 rfl) (wr_8_0 hw) dX8_daysWrong_13 ?_
    refine ab_iconst C (v := (3 : Int32)) dX8_daysWrong_16 (by decide) ?_
    refine ab_iald C (by rw [kd_106]; decide) (wf_lt hw kd_106 rfl) (wf_len hw kd_106 rfl rfl (by decide)) (vp_lit (by decide)) (j := 3) (by decide) dX8_daysWrong_17 ?_
    refine ab_iload_n C 1 dX8_daysWrong_18 rfl rfl ?_
    refine ab_iadd C dX8_daysWrong_19 ?_
    refine ab_sipush C (v := (9999 : Int32)) dX8_daysWrong_20 (by decide) ?_
    refine ab_icmp_le C (tgt := 31) dX8_daysWrong_23 (by decide) (fun c_3 => ?_) (fun c_3 => ?_)
    · have f := f.1 c_3
      refine ab_iconst C (v := (0 : Int32)) dX8_daysWrong_31 (by decide) ?_
      exact ab_iret C dX8_daysWrong_32 ⟨rfl, _, rfl, f⟩
    · have f := f.2 c_3
      refine ab_ldc C kw_t1021 dX8_daysWrong_26 ?_
      refine ab_goto C (tgt := 32) dX8_daysWrong_28 (by decide) ?_
      exact ab_iret C dX8_daysWrong_32 ⟨rfl, _, rfl, f⟩
  · have f := f.1 c_2
    refine ab_ldc C kw_t821 dX8_daysWrong_7 ?_
    refine ab_goto C (tgt := 32) dX8_daysWrong_9 (by decide) ?_
    exact ab_iret C dX8_daysWrong_32 ⟨rfl, _, rfl, f⟩
/-! X8_days -/
def rm_X8_days : Room := { frames := 8, cells := 0, slots := 0, locals := 245 }
def wp_X8_days (x1 : Int32) (h : hp_T) (Q : Int32 → hp_T → Prop) : Prop :=
  wp_X8_daysWrong x1 h (fun v_1 => ((v_1 = 0 → wp_X8_daysGo x1 (0 : Int32) h (fun h_3 => (Q (hp_i h_3 105 12) h_3))) ∧ (¬ (v_1 = 0) → wp_X8_errs v_1 h (fun v_5 h_6 => (Q v_5 h_6)))))
set_option maxRecDepth 100000 in
set_option maxHeartbeats 4000000 in
theorem mt_X8_days {l : Launch} {G : ab_G} {x1 : Int32} {h : hp_T} {Q : Int32 → hp_T → Prop} (hw : wf h) (f : wp_X8_days x1 h Q) : ab_M l G yX8_days cX8_days 3 (some .int) rm_X8_days 0 0 [.ref (G.1 + 105), .int x1] h (po_h Q) := by
  refine ab_intro (own := RX8) (nm := "days") rfl rfl rfl (Nat.le_of_ble_eq_true rfl) (fun F C => ?_)
  show ab_W l G F 3 (ab_MQ G F (po_h Q) 0 0) 0 0 h [(0, .ref (G.1 + 105)), (1, .int x1)] [] 0
  unfold wp_X8_days at f
  refine ab_aload_n C 0 dX8_days_0 rfl rfl ?_
  refine ab_iload_n C 1 dX8_days_1 rfl rfl ?_
  refine ab_callV C (k := 0) (n := 0) (rest := []) [.int x1] cl_X8_248 (mt_X8_daysWrong  hw f) rfl (by decide) kd_105 (wf_lt hw kd_105 rfl) ⟨rfl, rfl, Nat.le_of_ble_eq_true rfl, Nat.le_of_ble_eq_true rfl, Nat.zero_le _, Nat.zero_le _⟩ rfl rfl (Nat.le_of_ble_eq_true rfl) dX8_days_2 (ab_kp (k := 0) (n := 0) (fun v_1 f => ?_))
  refine ab_istore_n C (lv' := [(2, .int v_1), (0, .ref (G.1 + 105)), (1, .int x1)]) dX8_days_5 rfl (by decide) rfl ?_
  refine ab_iload_n C 0 dX8_days_6 rfl rfl ?_
  refine ab_if_eq C (tgt := 16) dX8_days_7 (by decide) (fun c_2 => ?_) (fun c_2 => ?_)
  · have f := f.1 c_2
    refine ab_aload_n C 1 dX8_days_16 rfl rfl ?_
    refine ab_iload_n C 2 dX8_days_17 rfl rfl ?_
    refine ab_iconst C (v := (0 : Int32)) dX8_days_18 (by decide) ?_
    refine ab_callV C (k := 0) (n := 0) (rest := []) [.int x1, .int (0 : Int32)] cl_X8_251 (mt_X8_daysGo  hw f) rfl (by decide) kd_105 (wf_lt hw kd_105 rfl) ⟨rfl, rfl, Nat.le_of_ble_eq_true rfl, Nat.le_of_ble_eq_true rfl, Nat.zero_le _, Nat.zero_le _⟩ rfl rfl (Nat.le_of_ble_eq_true rfl) dX8_days_19 (ab_kv (k := 0) (n := 0) (fun h_3 hw_4 f => ?_))
    refine ab_aload_n C 1 dX8_days_22 rfl rfl ?_
    refine ab_getI C fl_X8_215 rfl kd_105 (wf_lt hw_4 kd_105 rfl) dX8_days_23 ?_
    exact ab_iret C dX8_days_26 ⟨hw_4, _, rfl, f⟩
  · have f := f.2 c_2
    refine ab_aload_n C 1 dX8_days_10 rfl rfl ?_
    refine ab_iload_n C 0 dX8_days_11 rfl rfl ?_
    refine ab_callV C (k := 0) (n := 0) (rest := []) [.int v_1] cl_X8_84 (mt_X8_errs  hw f) rfl (by decide) kd_105 (wf_lt hw kd_105 rfl) ⟨rfl, rfl, Nat.le_of_ble_eq_true rfl, Nat.le_of_ble_eq_true rfl, Nat.zero_le _, Nat.zero_le _⟩ rfl rfl (Nat.le_of_ble_eq_true rfl) dX8_days_12 (ab_kh (k := 0) (n := 0) (fun v_5 h_6 hw_7 f => ?_))
    exact ab_iret C dX8_days_15 ⟨hw_7, _, rfl, f⟩
/-! X8_doneIn -/
def rm_X8_doneIn : Room := { frames := 8, cells := 0, slots := 0, locals := 245 }
def wp_X8_doneIn_L18 (x1 : Int32) (x2 : Int32) (Q : Int32 → hp_T → Prop) : Nat → Int32 → Int32 → hp_T → Prop
  | 0 => fun _ _ _ => False
  | nn + 1 => fun y3 y4 h => (((4 : Int32) ≤ y4 → wp_X8_putsBack h (fun h_7 => (Q y3 h_7))) ∧ (¬ ((4 : Int32) ≤ y4) → wp_X8_ofTask y4 (2 : Int32) h (fun v_9 => (wp_X8_doneIn_L18 x1 x2 Q nn) (y3 + v_9) (y4 + (1 : Int32)) h)))
set_option maxRecDepth 100000 in
set_option maxHeartbeats 4000000 in
theorem bt_X8_doneIn_L18 {l : Launch} {G : ab_G} {F : ab_F} {x1 : Int32} {x2 : Int32} {Q : Int32 → hp_T → Prop}  (C : ab_C G F rm_X8_doneIn cX8_doneIn 5 RX8 (some .int) "doneIn")   : ∀ (nn : Nat) (y3 : Int32) (y4 : Int32) (h : hp_T), wf h → wp_X8_doneIn_L18 x1 x2 Q nn y3 y4 h → ab_W l G F 5 (ab_MQ G F (po_h Q) 0 0) 0 0 h [(0, .ref (G.1 + 105)), (3, .int y3), (4, .int y4)] [] 18 := by
  intro nn
  induction nn with
  | zero =>
    intro y3 y4 h hw f
    exact absurd f id
  | succ nn ih =>
    intro y3 y4 h hw f
    unfold wp_X8_doneIn_L18 at f
    refine ab_iload C 2 dX8_doneIn_18 rfl ?_
    refine ab_iconst C (v := (4 : Int32)) dX8_doneIn_20 (by decide) ?_
    refine ab_icmp_ge C (tgt := 40) dX8_doneIn_21 (by decide) (fun c_6 => ?_) (fun c_6 => ?_)
    · have f := f.1 c_6
      refine ab_aload_n C 0 dX8_doneIn_40 rfl rfl ?_
      refine ab_callV C (k := 0) (n := 0) (rest := []) [] cl_X8_259 (mt_X8_putsBack  hw f) rfl (by decide) kd_105 (wf_lt hw kd_105 rfl) ⟨rfl, rfl, Nat.le_of_ble_eq_true rfl, Nat.le_of_ble_eq_true rfl, Nat.zero_le _, Nat.zero_le _⟩ rfl rfl (Nat.le_of_ble_eq_true rfl) dX8_doneIn_41 (ab_kv (k := 0) (n := 0) (fun h_7 hw_8 f => ?_))
      refine ab_iload_n C 1 dX8_doneIn_44 rfl rfl ?_
      exact ab_iret C dX8_doneIn_45 ⟨hw_8, _, rfl, f⟩
    · have f := f.2 c_6
      refine ab_iload_n C 1 dX8_doneIn_24 rfl rfl ?_
      refine ab_aload_n C 0 dX8_doneIn_25 rfl rfl ?_
      refine ab_iload C 2 dX8_doneIn_26 rfl ?_
      refine ab_iconst C (v := (2 : Int32)) dX8_doneIn_28 (by decide) ?_
      refine ab_callV C (k := 0) (n := 0) (rest := [.int y3]) [.int y4, .int (2 : Int32)] cl_X8_136 (mt_X8_ofTask  hw f) rfl (by decide) kd_105 (wf_lt hw kd_105 rfl) ⟨rfl, rfl, Nat.le_of_ble_eq_true rfl, Nat.le_of_ble_eq_true rfl, Nat.zero_le _, Nat.zero_le _⟩ rfl rfl (Nat.le_of_ble_eq_true rfl) dX8_doneIn_29 (ab_kp (k := 0) (n := 0) (fun v_9 f => ?_))
      refine ab_iadd C dX8_doneIn_32 ?_
      refine ab_istore_n C (lv' := [(3, .int (y3 + v_9)), (0, .ref (G.1 + 105)), (4, .int y4)]) dX8_doneIn_33 rfl (by decide) rfl ?_
      refine ab_iinc C (lv' := [(4, .int (y4 + (1 : Int32))), (3, .int (y3 + v_9)), (0, .ref (G.1 + 105))]) 2 (v := (y4 + (1 : Int32))) dX8_doneIn_34 rfl rfl (by decide) rfl ?_
      refine ab_goto C (tgt := 18) dX8_doneIn_37 (by decide) ?_
      refine ab_sub (lv' := [(0, .ref (G.1 + 105)), (3, .int (y3 + v_9)), (4, .int (y4 + (1 : Int32)))]) [2, 1, 0] rfl ?_
      exact ih (y3 + v_9) (y4 + (1 : Int32)) h  hw f
def wp_X8_doneIn (x1 : Int32) (x2 : Int32) (h : hp_T) (Q : Int32 → hp_T → Prop) : Prop :=
  (∀ h_1, h_1 = hp_si h 106 4 x2 → wp_X8_daysGo x1 (0 : Int32) h_1 (fun h_4 => (∃ n0, wp_X8_doneIn_L18 x1 x2 Q  n0 (0 : Int32) (0 : Int32) h_4)))
set_option maxRecDepth 100000 in
set_option maxHeartbeats 4000000 in
theorem mt_X8_doneIn {l : Launch} {G : ab_G} {x1 : Int32} {x2 : Int32} {h : hp_T} {Q : Int32 → hp_T → Prop} (hw : wf h) (f : wp_X8_doneIn x1 x2 h Q) : ab_M l G yX8_doneIn cX8_doneIn 5 (some .int) rm_X8_doneIn 0 0 [.ref (G.1 + 105), .int x1, .int x2] h (po_h Q) := by
  refine ab_intro (own := RX8) (nm := "doneIn") rfl rfl rfl (Nat.le_of_ble_eq_true rfl) (fun F C => ?_)
  show ab_W l G F 5 (ab_MQ G F (po_h Q) 0 0) 0 0 h [(0, .ref (G.1 + 105)), (1, .int x1), (2, .int x2)] [] 0
  unfold wp_X8_doneIn at f
  refine ab_aload_n C 0 dX8_doneIn_0 rfl rfl ?_
  refine ab_getR C (q := 106) fl_X8_7 rfl kd_105 (wf_lt hw kd_105 rfl) (wr_8_0 hw) dX8_doneIn_1 ?_
  refine ab_iconst C (v := (4 : Int32)) dX8_doneIn_4 (by decide) ?_
  refine ab_iload_n C 2 dX8_doneIn_5 rfl rfl ?_
  refine ab_iast C (by rw [kd_106]; decide) (wf_lt hw kd_106 rfl) (wf_len hw kd_106 rfl rfl (by decide)) (vp_lit (by decide)) (j := 4) (by decide) dX8_doneIn_6 (fun h_1 e_2 => ?_)
  have f := f h_1 e_2
  have hw_3 := wf_si e_2 hw
  refine ab_aload_n C 0 dX8_doneIn_7 rfl rfl ?_
  refine ab_iload_n C 1 dX8_doneIn_8 rfl rfl ?_
  refine ab_iconst C (v := (0 : Int32)) dX8_doneIn_9 (by decide) ?_
  refine ab_callV C (k := 0) (n := 0) (rest := []) [.int x1, .int (0 : Int32)] cl_X8_251 (mt_X8_daysGo  hw_3 f) rfl (by decide) kd_105 (wf_lt hw_3 kd_105 rfl) ⟨rfl, rfl, Nat.le_of_ble_eq_true rfl, Nat.le_of_ble_eq_true rfl, Nat.zero_le _, Nat.zero_le _⟩ rfl rfl (Nat.le_of_ble_eq_true rfl) dX8_doneIn_10 (ab_kv (k := 0) (n := 0) (fun h_4 hw_5 f => ?_))
  refine ab_iconst C (v := (0 : Int32)) dX8_doneIn_13 (by decide) ?_
  refine ab_istore_n C (lv' := [(3, .int (0 : Int32)), (0, .ref (G.1 + 105)), (1, .int x1), (2, .int x2)]) dX8_doneIn_14 rfl (by decide) rfl ?_
  refine ab_iconst C (v := (0 : Int32)) dX8_doneIn_15 (by decide) ?_
  refine ab_istore C (lv' := [(4, .int (0 : Int32)), (3, .int (0 : Int32)), (0, .ref (G.1 + 105)), (1, .int x1), (2, .int x2)]) dX8_doneIn_16 (by decide) rfl ?_
  obtain ⟨n0, f⟩ := f
  refine ab_sub (lv' := [(0, .ref (G.1 + 105)), (3, .int (0 : Int32)), (4, .int (0 : Int32))]) [2, 1, 0] rfl ?_
  exact bt_X8_doneIn_L18 C    n0 (0 : Int32) (0 : Int32) h_4  hw_5 f
/-! X8_draws -/
def rm_X8_draws : Room := { frames := 8, cells := 0, slots := 0, locals := 245 }
def wp_X8_draws (x1 : Int32) (h : hp_T) (Q : Int32 → hp_T → Prop) : Prop :=
  wp_X8_daysWrong x1 h (fun v_1 => ((v_1 = 0 → wp_X8_daysGo x1 (1 : Int32) h (fun h_3 => (Q (hp_i h_3 105 13) h_3))) ∧ (¬ (v_1 = 0) → wp_X8_errs v_1 h (fun v_5 h_6 => (Q v_5 h_6)))))
set_option maxRecDepth 100000 in
set_option maxHeartbeats 4000000 in
theorem mt_X8_draws {l : Launch} {G : ab_G} {x1 : Int32} {h : hp_T} {Q : Int32 → hp_T → Prop} (hw : wf h) (f : wp_X8_draws x1 h Q) : ab_M l G yX8_draws cX8_draws 3 (some .int) rm_X8_draws 0 0 [.ref (G.1 + 105), .int x1] h (po_h Q) := by
  refine ab_intro (own := RX8) (nm := "draws") rfl rfl rfl (Nat.le_of_ble_eq_true rfl) (fun F C => ?_)
  show ab_W l G F 3 (ab_MQ G F (po_h Q) 0 0) 0 0 h [(0, .ref (G.1 + 105)), (1, .int x1)] [] 0
  unfold wp_X8_draws at f
  refine ab_aload_n C 0 dX8_draws_0 rfl rfl ?_
  refine ab_iload_n C 1 dX8_draws_1 rfl rfl ?_
  refine ab_callV C (k := 0) (n := 0) (rest := []) [.int x1] cl_X8_248 (mt_X8_daysWrong  hw f) rfl (by decide) kd_105 (wf_lt hw kd_105 rfl) ⟨rfl, rfl, Nat.le_of_ble_eq_true rfl, Nat.le_of_ble_eq_true rfl, Nat.zero_le _, Nat.zero_le _⟩ rfl rfl (Nat.le_of_ble_eq_true rfl) dX8_draws_2 (ab_kp (k := 0) (n := 0) (fun v_1 f => ?_))
  refine ab_istore_n C (lv' := [(2, .int v_1), (0, .ref (G.1 + 105)), (1, .int x1)]) dX8_draws_5 rfl (by decide) rfl ?_
  refine ab_iload_n C 0 dX8_draws_6 rfl rfl ?_
  refine ab_if_eq C (tgt := 16) dX8_draws_7 (by decide) (fun c_2 => ?_) (fun c_2 => ?_)
  · have f := f.1 c_2
    refine ab_aload_n C 1 dX8_draws_16 rfl rfl ?_
    refine ab_iload_n C 2 dX8_draws_17 rfl rfl ?_
    refine ab_iconst C (v := (1 : Int32)) dX8_draws_18 (by decide) ?_
    refine ab_callV C (k := 0) (n := 0) (rest := []) [.int x1, .int (1 : Int32)] cl_X8_251 (mt_X8_daysGo  hw f) rfl (by decide) kd_105 (wf_lt hw kd_105 rfl) ⟨rfl, rfl, Nat.le_of_ble_eq_true rfl, Nat.le_of_ble_eq_true rfl, Nat.zero_le _, Nat.zero_le _⟩ rfl rfl (Nat.le_of_ble_eq_true rfl) dX8_draws_19 (ab_kv (k := 0) (n := 0) (fun h_3 hw_4 f => ?_))
    refine ab_aload_n C 1 dX8_draws_22 rfl rfl ?_
    refine ab_getI C fl_X8_227 rfl kd_105 (wf_lt hw_4 kd_105 rfl) dX8_draws_23 ?_
    exact ab_iret C dX8_draws_26 ⟨hw_4, _, rfl, f⟩
  · have f := f.2 c_2
    refine ab_aload_n C 1 dX8_draws_10 rfl rfl ?_
    refine ab_iload_n C 0 dX8_draws_11 rfl rfl ?_
    refine ab_callV C (k := 0) (n := 0) (rest := []) [.int v_1] cl_X8_84 (mt_X8_errs  hw f) rfl (by decide) kd_105 (wf_lt hw kd_105 rfl) ⟨rfl, rfl, Nat.le_of_ble_eq_true rfl, Nat.le_of_ble_eq_true rfl, Nat.zero_le _, Nat.zero_le _⟩ rfl rfl (Nat.le_of_ble_eq_true rfl) dX8_draws_12 (ab_kh (k := 0) (n := 0) (fun v_5 h_6 hw_7 f => ?_))
    exact ab_iret C dX8_draws_15 ⟨hw_7, _, rfl, f⟩
/-! X8_feed -/
def rm_X8_feed : Room := { frames := 3, cells := 0, slots := 0, locals := 125 }
def wp_X8_feed_L43 (x1 : Int64) (x3 : Int32) (Q : Int32 → hp_T → Prop) : Nat → Int32 → hp_T → Prop
  | 0 => fun _ _ => False
  | nn + 1 => fun y4 h => ((x3 ≤ y4 → (Q (hp_i h 106 7) h)) ∧ (¬ (x3 ≤ y4) → (vp_in ((153 : Int32) + (hp_i h 106 7)) 357) ∧ (∀ h_6, h_6 = hp_si h 106 (((153 : Int32) + (hp_i h 106 7)).toNatClampNeg) (((x1 >>> (((8 : Int32) * y4).toInt64 &&& 63)) &&& (255 : Int64)).toInt32) → (∀ h_9, h_9 = hp_si h_6 106 7 ((hp_i h_6 106 7) + (1 : Int32)) → (wp_X8_feed_L43 x1 x3 Q nn) (y4 + (1 : Int32)) h_9))))
set_option maxRecDepth 100000 in
set_option maxHeartbeats 4000000 in
theorem bt_X8_feed_L43 {l : Launch} {G : ab_G} {F : ab_F} {x1 : Int64} {x3 : Int32} {Q : Int32 → hp_T → Prop}  (C : ab_C G F rm_X8_feed cX8_feed 5 RX8 (some .int) "feed")   : ∀ (nn : Nat) (y4 : Int32) (h : hp_T), wf h → wp_X8_feed_L43 x1 x3 Q nn y4 h → ab_W l G F 5 (ab_MQ G F (po_h Q) 0 0) 0 0 h [(0, .ref (G.1 + 105)), (1, .long x1), (3, .int x3), (4, .int y4)] [] 43 := by
  intro nn
  induction nn with
  | zero =>
    intro y4 h hw f
    exact absurd f id
  | succ nn ih =>
    intro y4 h hw f
    unfold wp_X8_feed_L43 at f
    refine ab_iload C 3 dX8_feed_43 rfl ?_
    refine ab_iload_n C 2 dX8_feed_45 rfl rfl ?_
    refine ab_icmp_ge C (tgt := 94) dX8_feed_46 (by decide) (fun c_4 => ?_) (fun c_4 => ?_)
    · have f := f.1 c_4
      refine ab_aload_n C 0 dX8_feed_94 rfl rfl ?_
      refine ab_getR C (q := 106) fl_X8_7 rfl kd_105 (wf_lt hw kd_105 rfl) (wr_8_0 hw) dX8_feed_95 ?_
      refine ab_bipush C (v := (7 : Int32)) dX8_feed_98 (by decide) ?_
      refine ab_iald C (by rw [kd_106]; decide) (wf_lt hw kd_106 rfl) (wf_len hw kd_106 rfl rfl (by decide)) (vp_lit (by decide)) (j := 7) (by decide) dX8_feed_100 ?_
      exact ab_iret C dX8_feed_101 ⟨hw, _, rfl, f⟩
    · have f := f.2 c_4
      refine ab_aload_n C 0 dX8_feed_49 rfl rfl ?_
      refine ab_getR C (q := 106) fl_X8_7 rfl kd_105 (wf_lt hw kd_105 rfl) (wr_8_0 hw) dX8_feed_50 ?_
      refine ab_sipush C (v := (153 : Int32)) dX8_feed_53 (by decide) ?_
      refine ab_aload_n C 0 dX8_feed_56 rfl rfl ?_
      refine ab_getR C (q := 106) fl_X8_7 rfl kd_105 (wf_lt hw kd_105 rfl) (wr_8_0 hw) dX8_feed_57 ?_
      refine ab_bipush C (v := (7 : Int32)) dX8_feed_60 (by decide) ?_
      refine ab_iald C (by rw [kd_106]; decide) (wf_lt hw kd_106 rfl) (wf_len hw kd_106 rfl rfl (by decide)) (vp_lit (by decide)) (j := 7) (by decide) dX8_feed_62 ?_
      refine ab_iadd C dX8_feed_63 ?_
      refine ab_lload_n C 1 dX8_feed_64 rfl rfl ?_
      refine ab_bipush C (v := (8 : Int32)) dX8_feed_65 (by decide) ?_
      refine ab_iload C 3 dX8_feed_67 rfl ?_
      refine ab_imul C dX8_feed_69 ?_
      refine ab_lshr C dX8_feed_70 ?_
      refine ab_ldc2 C kw_t950 dX8_feed_71 ?_
      refine ab_land C dX8_feed_74 ?_
      refine ab_l2i C dX8_feed_75 ?_
      obtain ⟨c_5, f⟩ := f
      refine ab_iast C (by rw [kd_106]; decide) (wf_lt hw kd_106 rfl) (wf_len hw kd_106 rfl rfl (by decide)) c_5 (j := ((153 : Int32) + (hp_i h 106 7)).toNatClampNeg) rfl dX8_feed_76 (fun h_6 e_7 => ?_)
      have f := f h_6 e_7
      have hw_8 := wf_si e_7 hw
      refine ab_aload_n C 0 dX8_feed_77 rfl rfl ?_
      refine ab_getR C (q := 106) fl_X8_7 rfl kd_105 (wf_lt hw_8 kd_105 rfl) (wr_8_0 hw_8) dX8_feed_78 ?_
      refine ab_bipush C (v := (7 : Int32)) dX8_feed_81 (by decide) ?_
      refine ab_dup2 C dX8_feed_83 rfl rfl ?_
      refine ab_iald C (by rw [kd_106]; decide) (wf_lt hw_8 kd_106 rfl) (wf_len hw_8 kd_106 rfl rfl (by decide)) (vp_lit (by decide)) (j := 7) (by decide) dX8_feed_84 ?_
      refine ab_iconst C (v := (1 : Int32)) dX8_feed_85 (by decide) ?_
      refine ab_iadd C dX8_feed_86 ?_
      refine ab_iast C (by rw [kd_106]; decide) (wf_lt hw_8 kd_106 rfl) (wf_len hw_8 kd_106 rfl rfl (by decide)) (vp_lit (by decide)) (j := 7) (by decide) dX8_feed_87 (fun h_9 e_10 => ?_)
      have f := f h_9 e_10
      have hw_11 := wf_si e_10 hw_8
      refine ab_iinc C (lv' := [(4, .int (y4 + (1 : Int32))), (0, .ref (G.1 + 105)), (1, .long x1), (3, .int x3)]) 3 (v := (y4 + (1 : Int32))) dX8_feed_88 rfl rfl (by decide) rfl ?_
      refine ab_goto C (tgt := 43) dX8_feed_91 (by decide) ?_
      refine ab_sub (lv' := [(0, .ref (G.1 + 105)), (1, .long x1), (3, .int x3), (4, .int (y4 + (1 : Int32)))]) [1, 2, 3, 0] rfl ?_
      exact ih (y4 + (1 : Int32)) h_9  hw_11 f
def wp_X8_feed (x1 : Int64) (x3 : Int32) (h : hp_T) (Q : Int32 → hp_T → Prop) : Prop :=
  wp_X8_in x3.toInt64 (1 : Int64) (8 : Int64) h (fun v_1 => ((v_1 = 0 → wp_X8_errs (-1000000001 : Int32) h (fun v_15 h_16 => (Q v_15 h_16))) ∧ (¬ (v_1 = 0) → ((((hp_i h 106 7) + x3) ≤ (60 : Int32) → (∃ n0, wp_X8_feed_L43 x1 x3 Q  n0 (0 : Int32) h)) ∧ (¬ (((hp_i h 106 7) + x3) ≤ (60 : Int32)) → wp_X8_errs (-1000000004 : Int32) h (fun v_12 h_13 => (Q v_12 h_13)))))))
set_option maxRecDepth 100000 in
set_option maxHeartbeats 4000000 in
theorem mt_X8_feed {l : Launch} {G : ab_G} {x1 : Int64} {x3 : Int32} {h : hp_T} {Q : Int32 → hp_T → Prop} (hw : wf h) (f : wp_X8_feed x1 x3 h Q) : ab_M l G yX8_feed cX8_feed 5 (some .int) rm_X8_feed 0 0 [.ref (G.1 + 105), .long x1, .int x3] h (po_h Q) := by
  refine ab_intro (own := RX8) (nm := "feed") rfl rfl rfl (Nat.le_of_ble_eq_true rfl) (fun F C => ?_)
  show ab_W l G F 5 (ab_MQ G F (po_h Q) 0 0) 0 0 h [(0, .ref (G.1 + 105)), (1, .long x1), (3, .int x3)] [] 0
  unfold wp_X8_feed at f
  refine ab_iload_n C 2 dX8_feed_0 rfl rfl ?_
  refine ab_i2l C dX8_feed_1 ?_
  refine ab_lconst C (v := (1 : Int64)) dX8_feed_2 (by decide) ?_
  refine ab_ldc2 C kw_t949 dX8_feed_3 ?_
  refine ab_callS C (k := 0) (n := 0) (rest := []) [.long x3.toInt64, .long (1 : Int64), .long (8 : Int64)] cl_X8_44 (mt_X8_in  hw f) ⟨rfl, rfl, Nat.le_of_ble_eq_true rfl, Nat.le_of_ble_eq_true rfl, Nat.zero_le _, Nat.zero_le _⟩ rfl rfl (Nat.le_of_ble_eq_true rfl) dX8_feed_6 (ab_kp (k := 0) (n := 0) (fun v_1 f => ?_))
  refine ab_if_ne C (tgt := 19) dX8_feed_9 (by decide) (fun c_2 => ?_) (fun c_2 => ?_)
  · have f := f.2 c_2
    refine ab_aload_n C 0 dX8_feed_19 rfl rfl ?_
    refine ab_getR C (q := 106) fl_X8_7 rfl kd_105 (wf_lt hw kd_105 rfl) (wr_8_0 hw) dX8_feed_20 ?_
    refine ab_bipush C (v := (7 : Int32)) dX8_feed_23 (by decide) ?_
    refine ab_iald C (by rw [kd_106]; decide) (wf_lt hw kd_106 rfl) (wf_len hw kd_106 rfl rfl (by decide)) (vp_lit (by decide)) (j := 7) (by decide) dX8_feed_25 ?_
    refine ab_iload_n C 2 dX8_feed_26 rfl rfl ?_
    refine ab_iadd C dX8_feed_27 ?_
    refine ab_bipush C (v := (60 : Int32)) dX8_feed_28 (by decide) ?_
    refine ab_icmp_le C (tgt := 40) dX8_feed_30 (by decide) (fun c_3 => ?_) (fun c_3 => ?_)
    · have f := f.1 c_3
      refine ab_iconst C (v := (0 : Int32)) dX8_feed_40 (by decide) ?_
      refine ab_istore C (lv' := [(4, .int (0 : Int32)), (0, .ref (G.1 + 105)), (1, .long x1), (3, .int x3)]) dX8_feed_41 (by decide) rfl ?_
      obtain ⟨n0, f⟩ := f
      refine ab_sub (lv' := [(0, .ref (G.1 + 105)), (1, .long x1), (3, .int x3), (4, .int (0 : Int32))]) [1, 2, 3, 0] rfl ?_
      exact bt_X8_feed_L43 C    n0 (0 : Int32) h  hw f
    · have f := f.2 c_3
      refine ab_aload_n C 0 dX8_feed_33 rfl rfl ?_
      refine ab_ldc C kw_t826 dX8_feed_34 ?_
      refine ab_callV C (k := 0) (n := 0) (rest := []) [.int (-1000000004 : Int32)] cl_X8_84 (mt_X8_errs  hw f) rfl (by decide) kd_105 (wf_lt hw kd_105 rfl) ⟨rfl, rfl, Nat.le_of_ble_eq_true rfl, Nat.le_of_ble_eq_true rfl, Nat.zero_le _, Nat.zero_le _⟩ rfl rfl (Nat.le_of_ble_eq_true rfl) dX8_feed_36 (ab_kh (k := 0) (n := 0) (fun v_12 h_13 hw_14 f => ?_))
      exact ab_iret C dX8_feed_39 ⟨hw_14, _, rfl, f⟩
  · have f := f.1 c_2
    refine ab_aload_n C 0 dX8_feed_12 rfl rfl ?_
    refine ab_ldc C kw_t821 dX8_feed_13 ?_
    refine ab_callV C (k := 0) (n := 0) (rest := []) [.int (-1000000001 : Int32)] cl_X8_84 (mt_X8_errs  hw f) rfl (by decide) kd_105 (wf_lt hw kd_105 rfl) ⟨rfl, rfl, Nat.le_of_ble_eq_true rfl, Nat.le_of_ble_eq_true rfl, Nat.zero_le _, Nat.zero_le _⟩ rfl rfl (Nat.le_of_ble_eq_true rfl) dX8_feed_15 (ab_kh (k := 0) (n := 0) (fun v_15 h_16 hw_17 f => ?_))
    exact ab_iret C dX8_feed_18 ⟨hw_17, _, rfl, f⟩
/-! X8_handed -/
def rm_X8_handed : Room := { frames := 5, cells := 0, slots := 0, locals := 165 }
def wp_X8_handed_L40 (x1 : Int32) (x2 : Int32) (Q : Int32 → hp_T → Prop) : Nat → Int32 → hp_T → Prop
  | 0 => fun _ _ => False
  | nn + 1 => fun y3 h => (((hp_i h 106 0) ≤ (y3 + (1 : Int32)) → (Q y3 h)) ∧ (¬ ((hp_i h 106 0) ≤ (y3 + (1 : Int32))) → (¬ (hp_i h 106 0) = 0) ∧ wp_X8_isMute ((x1 + y3) - (x1 + y3) / (hp_i h 106 0) * (hp_i h 106 0)) h (fun v_12 => ((v_12 = 0 → (wp_X8_handed_L40 x1 x2 Q nn) (y3 + (1 : Int32)) h) ∧ (¬ (v_12 = 0) → (Q y3 h))))))
set_option maxRecDepth 100000 in
set_option maxHeartbeats 4000000 in
theorem bt_X8_handed_L40 {l : Launch} {G : ab_G} {F : ab_F} {x1 : Int32} {x2 : Int32} {Q : Int32 → hp_T → Prop}  (C : ab_C G F rm_X8_handed cX8_handed 4 RX8 (some .int) "handed")   : ∀ (nn : Nat) (y3 : Int32) (h : hp_T), wf h → wp_X8_handed_L40 x1 x2 Q nn y3 h → ab_W l G F 4 (ab_MQ G F (po_h Q) 0 0) 0 0 h [(0, .ref (G.1 + 105)), (1, .int x1), (3, .int y3)] [] 40 := by
  intro nn
  induction nn with
  | zero =>
    intro y3 h hw f
    exact absurd f id
  | succ nn ih =>
    intro y3 h hw f
    unfold wp_X8_handed_L40 at f
    refine ab_iload_n C 2 dX8_handed_40 rfl rfl ?_
    refine ab_iconst C (v := (1 : Int32)) dX8_handed_41 (by decide) ?_
    refine ab_iadd C dX8_handed_42 ?_
    refine ab_aload_n C 0 dX8_handed_43 rfl rfl ?_
    refine ab_getR C (q := 106) fl_X8_7 rfl kd_105 (wf_lt hw kd_105 rfl) (wr_8_0 hw) dX8_handed_44 ?_
    refine ab_iconst C (v := (0 : Int32)) dX8_handed_47 (by decide) ?_
    refine ab_iald C (by rw [kd_106]; decide) (wf_lt hw kd_106 rfl) (wf_len hw kd_106 rfl rfl (by decide)) (vp_lit (by decide)) (j := 0) (by decide) dX8_handed_48 ?_
    refine ab_icmp_ge C (tgt := 75) dX8_handed_49 (by decide) (fun c_10 => ?_) (fun c_10 => ?_)
    · have f := f.1 c_10
      refine ab_iload_n C 2 dX8_handed_75 rfl rfl ?_
      exact ab_iret C dX8_handed_76 ⟨hw, _, rfl, f⟩
    · have f := f.2 c_10
      refine ab_aload_n C 0 dX8_handed_52 rfl rfl ?_
      refine ab_iload_n C 1 dX8_handed_53 rfl rfl ?_
      refine ab_iload_n C 2 dX8_handed_54 rfl rfl ?_
      refine ab_iadd C dX8_handed_55 ?_
      refine ab_aload_n C 0 dX8_handed_56 rfl rfl ?_
      refine ab_getR C (q := 106) fl_X8_7 rfl kd_105 (wf_lt hw kd_105 rfl) (wr_8_0 hw) dX8_handed_57 ?_
      refine ab_iconst C (v := (0 : Int32)) dX8_handed_60 (by decide) ?_
      refine ab_iald C (by rw [kd_106]; decide) (wf_lt hw kd_106 rfl) (wf_len hw kd_106 rfl rfl (by decide)) (vp_lit (by decide)) (j := 0) (by decide) dX8_handed_61 ?_
      obtain ⟨c_11, f⟩ := f
      refine ab_irem C dX8_handed_62 c_11 ?_
      refine ab_callV C (k := 0) (n := 0) (rest := []) [.int ((x1 + y3) - (x1 + y3) / (hp_i h 106 0) * (hp_i h 106 0))] cl_X8_218 (mt_X8_isMute  hw f) rfl (by decide) kd_105 (wf_lt hw kd_105 rfl) ⟨rfl, rfl, Nat.le_of_ble_eq_true rfl, Nat.le_of_ble_eq_true rfl, Nat.zero_le _, Nat.zero_le _⟩ rfl rfl (Nat.le_of_ble_eq_true rfl) dX8_handed_63 (ab_kp (k := 0) (n := 0) (fun v_12 f => ?_))
      refine ab_if_ne C (tgt := 75) dX8_handed_66 (by decide) (fun c_13 => ?_) (fun c_13 => ?_)
      · have f := f.2 c_13
        refine ab_iload_n C 2 dX8_handed_75 rfl rfl ?_
        exact ab_iret C dX8_handed_76 ⟨hw, _, rfl, f⟩
      · have f := f.1 c_13
        refine ab_iinc C (lv' := [(3, .int (y3 + (1 : Int32))), (0, .ref (G.1 + 105)), (1, .int x1)]) 2 (v := (y3 + (1 : Int32))) dX8_handed_69 rfl rfl (by decide) rfl ?_
        refine ab_goto C (tgt := 40) dX8_handed_72 (by decide) ?_
        refine ab_sub (lv' := [(0, .ref (G.1 + 105)), (1, .int x1), (3, .int (y3 + (1 : Int32)))]) [1, 2, 0] rfl ?_
        exact ih (y3 + (1 : Int32)) h  hw f
def wp_X8_handed (x1 : Int32) (x2 : Int32) (h : hp_T) (Q : Int32 → hp_T → Prop) : Prop :=
  wp_X8_isBunk x1 h (fun v_1 => ((v_1 = 0 → wp_X8_errs (-1000000001 : Int32) h (fun v_3 h_4 => (Q v_3 h_4))) ∧ (¬ (v_1 = 0) → wp_X8_isKnack x2 h (fun v_6 => ((v_6 = 0 → wp_X8_errs (-1000000001 : Int32) h (fun v_17 h_18 => (Q v_17 h_18))) ∧ (¬ (v_6 = 0) → wp_X8_isKnowing x1 x2 h (fun v_8 => ((v_8 = 0 → wp_X8_errs (-1000000003 : Int32) h (fun v_14 h_15 => (Q v_14 h_15))) ∧ (¬ (v_8 = 0) → (∃ n0, wp_X8_handed_L40 x1 x2 Q  n0 (0 : Int32) h))))))))))
set_option maxRecDepth 100000 in
set_option maxHeartbeats 4000000 in
theorem mt_X8_handed {l : Launch} {G : ab_G} {x1 : Int32} {x2 : Int32} {h : hp_T} {Q : Int32 → hp_T → Prop} (hw : wf h) (f : wp_X8_handed x1 x2 h Q) : ab_M l G yX8_handed cX8_handed 4 (some .int) rm_X8_handed 0 0 [.ref (G.1 + 105), .int x1, .int x2] h (po_h Q) := by
  refine ab_intro (own := RX8) (nm := "handed") rfl rfl rfl (Nat.le_of_ble_eq_true rfl) (fun F C => ?_)
  show ab_W l G F 4 (ab_MQ G F (po_h Q) 0 0) 0 0 h [(0, .ref (G.1 + 105)), (1, .int x1), (2, .int x2)] [] 0
  unfold wp_X8_handed at f
  refine ab_aload_n C 0 dX8_handed_0 rfl rfl ?_
  refine ab_iload_n C 1 dX8_handed_1 rfl rfl ?_
  refine ab_callV C (k := 0) (n := 0) (rest := []) [.int x1] cl_X8_98 (mt_X8_isBunk  hw f) rfl (by decide) kd_105 (wf_lt hw kd_105 rfl) ⟨rfl, rfl, Nat.le_of_ble_eq_true rfl, Nat.le_of_ble_eq_true rfl, Nat.zero_le _, Nat.zero_le _⟩ rfl rfl (Nat.le_of_ble_eq_true rfl) dX8_handed_2 (ab_kp (k := 0) (n := 0) (fun v_1 f => ?_))
  refine ab_if_eq C (tgt := 15) dX8_handed_5 (by decide) (fun c_2 => ?_) (fun c_2 => ?_)
  · have f := f.1 c_2
    refine ab_aload_n C 0 dX8_handed_15 rfl rfl ?_
    refine ab_ldc C kw_t821 dX8_handed_16 ?_
    refine ab_callV C (k := 0) (n := 0) (rest := []) [.int (-1000000001 : Int32)] cl_X8_84 (mt_X8_errs  hw f) rfl (by decide) kd_105 (wf_lt hw kd_105 rfl) ⟨rfl, rfl, Nat.le_of_ble_eq_true rfl, Nat.le_of_ble_eq_true rfl, Nat.zero_le _, Nat.zero_le _⟩ rfl rfl (Nat.le_of_ble_eq_true rfl) dX8_handed_18 (ab_kh (k := 0) (n := 0) (fun v_3 h_4 hw_5 f => ?_))
    exact ab_iret C dX8_handed_21 ⟨hw_5, _, rfl, f⟩
  · have f := f.2 c_2
    refine ab_iload_n C 2 dX8_handed_8 rfl rfl ?_
    refine ab_callS C (k := 0) (n := 0) (rest := []) [.int x2] cl_X8_113 (mt_X8_isKnack  hw f) ⟨rfl, rfl, Nat.le_of_ble_eq_true rfl, Nat.le_of_ble_eq_true rfl, Nat.zero_le _, Nat.zero_le _⟩ rfl rfl (Nat.le_of_ble_eq_true rfl) dX8_handed_9 (ab_kp (k := 0) (n := 0) (fun v_6 f => ?_))
    refine ab_if_ne C (tgt := 22) dX8_handed_12 (by decide) (fun c_7 => ?_) (fun c_7 => ?_)
    · have f := f.2 c_7
      refine ab_aload_n C 0 dX8_handed_22 rfl rfl ?_
      refine ab_iload_n C 1 dX8_handed_23 rfl rfl ?_
      refine ab_iload_n C 2 dX8_handed_24 rfl rfl ?_
      refine ab_callV C (k := 0) (n := 0) (rest := []) [.int x1, .int x2] cl_X8_118 (mt_X8_isKnowing  hw f) rfl (by decide) kd_105 (wf_lt hw kd_105 rfl) ⟨rfl, rfl, Nat.le_of_ble_eq_true rfl, Nat.le_of_ble_eq_true rfl, Nat.zero_le _, Nat.zero_le _⟩ rfl rfl (Nat.le_of_ble_eq_true rfl) dX8_handed_25 (ab_kp (k := 0) (n := 0) (fun v_8 f => ?_))
      refine ab_if_ne C (tgt := 38) dX8_handed_28 (by decide) (fun c_9 => ?_) (fun c_9 => ?_)
      · have f := f.2 c_9
        refine ab_iconst C (v := (0 : Int32)) dX8_handed_38 (by decide) ?_
        refine ab_istore_n C (lv' := [(3, .int (0 : Int32)), (0, .ref (G.1 + 105)), (1, .int x1), (2, .int x2)]) dX8_handed_39 rfl (by decide) rfl ?_
        obtain ⟨n0, f⟩ := f
        refine ab_sub (lv' := [(0, .ref (G.1 + 105)), (1, .int x1), (3, .int (0 : Int32))]) [1, 2, 0] rfl ?_
        exact bt_X8_handed_L40 C    n0 (0 : Int32) h  hw f
      · have f := f.1 c_9
        refine ab_aload_n C 0 dX8_handed_31 rfl rfl ?_
        refine ab_ldc C kw_t1021 dX8_handed_32 ?_
        refine ab_callV C (k := 0) (n := 0) (rest := []) [.int (-1000000003 : Int32)] cl_X8_84 (mt_X8_errs  hw f) rfl (by decide) kd_105 (wf_lt hw kd_105 rfl) ⟨rfl, rfl, Nat.le_of_ble_eq_true rfl, Nat.le_of_ble_eq_true rfl, Nat.zero_le _, Nat.zero_le _⟩ rfl rfl (Nat.le_of_ble_eq_true rfl) dX8_handed_34 (ab_kh (k := 0) (n := 0) (fun v_14 h_15 hw_16 f => ?_))
        exact ab_iret C dX8_handed_37 ⟨hw_16, _, rfl, f⟩
    · have f := f.1 c_7
      refine ab_aload_n C 0 dX8_handed_15 rfl rfl ?_
      refine ab_ldc C kw_t821 dX8_handed_16 ?_
      refine ab_callV C (k := 0) (n := 0) (rest := []) [.int (-1000000001 : Int32)] cl_X8_84 (mt_X8_errs  hw f) rfl (by decide) kd_105 (wf_lt hw kd_105 rfl) ⟨rfl, rfl, Nat.le_of_ble_eq_true rfl, Nat.le_of_ble_eq_true rfl, Nat.zero_le _, Nat.zero_le _⟩ rfl rfl (Nat.le_of_ble_eq_true rfl) dX8_handed_18 (ab_kh (k := 0) (n := 0) (fun v_17 h_18 hw_19 f => ?_))
      exact ab_iret C dX8_handed_21 ⟨hw_19, _, rfl, f⟩
/-! X8_image -/
def rm_X8_image : Room := { frames := 2, cells := 0, slots := 0, locals := 100 }
def wp_X8_image_L2 (Q : Int32 → hp_T → Prop) : Nat → Int32 → hp_T → Prop
  | 0 => fun _ _ => False
  | nn + 1 => fun y1 h => (((357 : Int32) ≤ y1 → (∀ h_2, h_2 = hp_si h 105 4 ((hp_i h 105 4) + (1 : Int32)) → (Q (hp_i h_2 105 4) h_2))) ∧ (¬ ((357 : Int32) ≤ y1) → (vp_in y1 357) ∧ (vp_in y1 357) ∧ (∀ h_7, h_7 = hp_si h 107 y1.toNatClampNeg (hp_i h 106 y1.toNatClampNeg) → (wp_X8_image_L2 Q nn) (y1 + (1 : Int32)) h_7)))
set_option maxRecDepth 100000 in
set_option maxHeartbeats 4000000 in
theorem bt_X8_image_L2 {l : Launch} {G : ab_G} {F : ab_F}  {Q : Int32 → hp_T → Prop}  (C : ab_C G F rm_X8_image cX8_image 2 RX8 (some .int) "image")   : ∀ (nn : Nat) (y1 : Int32) (h : hp_T), wf h → wp_X8_image_L2 Q nn y1 h → ab_W l G F 2 (ab_MQ G F (po_h Q) 0 0) 0 0 h [(0, .ref (G.1 + 105)), (1, .int y1)] [] 2 := by
  intro nn
  induction nn with
  | zero =>
    intro y1 h hw f
    exact absurd f id
  | succ nn ih =>
    intro y1 h hw f
    unfold wp_X8_image_L2 at f
    refine ab_iload_n C 1 dX8_image_2 rfl rfl ?_
    refine ab_sipush C (v := (357 : Int32)) dX8_image_3 (by decide) ?_
    refine ab_icmp_ge C (tgt := 27) dX8_image_6 (by decide) (fun c_1 => ?_) (fun c_1 => ?_)
    · have f := f.1 c_1
      refine ab_aload_n C 0 dX8_image_27 rfl rfl ?_
      refine ab_dup C dX8_image_28 rfl ?_
      refine ab_getI C fl_X8_312 rfl kd_105 (wf_lt hw kd_105 rfl) dX8_image_29 ?_
      refine ab_iconst C (v := (1 : Int32)) dX8_image_32 (by decide) ?_
      refine ab_iadd C dX8_image_33 ?_
      refine ab_putI C fl_X8_312 rfl kd_105 (wf_lt hw kd_105 rfl) rfl rfl dX8_image_34 (fun h_2 e_3 => ?_)
      have f := f h_2 e_3
      have hw_4 := wf_si e_3 hw
      refine ab_aload_n C 0 dX8_image_37 rfl rfl ?_
      refine ab_getI C fl_X8_312 rfl kd_105 (wf_lt hw_4 kd_105 rfl) dX8_image_38 ?_
      exact ab_iret C dX8_image_41 ⟨hw_4, _, rfl, f⟩
    · have f := f.2 c_1
      refine ab_aload_n C 0 dX8_image_9 rfl rfl ?_
      refine ab_getR C (q := 107) fl_X8_13 rfl kd_105 (wf_lt hw kd_105 rfl) (wr_8_1 hw) dX8_image_10 ?_
      refine ab_iload_n C 1 dX8_image_13 rfl rfl ?_
      refine ab_aload_n C 0 dX8_image_14 rfl rfl ?_
      refine ab_getR C (q := 106) fl_X8_7 rfl kd_105 (wf_lt hw kd_105 rfl) (wr_8_0 hw) dX8_image_15 ?_
      refine ab_iload_n C 1 dX8_image_18 rfl rfl ?_
      obtain ⟨c_5, f⟩ := f
      refine ab_iald C (by rw [kd_106]; decide) (wf_lt hw kd_106 rfl) (wf_len hw kd_106 rfl rfl (by decide)) c_5 (j := y1.toNatClampNeg) rfl dX8_image_19 ?_
      obtain ⟨c_6, f⟩ := f
      refine ab_iast C (by rw [kd_107]; decide) (wf_lt hw kd_107 rfl) (wf_len hw kd_107 rfl rfl (by decide)) c_6 (j := y1.toNatClampNeg) rfl dX8_image_20 (fun h_7 e_8 => ?_)
      have f := f h_7 e_8
      have hw_9 := wf_si e_8 hw
      refine ab_iinc C (lv' := [(1, .int (y1 + (1 : Int32))), (0, .ref (G.1 + 105))]) 1 (v := (y1 + (1 : Int32))) dX8_image_21 rfl rfl (by decide) rfl ?_
      refine ab_goto C (tgt := 2) dX8_image_24 (by decide) ?_
      refine ab_sub (lv' := [(0, .ref (G.1 + 105)), (1, .int (y1 + (1 : Int32)))]) [1, 0] rfl ?_
      exact ih (y1 + (1 : Int32)) h_7  hw_9 f
def wp_X8_image (h : hp_T) (Q : Int32 → hp_T → Prop) : Prop :=
  (∃ n0, wp_X8_image_L2 Q  n0 (0 : Int32) h)
set_option maxRecDepth 100000 in
set_option maxHeartbeats 4000000 in
theorem mt_X8_image {l : Launch} {G : ab_G}  {h : hp_T} {Q : Int32 → hp_T → Prop} (hw : wf h) (f : wp_X8_image h Q) : ab_M l G yX8_image cX8_image 2 (some .int) rm_X8_image 0 0 [.ref (G.1 + 105)] h (po_h Q) := by
  refine ab_intro (own := RX8) (nm := "image") rfl rfl rfl (Nat.le_of_ble_eq_true rfl) (fun F C => ?_)
  show ab_W l G F 2 (ab_MQ G F (po_h Q) 0 0) 0 0 h [(0, .ref (G.1 + 105))] [] 0
  unfold wp_X8_image at f
  refine ab_iconst C (v := (0 : Int32)) dX8_image_0 (by decide) ?_
  refine ab_istore_n C (lv' := [(1, .int (0 : Int32)), (0, .ref (G.1 + 105))]) dX8_image_1 rfl (by decide) rfl ?_
  obtain ⟨n0, f⟩ := f
  refine ab_sub (lv' := [(0, .ref (G.1 + 105)), (1, .int (0 : Int32))]) [1, 0] rfl ?_
  exact bt_X8_image_L2 C    n0 (0 : Int32) h  hw f
/-! X8_init -/
def rm_X8_init : Room := { frames := 2, cells := 11, slots := 1359, locals := 100 }
def wp_X8_init (h : hp_T) (Q : hp_T → Prop) : Prop :=
  (16 ≤ ab_k (hp_n h)) ∧ (∀ h_1, h_1 = hp_na h 357 → (105 < hp_n h_1) ∧ (∀ h_5, h_5 = hp_sr h_1 105 0 (some (hp_n h)) → (16 ≤ ab_k (hp_n h_5)) ∧ (∀ h_7, h_7 = hp_na h_5 357 → (105 < hp_n h_7) ∧ (∀ h_11, h_11 = hp_sr h_7 105 1 (some (hp_n h_5)) → (16 ≤ ab_k (hp_n h_11)) ∧ (∀ h_13, h_13 = hp_na h_11 357 → (105 < hp_n h_13) ∧ (∀ h_17, h_17 = hp_sr h_13 105 2 (some (hp_n h_11)) → (16 ≤ ab_k (hp_n h_17)) ∧ (∀ h_19, h_19 = hp_na h_17 6 → (105 < hp_n h_19) ∧ (∀ h_23, h_23 = hp_sr h_19 105 3 (some (hp_n h_17)) → (16 ≤ ab_k (hp_n h_23)) ∧ (∀ h_25, h_25 = hp_na h_23 64 → (105 < hp_n h_25) ∧ (∀ h_29, h_29 = hp_sr h_25 105 5 (some (hp_n h_23)) → (16 ≤ ab_k (hp_n h_29)) ∧ (∀ h_31, h_31 = hp_na h_29 60 → (105 < hp_n h_31) ∧ (∀ h_35, h_35 = hp_sr h_31 105 11 (some (hp_n h_29)) → (16 ≤ ab_k (hp_n h_35)) ∧ (∀ h_37, h_37 = hp_na h_35 30 → (105 < hp_n h_37) ∧ (∀ h_41, h_41 = hp_sr h_37 105 14 (some (hp_n h_35)) → (16 ≤ ab_k (hp_n h_41)) ∧ (∀ h_43, h_43 = hp_na h_41 4 → (105 < hp_n h_43) ∧ (∀ h_47, h_47 = hp_sr h_43 105 18 (some (hp_n h_41)) → (16 ≤ ab_k (hp_n h_47)) ∧ (∀ h_49, h_49 = hp_na h_47 4 → (105 < hp_n h_49) ∧ (∀ h_53, h_53 = hp_sr h_49 105 19 (some (hp_n h_47)) → (16 ≤ ab_k (hp_n h_53)) ∧ (∀ h_55, h_55 = hp_na h_53 96 → (105 < hp_n h_55) ∧ (∀ h_59, h_59 = hp_sr h_55 105 20 (some (hp_n h_53)) → (16 ≤ ab_k (hp_n h_59)) ∧ (∀ h_61, h_61 = hp_na h_59 24 → (105 < hp_n h_61) ∧ (∀ h_65, h_65 = hp_sr h_61 105 21 (some (hp_n h_59)) → (105 < hp_n h_65) ∧ (∃ q_68, (hp_r h_65 105 0 = some q_68) ∧ (ab_k q_68 = 30) ∧ (q_68 < hp_n h_65) ∧ (vp_in (5 : Int32) (hp_l h_65 q_68)) ∧ (∀ h_73, h_73 = hp_si h_65 q_68 5 (4 : Int32) → (105 < hp_n h_73) ∧ (∃ q_76, (hp_r h_73 105 0 = some q_76) ∧ (ab_k q_76 = 30) ∧ (q_76 < hp_n h_73) ∧ (vp_in (6 : Int32) (hp_l h_73 q_76)) ∧ (∀ h_81, h_81 = hp_si h_73 q_76 6 (1 : Int32) → (Q h_81)))))))))))))))))))))))))))
set_option maxRecDepth 100000 in
set_option maxHeartbeats 4000000 in
theorem mt_X8_init {l : Launch} {G : ab_G}  {h : hp_T} {Q : hp_T → Prop} (f : wp_X8_init h Q) : ab_M l G yX8_init cX8_init 1 none rm_X8_init 11 1359 [.ref (G.1 + 105)] h (po_r Q) := by
  refine ab_intro (own := RX8) (nm := "<init>") rfl rfl rfl (Nat.le_of_ble_eq_true rfl) (fun F C => ?_)
  show ab_W l G F 1 (ab_MQ G F (po_r Q) 11 1359) 0 0 h [(0, .ref (G.1 + 105))] [] 0
  unfold wp_X8_init at f
  refine ab_aload_n C 0 dX8_init_0 rfl rfl ?_
  refine ab_oinit C (b := 105) co_X8 (by decide) (by decide) (Nat.le_of_ble_eq_true rfl) dX8_init_1 ?_
  refine ab_aload_n C 0 dX8_init_4 rfl rfl ?_
  refine ab_sipush C (v := (357 : Int32)) dX8_init_5 (by decide) ?_
  obtain ⟨c_3, f⟩ := f
  refine ab_newI C (k := 0) (n := 0) (N := 357) kw_t73 c_3 (by decide) (by decide) (by decide) (Nat.le_of_ble_eq_true rfl) (Nat.le_of_ble_eq_true rfl) dX8_init_8 (fun h_1 e_2 => ?_)
  have f := f h_1 e_2
  obtain ⟨c_4, f⟩ := f
  refine ab_putR C (q := (hp_n h)) fl_X8_7 rfl (fun _ => rfl) kd_105 c_4 (fun _ => rfl) (fun _ => rfl) dX8_init_10 (fun h_5 e_6 => ?_)
  have f := f h_5 e_6
  refine ab_aload_n C 0 dX8_init_13 rfl rfl ?_
  refine ab_sipush C (v := (357 : Int32)) dX8_init_14 (by decide) ?_
  obtain ⟨c_9, f⟩ := f
  refine ab_newI C (k := 1) (n := 357) (N := 357) kw_t73 c_9 (by decide) (by decide) (by decide) (Nat.le_of_ble_eq_true rfl) (Nat.le_of_ble_eq_true rfl) dX8_init_17 (fun h_7 e_8 => ?_)
  have f := f h_7 e_8
  obtain ⟨c_10, f⟩ := f
  refine ab_putR C (q := (hp_n h_5)) fl_X8_13 rfl (fun _ => rfl) kd_105 c_10 (fun _ => rfl) (fun _ => rfl) dX8_init_19 (fun h_11 e_12 => ?_)
  have f := f h_11 e_12
  refine ab_aload_n C 0 dX8_init_22 rfl rfl ?_
  refine ab_sipush C (v := (357 : Int32)) dX8_init_23 (by decide) ?_
  obtain ⟨c_15, f⟩ := f
  refine ab_newI C (k := 2) (n := 714) (N := 357) kw_t73 c_15 (by decide) (by decide) (by decide) (Nat.le_of_ble_eq_true rfl) (Nat.le_of_ble_eq_true rfl) dX8_init_26 (fun h_13 e_14 => ?_)
  have f := f h_13 e_14
  obtain ⟨c_16, f⟩ := f
  refine ab_putR C (q := (hp_n h_11)) fl_X8_16 rfl (fun _ => rfl) kd_105 c_16 (fun _ => rfl) (fun _ => rfl) dX8_init_28 (fun h_17 e_18 => ?_)
  have f := f h_17 e_18
  refine ab_aload_n C 0 dX8_init_31 rfl rfl ?_
  refine ab_bipush C (v := (6 : Int32)) dX8_init_32 (by decide) ?_
  obtain ⟨c_21, f⟩ := f
  refine ab_newI C (k := 3) (n := 1071) (N := 6) kw_t73 c_21 (by decide) (by decide) (by decide) (Nat.le_of_ble_eq_true rfl) (Nat.le_of_ble_eq_true rfl) dX8_init_34 (fun h_19 e_20 => ?_)
  have f := f h_19 e_20
  obtain ⟨c_22, f⟩ := f
  refine ab_putR C (q := (hp_n h_17)) fl_X8_19 rfl (fun _ => rfl) kd_105 c_22 (fun _ => rfl) (fun _ => rfl) dX8_init_36 (fun h_23 e_24 => ?_)
  have f := f h_23 e_24
  refine ab_aload_n C 0 dX8_init_39 rfl rfl ?_
  refine ab_bipush C (v := (64 : Int32)) dX8_init_40 (by decide) ?_
  obtain ⟨c_27, f⟩ := f
  refine ab_newI C (k := 4) (n := 1077) (N := 64) kw_t73 c_27 (by decide) (by decide) (by decide) (Nat.le_of_ble_eq_true rfl) (Nat.le_of_ble_eq_true rfl) dX8_init_42 (fun h_25 e_26 => ?_)
  have f := f h_25 e_26
  obtain ⟨c_28, f⟩ := f
  refine ab_putR C (q := (hp_n h_23)) fl_X8_22 rfl (fun _ => rfl) kd_105 c_28 (fun _ => rfl) (fun _ => rfl) dX8_init_44 (fun h_29 e_30 => ?_)
  have f := f h_29 e_30
  refine ab_aload_n C 0 dX8_init_47 rfl rfl ?_
  refine ab_bipush C (v := (60 : Int32)) dX8_init_48 (by decide) ?_
  obtain ⟨c_33, f⟩ := f
  refine ab_newI C (k := 5) (n := 1141) (N := 60) kw_t73 c_33 (by decide) (by decide) (by decide) (Nat.le_of_ble_eq_true rfl) (Nat.le_of_ble_eq_true rfl) dX8_init_50 (fun h_31 e_32 => ?_)
  have f := f h_31 e_32
  obtain ⟨c_34, f⟩ := f
  refine ab_putR C (q := (hp_n h_29)) fl_X8_25 rfl (fun _ => rfl) kd_105 c_34 (fun _ => rfl) (fun _ => rfl) dX8_init_52 (fun h_35 e_36 => ?_)
  have f := f h_35 e_36
  refine ab_aload_n C 0 dX8_init_55 rfl rfl ?_
  refine ab_bipush C (v := (30 : Int32)) dX8_init_56 (by decide) ?_
  obtain ⟨c_39, f⟩ := f
  refine ab_newI C (k := 6) (n := 1201) (N := 30) kw_t73 c_39 (by decide) (by decide) (by decide) (Nat.le_of_ble_eq_true rfl) (Nat.le_of_ble_eq_true rfl) dX8_init_58 (fun h_37 e_38 => ?_)
  have f := f h_37 e_38
  obtain ⟨c_40, f⟩ := f
  refine ab_putR C (q := (hp_n h_35)) fl_X8_28 rfl (fun _ => rfl) kd_105 c_40 (fun _ => rfl) (fun _ => rfl) dX8_init_60 (fun h_41 e_42 => ?_)
  have f := f h_41 e_42
  refine ab_aload_n C 0 dX8_init_63 rfl rfl ?_
  refine ab_iconst C (v := (4 : Int32)) dX8_init_64 (by decide) ?_
  obtain ⟨c_45, f⟩ := f
  refine ab_newI C (k := 7) (n := 1231) (N := 4) kw_t73 c_45 (by decide) (by decide) (by decide) (Nat.le_of_ble_eq_true rfl) (Nat.le_of_ble_eq_true rfl) dX8_init_65 (fun h_43 e_44 => ?_)
  have f := f h_43 e_44
  obtain ⟨c_46, f⟩ := f
  refine ab_putR C (q := (hp_n h_41)) fl_X8_31 rfl (fun _ => rfl) kd_105 c_46 (fun _ => rfl) (fun _ => rfl) dX8_init_67 (fun h_47 e_48 => ?_)
  have f := f h_47 e_48
  refine ab_aload_n C 0 dX8_init_70 rfl rfl ?_
  refine ab_iconst C (v := (4 : Int32)) dX8_init_71 (by decide) ?_
  obtain ⟨c_51, f⟩ := f
  refine ab_newI C (k := 8) (n := 1235) (N := 4) kw_t73 c_51 (by decide) (by decide) (by decide) (Nat.le_of_ble_eq_true rfl) (Nat.le_of_ble_eq_true rfl) dX8_init_72 (fun h_49 e_50 => ?_)
  have f := f h_49 e_50
  obtain ⟨c_52, f⟩ := f
  refine ab_putR C (q := (hp_n h_47)) fl_X8_34 rfl (fun _ => rfl) kd_105 c_52 (fun _ => rfl) (fun _ => rfl) dX8_init_74 (fun h_53 e_54 => ?_)
  have f := f h_53 e_54
  refine ab_aload_n C 0 dX8_init_77 rfl rfl ?_
  refine ab_bipush C (v := (96 : Int32)) dX8_init_78 (by decide) ?_
  obtain ⟨c_57, f⟩ := f
  refine ab_newI C (k := 9) (n := 1239) (N := 96) kw_t73 c_57 (by decide) (by decide) (by decide) (Nat.le_of_ble_eq_true rfl) (Nat.le_of_ble_eq_true rfl) dX8_init_80 (fun h_55 e_56 => ?_)
  have f := f h_55 e_56
  obtain ⟨c_58, f⟩ := f
  refine ab_putR C (q := (hp_n h_53)) fl_X8_37 rfl (fun _ => rfl) kd_105 c_58 (fun _ => rfl) (fun _ => rfl) dX8_init_82 (fun h_59 e_60 => ?_)
  have f := f h_59 e_60
  refine ab_aload_n C 0 dX8_init_85 rfl rfl ?_
  refine ab_bipush C (v := (24 : Int32)) dX8_init_86 (by decide) ?_
  obtain ⟨c_63, f⟩ := f
  refine ab_newI C (k := 10) (n := 1335) (N := 24) kw_t73 c_63 (by decide) (by decide) (by decide) (Nat.le_of_ble_eq_true rfl) (Nat.le_of_ble_eq_true rfl) dX8_init_88 (fun h_61 e_62 => ?_)
  have f := f h_61 e_62
  obtain ⟨c_64, f⟩ := f
  refine ab_putR C (q := (hp_n h_59)) fl_X8_40 rfl (fun _ => rfl) kd_105 c_64 (fun _ => rfl) (fun _ => rfl) dX8_init_90 (fun h_65 e_66 => ?_)
  have f := f h_65 e_66
  refine ab_aload_n C 0 dX8_init_93 rfl rfl ?_
  obtain ⟨c_67, f⟩ := f
  obtain ⟨q_68, c_69, f⟩ := f
  refine ab_getR C (q := q_68) fl_X8_7 rfl kd_105 c_67 c_69 dX8_init_94 ?_
  refine ab_iconst C (v := (5 : Int32)) dX8_init_97 (by decide) ?_
  refine ab_iconst C (v := (4 : Int32)) dX8_init_98 (by decide) ?_
  obtain ⟨c_70, c_71, f⟩ := f
  obtain ⟨c_72, f⟩ := f
  refine ab_iast C (by rw [c_70]; decide) c_71 rfl c_72 (j := 5) (by decide) dX8_init_99 (fun h_73 e_74 => ?_)
  have f := f h_73 e_74
  refine ab_aload_n C 0 dX8_init_100 rfl rfl ?_
  obtain ⟨c_75, f⟩ := f
  obtain ⟨q_76, c_77, f⟩ := f
  refine ab_getR C (q := q_76) fl_X8_7 rfl kd_105 c_75 c_77 dX8_init_101 ?_
  refine ab_bipush C (v := (6 : Int32)) dX8_init_104 (by decide) ?_
  refine ab_iconst C (v := (1 : Int32)) dX8_init_106 (by decide) ?_
  obtain ⟨c_78, c_79, f⟩ := f
  obtain ⟨c_80, f⟩ := f
  refine ab_iast C (by rw [c_78]; decide) c_79 rfl c_80 (j := 6) (by decide) dX8_init_107 (fun h_81 e_82 => ?_)
  have f := f h_81 e_82
  exact ab_vret C dX8_init_108 ⟨rfl, f⟩
/-! X8_isDigitHere -/
def rm_X8_isDigitHere : Room := { frames := 3, cells := 0, slots := 0, locals := 125 }
def wp_X8_isDigitHere (h : hp_T) (Q : Int32 → Prop) : Prop :=
  (((hp_i h 105 10) = 0 → wp_X8_byteHere h (fun v_2 => wp_X8_in v_2.toInt64 (48 : Int64) (57 : Int64) h (fun v_3 => ((v_3 = 0 → (Q (0 : Int32))) ∧ (¬ (v_3 = 0) → (Q (1 : Int32))))))) ∧ (¬ ((hp_i h 105 10) = 0) → (Q (0 : Int32))))
set_option maxRecDepth 100000 in
set_option maxHeartbeats 4000000 in
theorem mt_X8_isDigitHere {l : Launch} {G : ab_G}  {h : hp_T} {Q : Int32 → Prop} (hw : wf h) (f : wp_X8_isDigitHere h Q) : ab_M l G yX8_isDigitHere cX8_isDigitHere 1 (some .boolean) rm_X8_isDigitHere 0 0 [.ref (G.1 + 105)] h (po_p h Q) := by
  refine ab_intro (own := RX8) (nm := "isDigitHere") rfl rfl rfl (Nat.le_of_ble_eq_true rfl) (fun F C => ?_)
  show ab_W l G F 1 (ab_MQ G F (po_p h Q) 0 0) 0 0 h [(0, .ref (G.1 + 105))] [] 0
  unfold wp_X8_isDigitHere at f
  refine ab_aload_n C 0 dX8_isDigitHere_0 rfl rfl ?_
  refine ab_getI C fl_X8_155 rfl kd_105 (wf_lt hw kd_105 rfl) dX8_isDigitHere_1 ?_
  refine ab_if_ne C (tgt := 28) dX8_isDigitHere_4 (by decide) (fun c_1 => ?_) (fun c_1 => ?_)
  · have f := f.2 c_1
    refine ab_iconst C (v := (0 : Int32)) dX8_isDigitHere_28 (by decide) ?_
    exact ab_zret C dX8_isDigitHere_29 rfl ⟨rfl, _, rfl, f⟩
  · have f := f.1 c_1
    refine ab_aload_n C 0 dX8_isDigitHere_7 rfl rfl ?_
    refine ab_callV C (k := 0) (n := 0) (rest := []) [] cl_X8_159 (mt_X8_byteHere  hw f) rfl (by decide) kd_105 (wf_lt hw kd_105 rfl) ⟨rfl, rfl, Nat.le_of_ble_eq_true rfl, Nat.le_of_ble_eq_true rfl, Nat.zero_le _, Nat.zero_le _⟩ rfl rfl (Nat.le_of_ble_eq_true rfl) dX8_isDigitHere_8 (ab_kp (k := 0) (n := 0) (fun v_2 f => ?_))
    refine ab_i2l C dX8_isDigitHere_11 ?_
    refine ab_ldc2 C kw_t991 dX8_isDigitHere_12 ?_
    refine ab_ldc2 C kw_t992 dX8_isDigitHere_15 ?_
    refine ab_callS C (k := 0) (n := 0) (rest := []) [.long v_2.toInt64, .long (48 : Int64), .long (57 : Int64)] cl_X8_44 (mt_X8_in  hw f) ⟨rfl, rfl, Nat.le_of_ble_eq_true rfl, Nat.le_of_ble_eq_true rfl, Nat.zero_le _, Nat.zero_le _⟩ rfl rfl (Nat.le_of_ble_eq_true rfl) dX8_isDigitHere_18 (ab_kp (k := 0) (n := 0) (fun v_3 f => ?_))
    refine ab_if_eq C (tgt := 28) dX8_isDigitHere_21 (by decide) (fun c_4 => ?_) (fun c_4 => ?_)
    · have f := f.1 c_4
      refine ab_iconst C (v := (0 : Int32)) dX8_isDigitHere_28 (by decide) ?_
      exact ab_zret C dX8_isDigitHere_29 rfl ⟨rfl, _, rfl, f⟩
    · have f := f.2 c_4
      refine ab_iconst C (v := (1 : Int32)) dX8_isDigitHere_24 (by decide) ?_
      refine ab_goto C (tgt := 29) dX8_isDigitHere_25 (by decide) ?_
      exact ab_zret C dX8_isDigitHere_29 rfl ⟨rfl, _, rfl, f⟩
/-! X8_isDoneWithout -/
def rm_X8_isDoneWithout : Room := { frames := 6, cells := 0, slots := 0, locals := 188 }
def wp_X8_isDoneWithout_b41 (x1 : Int32) (x2 : Int32) (h : hp_T) (Q : Int32 → Prop) (lp_5 : Int32 → Int32 → Prop) (y3 : Int32) (y4 : Int32) (y5 : Int32) (z0 : Int32) (z1 : Int32) : Prop :=
  wp_X8_isKnowing x2 y5 h (fun v_7 => ((v_7 = 0 → ((y3 = 0 → lp_5 (0 : Int32) (y4 + (1 : Int32))) ∧ (¬ (y3 = 0) → wp_X8_ofTask y4 (1 : Int32) h (fun v_10 => ((((z1 - z0) - (0 : Int32)) < v_10 → lp_5 (0 : Int32) (y4 + (1 : Int32))) ∧ (¬ (((z1 - z0) - (0 : Int32)) < v_10) → lp_5 (1 : Int32) (y4 + (1 : Int32)))))))) ∧ (¬ (v_7 = 0) → ((y3 = 0 → lp_5 (0 : Int32) (y4 + (1 : Int32))) ∧ (¬ (y3 = 0) → wp_X8_ofTask y4 (1 : Int32) h (fun v_13 => ((((z1 - z0) - (1 : Int32)) < v_13 → lp_5 (0 : Int32) (y4 + (1 : Int32))) ∧ (¬ (((z1 - z0) - (1 : Int32)) < v_13) → lp_5 (1 : Int32) (y4 + (1 : Int32))))))))))
set_option maxRecDepth 100000 in
set_option maxHeartbeats 4000000 in
theorem bt_X8_isDoneWithout_b41 {l : Launch} {G : ab_G} {F : ab_F} {x1 : Int32} {x2 : Int32} {h : hp_T} {Q : Int32 → Prop} {lp_5 : Int32 → Int32 → Prop} (C : ab_C G F rm_X8_isDoneWithout cX8_isDoneWithout 7 RX8 (some .boolean) "isDoneWithout")  (hw : wf h) (il_5 : ∀ (y3 : Int32) (y4 : Int32), lp_5 y3 y4 → ab_W l G F 7 (ab_MQ G F (po_p h Q) 0 0) 0 0 h [(0, .ref (G.1 + 105)), (1, .int x1), (2, .int x2), (3, .int y3), (4, .int y4)] [] 5) : ∀ (y3 : Int32) (y4 : Int32) (y5 : Int32) (z0 : Int32) (z1 : Int32), wp_X8_isDoneWithout_b41 x1 x2 h Q lp_5 y3 y4 y5 z0 z1 → ab_W l G F 7 (ab_MQ G F (po_p h Q) 0 0) 0 0 h [(0, .ref (G.1 + 105)), (1, .int x1), (2, .int x2), (3, .int y3), (4, .int y4), (5, .int y5)] [.int z0, .int z1] 41 := by
  intro y3 y4 y5 z0 z1 f
  unfold wp_X8_isDoneWithout_b41 at f
  refine ab_isub C dX8_isDoneWithout_41 ?_
  refine ab_aload_n C 0 dX8_isDoneWithout_42 rfl rfl ?_
  refine ab_iload_n C 2 dX8_isDoneWithout_43 rfl rfl ?_
  refine ab_iload C 5 dX8_isDoneWithout_44 rfl ?_
  refine ab_callV C (k := 0) (n := 0) (rest := [.int (z1 - z0)]) [.int x2, .int y5] cl_X8_118 (mt_X8_isKnowing  hw f) rfl (by decide) kd_105 (wf_lt hw kd_105 rfl) ⟨rfl, rfl, Nat.le_of_ble_eq_true rfl, Nat.le_of_ble_eq_true rfl, Nat.zero_le _, Nat.zero_le _⟩ rfl rfl (Nat.le_of_ble_eq_true rfl) dX8_isDoneWithout_46 (ab_kp (k := 0) (n := 0) (fun v_7 f => ?_))
  refine ab_if_eq C (tgt := 56) dX8_isDoneWithout_49 (by decide) (fun c_8 => ?_) (fun c_8 => ?_)
  · have f := f.1 c_8
    refine ab_iconst C (v := (0 : Int32)) dX8_isDoneWithout_56 (by decide) ?_
    refine ab_isub C dX8_isDoneWithout_57 ?_
    refine ab_istore C (lv' := [(6, .int ((z1 - z0) - (0 : Int32))), (0, .ref (G.1 + 105)), (1, .int x1), (2, .int x2), (3, .int y3), (4, .int y4), (5, .int y5)]) dX8_isDoneWithout_58 (by decide) rfl ?_
    refine ab_iload_n C 4 dX8_isDoneWithout_60 rfl rfl ?_
    refine ab_if_eq C (tgt := 80) dX8_isDoneWithout_61 (by decide) (fun c_9 => ?_) (fun c_9 => ?_)
    · have f := f.1 c_9
      refine ab_iconst C (v := (0 : Int32)) dX8_isDoneWithout_80 (by decide) ?_
      refine ab_istore_n C (lv' := [(3, .int (0 : Int32)), (6, .int ((z1 - z0) - (0 : Int32))), (0, .ref (G.1 + 105)), (1, .int x1), (2, .int x2), (4, .int y4), (5, .int y5)]) dX8_isDoneWithout_81 rfl (by decide) rfl ?_
      refine ab_iinc C (lv' := [(4, .int (y4 + (1 : Int32))), (3, .int (0 : Int32)), (6, .int ((z1 - z0) - (0 : Int32))), (0, .ref (G.1 + 105)), (1, .int x1), (2, .int x2), (5, .int y5)]) 5 (v := (y4 + (1 : Int32))) dX8_isDoneWithout_82 rfl rfl (by decide) rfl ?_
      refine ab_goto C (tgt := 5) dX8_isDoneWithout_85 (by decide) ?_
      refine ab_sub (lv' := [(0, .ref (G.1 + 105)), (1, .int x1), (2, .int x2), (3, .int (0 : Int32)), (4, .int (y4 + (1 : Int32)))]) [3, 4, 5, 1, 0] rfl ?_
      exact il_5 (0 : Int32) (y4 + (1 : Int32))   f
    · have f := f.2 c_9
      refine ab_iload C 0 dX8_isDoneWithout_64 rfl ?_
      refine ab_aload_n C 1 dX8_isDoneWithout_66 rfl rfl ?_
      refine ab_iload C 5 dX8_isDoneWithout_67 rfl ?_
      refine ab_iconst C (v := (1 : Int32)) dX8_isDoneWithout_69 (by decide) ?_
      refine ab_callV C (k := 0) (n := 0) (rest := [.int ((z1 - z0) - (0 : Int32))]) [.int y4, .int (1 : Int32)] cl_X8_136 (mt_X8_ofTask  hw f) rfl (by decide) kd_105 (wf_lt hw kd_105 rfl) ⟨rfl, rfl, Nat.le_of_ble_eq_true rfl, Nat.le_of_ble_eq_true rfl, Nat.zero_le _, Nat.zero_le _⟩ rfl rfl (Nat.le_of_ble_eq_true rfl) dX8_isDoneWithout_70 (ab_kp (k := 0) (n := 0) (fun v_10 f => ?_))
      refine ab_icmp_lt C (tgt := 80) dX8_isDoneWithout_73 (by decide) (fun c_11 => ?_) (fun c_11 => ?_)
      · have f := f.1 c_11
        refine ab_iconst C (v := (0 : Int32)) dX8_isDoneWithout_80 (by decide) ?_
        refine ab_istore_n C (lv' := [(3, .int (0 : Int32)), (6, .int ((z1 - z0) - (0 : Int32))), (0, .ref (G.1 + 105)), (1, .int x1), (2, .int x2), (4, .int y4), (5, .int y5)]) dX8_isDoneWithout_81 rfl (by decide) rfl ?_
        refine ab_iinc C (lv' := [(4, .int (y4 + (1 : Int32))), (3, .int (0 : Int32)), (6, .int ((z1 - z0) - (0 : Int32))), (0, .ref (G.1 + 105)), (1, .int x1), (2, .int x2), (5, .int y5)]) 5 (v := (y4 + (1 : Int32))) dX8_isDoneWithout_82 rfl rfl (by decide) rfl ?_
        refine ab_goto C (tgt := 5) dX8_isDoneWithout_85 (by decide) ?_
        refine ab_sub (lv' := [(0, .ref (G.1 + 105)), (1, .int x1), (2, .int x2), (3, .int (0 : Int32)), (4, .int (y4 + (1 : Int32)))]) [3, 4, 5, 1, 0] rfl ?_
        exact il_5 (0 : Int32) (y4 + (1 : Int32))   f
      · have f := f.2 c_11
        refine ab_iconst C (v := (1 : Int32)) dX8_isDoneWithout_76 (by decide) ?_
        refine ab_goto C (tgt := 81) dX8_isDoneWithout_77 (by decide) ?_
        refine ab_istore_n C (lv' := [(3, .int (1 : Int32)), (6, .int ((z1 - z0) - (0 : Int32))), (0, .ref (G.1 + 105)), (1, .int x1), (2, .int x2), (4, .int y4), (5, .int y5)]) dX8_isDoneWithout_81 rfl (by decide) rfl ?_
        refine ab_iinc C (lv' := [(4, .int (y4 + (1 : Int32))), (3, .int (1 : Int32)), (6, .int ((z1 - z0) - (0 : Int32))), (0, .ref (G.1 + 105)), (1, .int x1), (2, .int x2), (5, .int y5)]) 5 (v := (y4 + (1 : Int32))) dX8_isDoneWithout_82 rfl rfl (by decide) rfl ?_
        refine ab_goto C (tgt := 5) dX8_isDoneWithout_85 (by decide) ?_
        refine ab_sub (lv' := [(0, .ref (G.1 + 105)), (1, .int x1), (2, .int x2), (3, .int (1 : Int32)), (4, .int (y4 + (1 : Int32)))]) [3, 4, 5, 1, 0] rfl ?_
        exact il_5 (1 : Int32) (y4 + (1 : Int32))   f
  · have f := f.2 c_8
    refine ab_iconst C (v := (1 : Int32)) dX8_isDoneWithout_52 (by decide) ?_
    refine ab_goto C (tgt := 57) dX8_isDoneWithout_53 (by decide) ?_
    refine ab_isub C dX8_isDoneWithout_57 ?_
    refine ab_istore C (lv' := [(6, .int ((z1 - z0) - (1 : Int32))), (0, .ref (G.1 + 105)), (1, .int x1), (2, .int x2), (3, .int y3), (4, .int y4), (5, .int y5)]) dX8_isDoneWithout_58 (by decide) rfl ?_
    refine ab_iload_n C 4 dX8_isDoneWithout_60 rfl rfl ?_
    refine ab_if_eq C (tgt := 80) dX8_isDoneWithout_61 (by decide) (fun c_12 => ?_) (fun c_12 => ?_)
    · have f := f.1 c_12
      refine ab_iconst C (v := (0 : Int32)) dX8_isDoneWithout_80 (by decide) ?_
      refine ab_istore_n C (lv' := [(3, .int (0 : Int32)), (6, .int ((z1 - z0) - (1 : Int32))), (0, .ref (G.1 + 105)), (1, .int x1), (2, .int x2), (4, .int y4), (5, .int y5)]) dX8_isDoneWithout_81 rfl (by decide) rfl ?_
      refine ab_iinc C (lv' := [(4, .int (y4 + (1 : Int32))), (3, .int (0 : Int32)), (6, .int ((z1 - z0) - (1 : Int32))), (0, .ref (G.1 + 105)), (1, .int x1), (2, .int x2), (5, .int y5)]) 5 (v := (y4 + (1 : Int32))) dX8_isDoneWithout_82 rfl rfl (by decide) rfl ?_
      refine ab_goto C (tgt := 5) dX8_isDoneWithout_85 (by decide) ?_
      refine ab_sub (lv' := [(0, .ref (G.1 + 105)), (1, .int x1), (2, .int x2), (3, .int (0 : Int32)), (4, .int (y4 + (1 : Int32)))]) [3, 4, 5, 1, 0] rfl ?_
      exact il_5 (0 : Int32) (y4 + (1 : Int32))   f
    · have f := f.2 c_12
      refine ab_iload C 0 dX8_isDoneWithout_64 rfl ?_
      refine ab_aload_n C 1 dX8_isDoneWithout_66 rfl rfl ?_
      refine ab_iload C 5 dX8_isDoneWithout_67 rfl ?_
      refine ab_iconst C (v := (1 : Int32)) dX8_isDoneWithout_69 (by decide) ?_
      refine ab_callV C (k := 0) (n := 0) (rest := [.int ((z1 - z0) - (1 : Int32))]) [.int y4, .int (1 : Int32)] cl_X8_136 (mt_X8_ofTask  hw f) rfl (by decide) kd_105 (wf_lt hw kd_105 rfl) ⟨rfl, rfl, Nat.le_of_ble_eq_true rfl, Nat.le_of_ble_eq_true rfl, Nat.zero_le _, Nat.zero_le _⟩ rfl rfl (Nat.le_of_ble_eq_true rfl) dX8_isDoneWithout_70 (ab_kp (k := 0) (n := 0) (fun v_13 f => ?_))
      refine ab_icmp_lt C (tgt := 80) dX8_isDoneWithout_73 (by decide) (fun c_14 => ?_) (fun c_14 => ?_)
      · have f := f.1 c_14
        refine ab_iconst C (v := (0 : Int32)) dX8_isDoneWithout_80 (by decide) ?_
        refine ab_istore_n C (lv' := [(3, .int (0 : Int32)), (6, .int ((z1 - z0) - (1 : Int32))), (0, .ref (G.1 + 105)), (1, .int x1), (2, .int x2), (4, .int y4), (5, .int y5)]) dX8_isDoneWithout_81 rfl (by decide) rfl ?_
        refine ab_iinc C (lv' := [(4, .int (y4 + (1 : Int32))), (3, .int (0 : Int32)), (6, .int ((z1 - z0) - (1 : Int32))), (0, .ref (G.1 + 105)), (1, .int x1), (2, .int x2), (5, .int y5)]) 5 (v := (y4 + (1 : Int32))) dX8_isDoneWithout_82 rfl rfl (by decide) rfl ?_
        refine ab_goto C (tgt := 5) dX8_isDoneWithout_85 (by decide) ?_
        refine ab_sub (lv' := [(0, .ref (G.1 + 105)), (1, .int x1), (2, .int x2), (3, .int (0 : Int32)), (4, .int (y4 + (1 : Int32)))]) [3, 4, 5, 1, 0] rfl ?_
        exact il_5 (0 : Int32) (y4 + (1 : Int32))   f
      · have f := f.2 c_14
        refine ab_iconst C (v := (1 : Int32)) dX8_isDoneWithout_76 (by decide) ?_
        refine ab_goto C (tgt := 81) dX8_isDoneWithout_77 (by decide) ?_
        refine ab_istore_n C (lv' := [(3, .int (1 : Int32)), (6, .int ((z1 - z0) - (1 : Int32))), (0, .ref (G.1 + 105)), (1, .int x1), (2, .int x2), (4, .int y4), (5, .int y5)]) dX8_isDoneWithout_81 rfl (by decide) rfl ?_
        refine ab_iinc C (lv' := [(4, .int (y4 + (1 : Int32))), (3, .int (1 : Int32)), (6, .int ((z1 - z0) - (1 : Int32))), (0, .ref (G.1 + 105)), (1, .int x1), (2, .int x2), (5, .int y5)]) 5 (v := (y4 + (1 : Int32))) dX8_isDoneWithout_82 rfl rfl (by decide) rfl ?_
        refine ab_goto C (tgt := 5) dX8_isDoneWithout_85 (by decide) ?_
        refine ab_sub (lv' := [(0, .ref (G.1 + 105)), (1, .int x1), (2, .int x2), (3, .int (1 : Int32)), (4, .int (y4 + (1 : Int32)))]) [3, 4, 5, 1, 0] rfl ?_
        exact il_5 (1 : Int32) (y4 + (1 : Int32))   f
def wp_X8_isDoneWithout_L5 (x1 : Int32) (x2 : Int32) (h : hp_T) (Q : Int32 → Prop) : Nat → Int32 → Int32 → Prop
  | 0 => fun _ _ => False
  | nn + 1 => fun y3 y4 => (((4 : Int32) ≤ y4 → (bo_ok y3) ∧ (Q y3)) ∧ (¬ ((4 : Int32) ≤ y4) → wp_X8_ofTask y4 (0 : Int32) h (fun v_3 => wp_X8_knowers v_3 h (fun v_4 => wp_X8_isKnowing x1 v_3 h (fun v_5 => ((v_5 = 0 → (wp_X8_isDoneWithout_b41 x1 x2 h Q (wp_X8_isDoneWithout_L5 x1 x2 h Q nn) y3 y4 v_3 (0 : Int32) v_4)) ∧ (¬ (v_5 = 0) → (wp_X8_isDoneWithout_b41 x1 x2 h Q (wp_X8_isDoneWithout_L5 x1 x2 h Q nn) y3 y4 v_3 (1 : Int32) v_4))))))))
set_option maxRecDepth 100000 in
set_option maxHeartbeats 4000000 in
theorem bt_X8_isDoneWithout_L5 {l : Launch} {G : ab_G} {F : ab_F} {x1 : Int32} {x2 : Int32} {h : hp_T} {Q : Int32 → Prop}  (C : ab_C G F rm_X8_isDoneWithout cX8_isDoneWithout 7 RX8 (some .boolean) "isDoneWithout")  (hw : wf h)  : ∀ (nn : Nat) (y3 : Int32) (y4 : Int32), wp_X8_isDoneWithout_L5 x1 x2 h Q nn y3 y4 → ab_W l G F 7 (ab_MQ G F (po_p h Q) 0 0) 0 0 h [(0, .ref (G.1 + 105)), (1, .int x1), (2, .int x2), (3, .int y3), (4, .int y4)] [] 5 := by
  intro nn
  induction nn with
  | zero =>
    intro y3 y4 f
    exact absurd f id
  | succ nn ih =>
    intro y3 y4 f
    unfold wp_X8_isDoneWithout_L5 at f
    refine ab_iload C 4 dX8_isDoneWithout_5 rfl ?_
    refine ab_iconst C (v := (4 : Int32)) dX8_isDoneWithout_7 (by decide) ?_
    refine ab_icmp_ge C (tgt := 88) dX8_isDoneWithout_8 (by decide) (fun c_1 => ?_) (fun c_1 => ?_)
    · have f := f.1 c_1
      refine ab_iload_n C 3 dX8_isDoneWithout_88 rfl rfl ?_
      obtain ⟨c_2, f⟩ := f
      exact ab_zret C dX8_isDoneWithout_89 (bo_nar c_2) ⟨rfl, _, rfl, f⟩
    · have f := f.2 c_1
      refine ab_aload_n C 0 dX8_isDoneWithout_11 rfl rfl ?_
      refine ab_iload C 4 dX8_isDoneWithout_12 rfl ?_
      refine ab_iconst C (v := (0 : Int32)) dX8_isDoneWithout_14 (by decide) ?_
      refine ab_callV C (k := 0) (n := 0) (rest := []) [.int y4, .int (0 : Int32)] cl_X8_136 (mt_X8_ofTask  hw f) rfl (by decide) kd_105 (wf_lt hw kd_105 rfl) ⟨rfl, rfl, Nat.le_of_ble_eq_true rfl, Nat.le_of_ble_eq_true rfl, Nat.zero_le _, Nat.zero_le _⟩ rfl rfl (Nat.le_of_ble_eq_true rfl) dX8_isDoneWithout_15 (ab_kp (k := 0) (n := 0) (fun v_3 f => ?_))
      refine ab_istore C (lv' := [(5, .int v_3), (0, .ref (G.1 + 105)), (1, .int x1), (2, .int x2), (3, .int y3), (4, .int y4)]) dX8_isDoneWithout_18 (by decide) rfl ?_
      refine ab_aload_n C 1 dX8_isDoneWithout_20 rfl rfl ?_
      refine ab_iload C 0 dX8_isDoneWithout_21 rfl ?_
      refine ab_callV C (k := 0) (n := 0) (rest := []) [.int v_3] cl_X8_139 (mt_X8_knowers  hw f) rfl (by decide) kd_105 (wf_lt hw kd_105 rfl) ⟨rfl, rfl, Nat.le_of_ble_eq_true rfl, Nat.le_of_ble_eq_true rfl, Nat.zero_le _, Nat.zero_le _⟩ rfl rfl (Nat.le_of_ble_eq_true rfl) dX8_isDoneWithout_23 (ab_kp (k := 0) (n := 0) (fun v_4 f => ?_))
      refine ab_aload_n C 1 dX8_isDoneWithout_26 rfl rfl ?_
      refine ab_iload_n C 2 dX8_isDoneWithout_27 rfl rfl ?_
      refine ab_iload C 0 dX8_isDoneWithout_28 rfl ?_
      refine ab_callV C (k := 0) (n := 0) (rest := [.int v_4]) [.int x1, .int v_3] cl_X8_118 (mt_X8_isKnowing  hw f) rfl (by decide) kd_105 (wf_lt hw kd_105 rfl) ⟨rfl, rfl, Nat.le_of_ble_eq_true rfl, Nat.le_of_ble_eq_true rfl, Nat.zero_le _, Nat.zero_le _⟩ rfl rfl (Nat.le_of_ble_eq_true rfl) dX8_isDoneWithout_30 (ab_kp (k := 0) (n := 0) (fun v_5 f => ?_))
      refine ab_if_eq C (tgt := 40) dX8_isDoneWithout_33 (by decide) (fun c_6 => ?_) (fun c_6 => ?_)
      · have f := f.1 c_6
        refine ab_iconst C (v := (0 : Int32)) dX8_isDoneWithout_40 (by decide) ?_
        refine ab_sub (lv' := [(0, .ref (G.1 + 105)), (1, .int x1), (2, .int x2), (3, .int y3), (4, .int y4), (5, .int v_3)]) [1, 2, 3, 4, 5, 0] rfl ?_
        exact bt_X8_isDoneWithout_b41 C  hw ih  y3 y4 v_3 (0 : Int32) v_4   f
      · have f := f.2 c_6
        refine ab_iconst C (v := (1 : Int32)) dX8_isDoneWithout_36 (by decide) ?_
        refine ab_goto C (tgt := 41) dX8_isDoneWithout_37 (by decide) ?_
        refine ab_sub (lv' := [(0, .ref (G.1 + 105)), (1, .int x1), (2, .int x2), (3, .int y3), (4, .int y4), (5, .int v_3)]) [1, 2, 3, 4, 5, 0] rfl ?_
        exact bt_X8_isDoneWithout_b41 C  hw ih  y3 y4 v_3 (1 : Int32) v_4   f
def wp_X8_isDoneWithout (x1 : Int32) (x2 : Int32) (h : hp_T) (Q : Int32 → Prop) : Prop :=
  (∃ n0, wp_X8_isDoneWithout_L5 x1 x2 h Q  n0 (1 : Int32) (0 : Int32))
set_option maxRecDepth 100000 in
set_option maxHeartbeats 4000000 in
theorem mt_X8_isDoneWithout {l : Launch} {G : ab_G} {x1 : Int32} {x2 : Int32} {h : hp_T} {Q : Int32 → Prop} (hw : wf h) (f : wp_X8_isDoneWithout x1 x2 h Q) : ab_M l G yX8_isDoneWithout cX8_isDoneWithout 7 (some .boolean) rm_X8_isDoneWithout 0 0 [.ref (G.1 + 105), .int x1, .int x2] h (po_p h Q) := by
  refine ab_intro (own := RX8) (nm := "isDoneWithout") rfl rfl rfl (Nat.le_of_ble_eq_true rfl) (fun F C => ?_)
  show ab_W l G F 7 (ab_MQ G F (po_p h Q) 0 0) 0 0 h [(0, .ref (G.1 + 105)), (1, .int x1), (2, .int x2)] [] 0
  unfold wp_X8_isDoneWithout at f
  refine ab_iconst C (v := (1 : Int32)) dX8_isDoneWithout_0 (by decide) ?_
  refine ab_istore_n C (lv' := [(3, .int (1 : Int32)), (0, .ref (G.1 + 105)), (1, .int x1), (2, .int x2)]) dX8_isDoneWithout_1 rfl (by decide) rfl ?_
  refine ab_iconst C (v := (0 : Int32)) dX8_isDoneWithout_2 (by decide) ?_
  refine ab_istore C (lv' := [(4, .int (0 : Int32)), (3, .int (1 : Int32)), (0, .ref (G.1 + 105)), (1, .int x1), (2, .int x2)]) dX8_isDoneWithout_3 (by decide) rfl ?_
  obtain ⟨n0, f⟩ := f
  refine ab_sub (lv' := [(0, .ref (G.1 + 105)), (1, .int x1), (2, .int x2), (3, .int (1 : Int32)), (4, .int (0 : Int32))]) [2, 3, 4, 1, 0] rfl ?_
  exact bt_X8_isDoneWithout_L5 C  hw  n0 (1 : Int32) (0 : Int32)   f
/-! X8_isHere -/
def rm_X8_isHere : Room := { frames := 3, cells := 0, slots := 0, locals := 120 }
def wp_X8_isHere (x1 : Int32) (h : hp_T) (Q : Int32 → Prop) : Prop :=
  (((hp_i h 105 10) = 0 → wp_X8_byteHere h (fun v_2 => ((v_2 = x1 → (Q (1 : Int32))) ∧ (¬ (v_2 = x1) → (Q (0 : Int32)))))) ∧ (¬ ((hp_i h 105 10) = 0) → (Q (0 : Int32))))
set_option maxRecDepth 100000 in
set_option maxHeartbeats 4000000 in
theorem mt_X8_isHere {l : Launch} {G : ab_G} {x1 : Int32} {h : hp_T} {Q : Int32 → Prop} (hw : wf h) (f : wp_X8_isHere x1 h Q) : ab_M l G yX8_isHere cX8_isHere 2 (some .boolean) rm_X8_isHere 0 0 [.ref (G.1 + 105), .int x1] h (po_p h Q) := by
  refine ab_intro (own := RX8) (nm := "isHere") rfl rfl rfl (Nat.le_of_ble_eq_true rfl) (fun F C => ?_)
  show ab_W l G F 2 (ab_MQ G F (po_p h Q) 0 0) 0 0 h [(0, .ref (G.1 + 105)), (1, .int x1)] [] 0
  unfold wp_X8_isHere at f
  refine ab_aload_n C 0 dX8_isHere_0 rfl rfl ?_
  refine ab_getI C fl_X8_155 rfl kd_105 (wf_lt hw kd_105 rfl) dX8_isHere_1 ?_
  refine ab_if_ne C (tgt := 19) dX8_isHere_4 (by decide) (fun c_1 => ?_) (fun c_1 => ?_)
  · have f := f.2 c_1
    refine ab_iconst C (v := (0 : Int32)) dX8_isHere_19 (by decide) ?_
    exact ab_zret C dX8_isHere_20 rfl ⟨rfl, _, rfl, f⟩
  · have f := f.1 c_1
    refine ab_aload_n C 0 dX8_isHere_7 rfl rfl ?_
    refine ab_callV C (k := 0) (n := 0) (rest := []) [] cl_X8_159 (mt_X8_byteHere  hw f) rfl (by decide) kd_105 (wf_lt hw kd_105 rfl) ⟨rfl, rfl, Nat.le_of_ble_eq_true rfl, Nat.le_of_ble_eq_true rfl, Nat.zero_le _, Nat.zero_le _⟩ rfl rfl (Nat.le_of_ble_eq_true rfl) dX8_isHere_8 (ab_kp (k := 0) (n := 0) (fun v_2 f => ?_))
    refine ab_iload_n C 1 dX8_isHere_11 rfl rfl ?_
    refine ab_icmp_ne C (tgt := 19) dX8_isHere_12 (by decide) (fun c_3 => ?_) (fun c_3 => ?_)
    · have f := f.2 c_3
      refine ab_iconst C (v := (0 : Int32)) dX8_isHere_19 (by decide) ?_
      exact ab_zret C dX8_isHere_20 rfl ⟨rfl, _, rfl, f⟩
    · have f := f.1 c_3
      refine ab_iconst C (v := (1 : Int32)) dX8_isHere_15 (by decide) ?_
      refine ab_goto C (tgt := 20) dX8_isHere_16 (by decide) ?_
      exact ab_zret C dX8_isHere_20 rfl ⟨rfl, _, rfl, f⟩
/-! X8_isKept -/
def rm_X8_isKept : Room := { frames := 7, cells := 0, slots := 0, locals := 222 }
def wp_X8_isKept_L51 (x1 : Int32) (x2 : Int32) (x3 : Int32) (Q : Int32 → hp_T → Prop) : Nat → Int32 → Int32 → hp_T → Prop
  | 0 => fun _ _ _ => False
  | nn + 1 => fun y4 y5 h => ((x2 ≤ y5 → wp_X8_putsBack h (fun h_3 => (bo_ok y4) ∧ (Q y4 h_3))) ∧ (¬ (x2 ≤ y5) → ((y4 = 0 → wp_X8_putsBack h (fun h_7 => (bo_ok y4) ∧ (Q y4 h_7))) ∧ (¬ (y4 = 0) → wp_X8_day (0 : Int32) h (fun h_10 => wp_X8_knowers x1 h_10 (fun v_12 => ((v_12 ≤ 0 → (wp_X8_isKept_L51 x1 x2 x3 Q nn) (0 : Int32) (y5 + (1 : Int32)) h_10) ∧ (¬ (v_12 ≤ 0) → (wp_X8_isKept_L51 x1 x2 x3 Q nn) (1 : Int32) (y5 + (1 : Int32)) h_10))))))))
set_option maxRecDepth 100000 in
set_option maxHeartbeats 4000000 in
theorem bt_X8_isKept_L51 {l : Launch} {G : ab_G} {F : ab_F} {x1 : Int32} {x2 : Int32} {x3 : Int32} {Q : Int32 → hp_T → Prop}  (C : ab_C G F rm_X8_isKept cX8_isKept 6 RX8 (some .boolean) "isKept")   : ∀ (nn : Nat) (y4 : Int32) (y5 : Int32) (h : hp_T), wf h → wp_X8_isKept_L51 x1 x2 x3 Q nn y4 y5 h → ab_W l G F 6 (ab_MQ G F (po_h Q) 0 0) 0 0 h [(0, .ref (G.1 + 105)), (1, .int x1), (2, .int x2), (4, .int y4), (5, .int y5)] [] 51 := by
  intro nn
  induction nn with
  | zero =>
    intro y4 y5 h hw f
    exact absurd f id
  | succ nn ih =>
    intro y4 y5 h hw f
    unfold wp_X8_isKept_L51 at f
    refine ab_iload C 4 dX8_isKept_51 rfl ?_
    refine ab_iload_n C 2 dX8_isKept_53 rfl rfl ?_
    refine ab_icmp_ge C (tgt := 88) dX8_isKept_54 (by decide) (fun c_2 => ?_) (fun c_2 => ?_)
    · have f := f.1 c_2
      refine ab_aload_n C 0 dX8_isKept_88 rfl rfl ?_
      refine ab_callV C (k := 0) (n := 0) (rest := []) [] cl_X8_259 (mt_X8_putsBack  hw f) rfl (by decide) kd_105 (wf_lt hw kd_105 rfl) ⟨rfl, rfl, Nat.le_of_ble_eq_true rfl, Nat.le_of_ble_eq_true rfl, Nat.zero_le _, Nat.zero_le _⟩ rfl rfl (Nat.le_of_ble_eq_true rfl) dX8_isKept_89 (ab_kv (k := 0) (n := 0) (fun h_3 hw_4 f => ?_))
      refine ab_iload C 3 dX8_isKept_92 rfl ?_
      obtain ⟨c_5, f⟩ := f
      exact ab_zret C dX8_isKept_94 (bo_nar c_5) ⟨hw_4, _, rfl, f⟩
    · have f := f.2 c_2
      refine ab_iload C 3 dX8_isKept_57 rfl ?_
      refine ab_if_eq C (tgt := 88) dX8_isKept_59 (by decide) (fun c_6 => ?_) (fun c_6 => ?_)
      · have f := f.1 c_6
        refine ab_aload_n C 0 dX8_isKept_88 rfl rfl ?_
        refine ab_callV C (k := 0) (n := 0) (rest := []) [] cl_X8_259 (mt_X8_putsBack  hw f) rfl (by decide) kd_105 (wf_lt hw kd_105 rfl) ⟨rfl, rfl, Nat.le_of_ble_eq_true rfl, Nat.le_of_ble_eq_true rfl, Nat.zero_le _, Nat.zero_le _⟩ rfl rfl (Nat.le_of_ble_eq_true rfl) dX8_isKept_89 (ab_kv (k := 0) (n := 0) (fun h_7 hw_8 f => ?_))
        refine ab_iload C 3 dX8_isKept_92 rfl ?_
        obtain ⟨c_9, f⟩ := f
        exact ab_zret C dX8_isKept_94 (bo_nar c_9) ⟨hw_8, _, rfl, f⟩
      · have f := f.2 c_6
        refine ab_aload_n C 0 dX8_isKept_62 rfl rfl ?_
        refine ab_iconst C (v := (0 : Int32)) dX8_isKept_63 (by decide) ?_
        refine ab_callV C (k := 0) (n := 0) (rest := []) [.int (0 : Int32)] cl_X8_238 (mt_X8_day  hw f) rfl (by decide) kd_105 (wf_lt hw kd_105 rfl) ⟨rfl, rfl, Nat.le_of_ble_eq_true rfl, Nat.le_of_ble_eq_true rfl, Nat.zero_le _, Nat.zero_le _⟩ rfl rfl (Nat.le_of_ble_eq_true rfl) dX8_isKept_64 (ab_kv (k := 0) (n := 0) (fun h_10 hw_11 f => ?_))
        refine ab_aload_n C 0 dX8_isKept_67 rfl rfl ?_
        refine ab_iload_n C 1 dX8_isKept_68 rfl rfl ?_
        refine ab_callV C (k := 0) (n := 0) (rest := []) [.int x1] cl_X8_139 (mt_X8_knowers  hw_11 f) rfl (by decide) kd_105 (wf_lt hw_11 kd_105 rfl) ⟨rfl, rfl, Nat.le_of_ble_eq_true rfl, Nat.le_of_ble_eq_true rfl, Nat.zero_le _, Nat.zero_le _⟩ rfl rfl (Nat.le_of_ble_eq_true rfl) dX8_isKept_69 (ab_kp (k := 0) (n := 0) (fun v_12 f => ?_))
        refine ab_if_le C (tgt := 79) dX8_isKept_72 (by decide) (fun c_13 => ?_) (fun c_13 => ?_)
        · have f := f.1 c_13
          refine ab_iconst C (v := (0 : Int32)) dX8_isKept_79 (by decide) ?_
          refine ab_istore C (lv' := [(4, .int (0 : Int32)), (0, .ref (G.1 + 105)), (1, .int x1), (2, .int x2), (5, .int y5)]) dX8_isKept_80 (by decide) rfl ?_
          refine ab_iinc C (lv' := [(5, .int (y5 + (1 : Int32))), (4, .int (0 : Int32)), (0, .ref (G.1 + 105)), (1, .int x1), (2, .int x2)]) 4 (v := (y5 + (1 : Int32))) dX8_isKept_82 rfl rfl (by decide) rfl ?_
          refine ab_goto C (tgt := 51) dX8_isKept_85 (by decide) ?_
          refine ab_sub (lv' := [(0, .ref (G.1 + 105)), (1, .int x1), (2, .int x2), (4, .int (0 : Int32)), (5, .int (y5 + (1 : Int32)))]) [2, 3, 4, 1, 0] rfl ?_
          exact ih (0 : Int32) (y5 + (1 : Int32)) h_10  hw_11 f
        · have f := f.2 c_13
          refine ab_iconst C (v := (1 : Int32)) dX8_isKept_75 (by decide) ?_
          refine ab_goto C (tgt := 80) dX8_isKept_76 (by decide) ?_
          refine ab_istore C (lv' := [(4, .int (1 : Int32)), (0, .ref (G.1 + 105)), (1, .int x1), (2, .int x2), (5, .int y5)]) dX8_isKept_80 (by decide) rfl ?_
          refine ab_iinc C (lv' := [(5, .int (y5 + (1 : Int32))), (4, .int (1 : Int32)), (0, .ref (G.1 + 105)), (1, .int x1), (2, .int x2)]) 4 (v := (y5 + (1 : Int32))) dX8_isKept_82 rfl rfl (by decide) rfl ?_
          refine ab_goto C (tgt := 51) dX8_isKept_85 (by decide) ?_
          refine ab_sub (lv' := [(0, .ref (G.1 + 105)), (1, .int x1), (2, .int x2), (4, .int (1 : Int32)), (5, .int (y5 + (1 : Int32)))]) [2, 3, 4, 1, 0] rfl ?_
          exact ih (1 : Int32) (y5 + (1 : Int32)) h_10  hw_11 f
def wp_X8_isKept_L3 (x1 : Int32) (x2 : Int32) (x3 : Int32) (Q : Int32 → hp_T → Prop) : Nat → Int32 → hp_T → Prop
  | 0 => fun _ _ => False
  | nn + 1 => fun y4 h => (((hp_i h 106 0) ≤ y4 → (∃ n0, wp_X8_isKept_L51 x1 x2 x3 Q  n0 (1 : Int32) (0 : Int32) h)) ∧ (¬ ((hp_i h 106 0) ≤ y4) → wp_X8_at y4 (4 : Int32) h (fun v_14 => wp_X8_has x3 y4 h (fun v_15 => ((v_15 = 0 → (vp_in v_14 357) ∧ (∀ h_18, h_18 = hp_si h 106 v_14.toNatClampNeg (-1 : Int32) → (wp_X8_isKept_L3 x1 x2 x3 Q nn) (y4 + (1 : Int32)) h_18)) ∧ (¬ (v_15 = 0) → (vp_in v_14 357) ∧ (∀ h_22, h_22 = hp_si h 106 v_14.toNatClampNeg x1 → (wp_X8_isKept_L3 x1 x2 x3 Q nn) (y4 + (1 : Int32)) h_22)))))))
set_option maxRecDepth 100000 in
set_option maxHeartbeats 4000000 in
theorem bt_X8_isKept_L3 {l : Launch} {G : ab_G} {F : ab_F} {x1 : Int32} {x2 : Int32} {x3 : Int32} {Q : Int32 → hp_T → Prop}  (C : ab_C G F rm_X8_isKept cX8_isKept 6 RX8 (some .boolean) "isKept")   : ∀ (nn : Nat) (y4 : Int32) (h : hp_T), wf h → wp_X8_isKept_L3 x1 x2 x3 Q nn y4 h → ab_W l G F 6 (ab_MQ G F (po_h Q) 0 0) 0 0 h [(0, .ref (G.1 + 105)), (1, .int x1), (2, .int x2), (3, .int x3), (4, .int y4)] [] 3 := by
  intro nn
  induction nn with
  | zero =>
    intro y4 h hw f
    exact absurd f id
  | succ nn ih =>
    intro y4 h hw f
    unfold wp_X8_isKept_L3 at f
    refine ab_iload C 4 dX8_isKept_3 rfl ?_
    refine ab_aload_n C 0 dX8_isKept_5 rfl rfl ?_
    refine ab_getR C (q := 106) fl_X8_7 rfl kd_105 (wf_lt hw kd_105 rfl) (wr_8_0 hw) dX8_isKept_6 ?_
    refine ab_iconst C (v := (0 : Int32)) dX8_isKept_9 (by decide) ?_
    refine ab_iald C (by rw [kd_106]; decide) (wf_lt hw kd_106 rfl) (wf_len hw kd_106 rfl rfl (by decide)) (vp_lit (by decide)) (j := 0) (by decide) dX8_isKept_10 ?_
    refine ab_icmp_ge C (tgt := 45) dX8_isKept_11 (by decide) (fun c_1 => ?_) (fun c_1 => ?_)
    · have f := f.1 c_1
      refine ab_iconst C (v := (1 : Int32)) dX8_isKept_45 (by decide) ?_
      refine ab_istore C (lv' := [(4, .int (1 : Int32)), (0, .ref (G.1 + 105)), (1, .int x1), (2, .int x2), (3, .int x3)]) dX8_isKept_46 (by decide) rfl ?_
      refine ab_iconst C (v := (0 : Int32)) dX8_isKept_48 (by decide) ?_
      refine ab_istore C (lv' := [(5, .int (0 : Int32)), (4, .int (1 : Int32)), (0, .ref (G.1 + 105)), (1, .int x1), (2, .int x2), (3, .int x3)]) dX8_isKept_49 (by decide) rfl ?_
      obtain ⟨n0, f⟩ := f
      refine ab_sub (lv' := [(0, .ref (G.1 + 105)), (1, .int x1), (2, .int x2), (4, .int (1 : Int32)), (5, .int (0 : Int32))]) [2, 3, 4, 1, 0] rfl ?_
      exact bt_X8_isKept_L51 C    n0 (1 : Int32) (0 : Int32) h  hw f
    · have f := f.2 c_1
      refine ab_aload_n C 0 dX8_isKept_14 rfl rfl ?_
      refine ab_getR C (q := 106) fl_X8_7 rfl kd_105 (wf_lt hw kd_105 rfl) (wr_8_0 hw) dX8_isKept_15 ?_
      refine ab_iload C 4 dX8_isKept_18 rfl ?_
      refine ab_iconst C (v := (4 : Int32)) dX8_isKept_20 (by decide) ?_
      refine ab_callS C (k := 0) (n := 0) (rest := [.ref (G.1 + 106)]) [.int y4, .int (4 : Int32)] cl_X8_56 (mt_X8_at  hw f) ⟨rfl, rfl, Nat.le_of_ble_eq_true rfl, Nat.le_of_ble_eq_true rfl, Nat.zero_le _, Nat.zero_le _⟩ rfl rfl (Nat.le_of_ble_eq_true rfl) dX8_isKept_21 (ab_kp (k := 0) (n := 0) (fun v_14 f => ?_))
      refine ab_iload_n C 3 dX8_isKept_24 rfl rfl ?_
      refine ab_iload C 4 dX8_isKept_25 rfl ?_
      refine ab_callS C (k := 0) (n := 0) (rest := [.int v_14, .ref (G.1 + 106)]) [.int x3, .int y4] cl_X8_63 (mt_X8_has  hw f) ⟨rfl, rfl, Nat.le_of_ble_eq_true rfl, Nat.le_of_ble_eq_true rfl, Nat.zero_le _, Nat.zero_le _⟩ rfl rfl (Nat.le_of_ble_eq_true rfl) dX8_isKept_27 (ab_kp (k := 0) (n := 0) (fun v_15 f => ?_))
      refine ab_if_eq C (tgt := 37) dX8_isKept_30 (by decide) (fun c_16 => ?_) (fun c_16 => ?_)
      · have f := f.1 c_16
        refine ab_iconst C (v := (-1 : Int32)) dX8_isKept_37 (by decide) ?_
        obtain ⟨c_17, f⟩ := f
        refine ab_iast C (by rw [kd_106]; decide) (wf_lt hw kd_106 rfl) (wf_len hw kd_106 rfl rfl (by decide)) c_17 (j := v_14.toNatClampNeg) rfl dX8_isKept_38 (fun h_18 e_19 => ?_)
        have f := f h_18 e_19
        have hw_20 := wf_si e_19 hw
        refine ab_iinc C (lv' := [(4, .int (y4 + (1 : Int32))), (0, .ref (G.1 + 105)), (1, .int x1), (2, .int x2), (3, .int x3)]) 4 (v := (y4 + (1 : Int32))) dX8_isKept_39 rfl rfl (by decide) rfl ?_
        refine ab_goto C (tgt := 3) dX8_isKept_42 (by decide) ?_
        refine ab_sub (lv' := [(0, .ref (G.1 + 105)), (1, .int x1), (2, .int x2), (3, .int x3), (4, .int (y4 + (1 : Int32)))]) [1, 2, 3, 4, 0] rfl ?_
        exact ih (y4 + (1 : Int32)) h_18  hw_20 f
      · have f := f.2 c_16
        refine ab_iload_n C 1 dX8_isKept_33 rfl rfl ?_
        refine ab_goto C (tgt := 38) dX8_isKept_34 (by decide) ?_
        obtain ⟨c_21, f⟩ := f
        refine ab_iast C (by rw [kd_106]; decide) (wf_lt hw kd_106 rfl) (wf_len hw kd_106 rfl rfl (by decide)) c_21 (j := v_14.toNatClampNeg) rfl dX8_isKept_38 (fun h_22 e_23 => ?_)
        have f := f h_22 e_23
        have hw_24 := wf_si e_23 hw
        refine ab_iinc C (lv' := [(4, .int (y4 + (1 : Int32))), (0, .ref (G.1 + 105)), (1, .int x1), (2, .int x2), (3, .int x3)]) 4 (v := (y4 + (1 : Int32))) dX8_isKept_39 rfl rfl (by decide) rfl ?_
        refine ab_goto C (tgt := 3) dX8_isKept_42 (by decide) ?_
        refine ab_sub (lv' := [(0, .ref (G.1 + 105)), (1, .int x1), (2, .int x2), (3, .int x3), (4, .int (y4 + (1 : Int32)))]) [1, 2, 3, 4, 0] rfl ?_
        exact ih (y4 + (1 : Int32)) h_22  hw_24 f
def wp_X8_isKept (x1 : Int32) (x2 : Int32) (x3 : Int32) (h : hp_T) (Q : Int32 → hp_T → Prop) : Prop :=
  (∃ n0, wp_X8_isKept_L3 x1 x2 x3 Q  n0 (0 : Int32) h)
set_option maxRecDepth 100000 in
set_option maxHeartbeats 4000000 in
theorem mt_X8_isKept {l : Launch} {G : ab_G} {x1 : Int32} {x2 : Int32} {x3 : Int32} {h : hp_T} {Q : Int32 → hp_T → Prop} (hw : wf h) (f : wp_X8_isKept x1 x2 x3 h Q) : ab_M l G yX8_isKept cX8_isKept 6 (some .boolean) rm_X8_isKept 0 0 [.ref (G.1 + 105), .int x1, .int x2, .int x3] h (po_h Q) := by
  refine ab_intro (own := RX8) (nm := "isKept") rfl rfl rfl (Nat.le_of_ble_eq_true rfl) (fun F C => ?_)
  show ab_W l G F 6 (ab_MQ G F (po_h Q) 0 0) 0 0 h [(0, .ref (G.1 + 105)), (1, .int x1), (2, .int x2), (3, .int x3)] [] 0
  unfold wp_X8_isKept at f
  refine ab_iconst C (v := (0 : Int32)) dX8_isKept_0 (by decide) ?_
  refine ab_istore C (lv' := [(4, .int (0 : Int32)), (0, .ref (G.1 + 105)), (1, .int x1), (2, .int x2), (3, .int x3)]) dX8_isKept_1 (by decide) rfl ?_
  obtain ⟨n0, f⟩ := f
  refine ab_sub (lv' := [(0, .ref (G.1 + 105)), (1, .int x1), (2, .int x2), (3, .int x3), (4, .int (0 : Int32))]) [1, 2, 3, 4, 0] rfl ?_
  exact bt_X8_isKept_L3 C    n0 (0 : Int32) h  hw f
/-! X8_isSheet -/
def rm_X8_isSheet : Room := { frames := 3, cells := 0, slots := 0, locals := 125 }
def wp_X8_isSheet (x0 : Int32) (h : hp_T) (Q : Int32 → Prop) : Prop :=
  wp_X8_in x0.toInt64 (0 : Int64) (3 : Int64) h (fun v_1 => (bo_ok v_1) ∧ (Q v_1))
set_option maxRecDepth 100000 in
set_option maxHeartbeats 4000000 in
theorem mt_X8_isSheet {l : Launch} {G : ab_G} {x0 : Int32} {h : hp_T} {Q : Int32 → Prop} (hw : wf h) (f : wp_X8_isSheet x0 h Q) : ab_M l G yX8_isSheet cX8_isSheet 1 (some .boolean) rm_X8_isSheet 0 0 [.int x0] h (po_p h Q) := by
  refine ab_intro (own := RX8) (nm := "isSheet") rfl rfl rfl (Nat.le_of_ble_eq_true rfl) (fun F C => ?_)
  show ab_W l G F 1 (ab_MQ G F (po_p h Q) 0 0) 0 0 h [(0, .int x0)] [] 0
  unfold wp_X8_isSheet at f
  refine ab_iload_n C 0 dX8_isSheet_0 rfl rfl ?_
  refine ab_i2l C dX8_isSheet_1 ?_
  refine ab_lconst C (v := (0 : Int64)) dX8_isSheet_2 (by decide) ?_
  refine ab_ldc2 C kw_t924 dX8_isSheet_3 ?_
  refine ab_callS C (k := 0) (n := 0) (rest := []) [.long x0.toInt64, .long (0 : Int64), .long (3 : Int64)] cl_X8_44 (mt_X8_in  hw f) ⟨rfl, rfl, Nat.le_of_ble_eq_true rfl, Nat.le_of_ble_eq_true rfl, Nat.zero_le _, Nat.zero_le _⟩ rfl rfl (Nat.le_of_ble_eq_true rfl) dX8_isSheet_6 (ab_kp (k := 0) (n := 0) (fun v_1 f => ?_))
  obtain ⟨c_2, f⟩ := f
  exact ab_zret C dX8_isSheet_9 (bo_nar c_2) ⟨rfl, _, rfl, f⟩
/-! X8_isStanding -/
def rm_X8_isStanding : Room := { frames := 2, cells := 0, slots := 0, locals := 100 }
def wp_X8_isStanding (x1 : Int32) (x2 : Int32) (x3 : Int32) (h : hp_T) (Q : Int32 → Prop) : Prop :=
  ((x2 < 0 → (Q (0 : Int32))) ∧ (¬ (x2 < 0) → (vp_in x1 4) ∧ ((0 < (lg_cmp (x2.toInt64 + x3.toInt64) ((hp_i h 114 x1.toNatClampNeg).toInt64)) → (Q (0 : Int32))) ∧ (¬ (0 < (lg_cmp (x2.toInt64 + x3.toInt64) ((hp_i h 114 x1.toNatClampNeg).toInt64))) → (Q (1 : Int32))))))
set_option maxRecDepth 100000 in
set_option maxHeartbeats 4000000 in
theorem mt_X8_isStanding {l : Launch} {G : ab_G} {x1 : Int32} {x2 : Int32} {x3 : Int32} {h : hp_T} {Q : Int32 → Prop} (hw : wf h) (f : wp_X8_isStanding x1 x2 x3 h Q) : ab_M l G yX8_isStanding cX8_isStanding 4 (some .boolean) rm_X8_isStanding 0 0 [.ref (G.1 + 105), .int x1, .int x2, .int x3] h (po_p h Q) := by
  refine ab_intro (own := RX8) (nm := "isStanding") rfl rfl rfl (Nat.le_of_ble_eq_true rfl) (fun F C => ?_)
  show ab_W l G F 4 (ab_MQ G F (po_p h Q) 0 0) 0 0 h [(0, .ref (G.1 + 105)), (1, .int x1), (2, .int x2), (3, .int x3)] [] 0
  unfold wp_X8_isStanding at f
  refine ab_iload_n C 2 dX8_isStanding_0 rfl rfl ?_
  refine ab_if_lt C (tgt := 24) dX8_isStanding_1 (by decide) (fun c_1 => ?_) (fun c_1 => ?_)
  · have f := f.1 c_1
    refine ab_iconst C (v := (0 : Int32)) dX8_isStanding_24 (by decide) ?_
    exact ab_zret C dX8_isStanding_25 rfl ⟨rfl, _, rfl, f⟩
  · have f := f.2 c_1
    refine ab_iload_n C 2 dX8_isStanding_4 rfl rfl ?_
    refine ab_i2l C dX8_isStanding_5 ?_
    refine ab_iload_n C 3 dX8_isStanding_6 rfl rfl ?_
    refine ab_i2l C dX8_isStanding_7 ?_
    refine ab_ladd C dX8_isStanding_8 ?_
    refine ab_aload_n C 0 dX8_isStanding_9 rfl rfl ?_
    refine ab_getR C (q := 114) fl_X8_34 rfl kd_105 (wf_lt hw kd_105 rfl) (wr_8_19 hw) dX8_isStanding_10 ?_
    refine ab_iload_n C 1 dX8_isStanding_13 rfl rfl ?_
    obtain ⟨c_2, f⟩ := f
    refine ab_iald C (by rw [kd_114]; decide) (wf_lt hw kd_114 rfl) (wf_len hw kd_114 rfl rfl (by decide)) c_2 (j := x1.toNatClampNeg) rfl dX8_isStanding_14 ?_
    refine ab_i2l C dX8_isStanding_15 ?_
    refine ab_lcmp C dX8_isStanding_16 ?_
    refine ab_if_gt C (tgt := 24) dX8_isStanding_17 (by decide) (fun c_3 => ?_) (fun c_3 => ?_)
    · have f := f.1 c_3
      refine ab_iconst C (v := (0 : Int32)) dX8_isStanding_24 (by decide) ?_
      exact ab_zret C dX8_isStanding_25 rfl ⟨rfl, _, rfl, f⟩
    · have f := f.2 c_3
      refine ab_iconst C (v := (1 : Int32)) dX8_isStanding_20 (by decide) ?_
      refine ab_goto C (tgt := 25) dX8_isStanding_21 (by decide) ?_
      exact ab_zret C dX8_isStanding_25 rfl ⟨rfl, _, rfl, f⟩
/-! X8_wrong -/
def rm_X8_wrong : Room := { frames := 4, cells := 0, slots := 0, locals := 145 }
def wp_X8_wrong (x1 : Int32) (h : hp_T) (Q : Int32 → Prop) : Prop :=
  wp_X8_isSheet x1 h (fun v_1 => ((v_1 = 0 → (Q (-1000000001 : Int32))) ∧ (¬ (v_1 = 0) → (vp_in x1 4) ∧ (((hp_i h 113 x1.toNatClampNeg) = 0 → (Q (-1000000002 : Int32))) ∧ (¬ ((hp_i h 113 x1.toNatClampNeg) = 0) → (Q (0 : Int32)))))))
set_option maxRecDepth 100000 in
set_option maxHeartbeats 4000000 in
theorem mt_X8_wrong {l : Launch} {G : ab_G} {x1 : Int32} {h : hp_T} {Q : Int32 → Prop} (hw : wf h) (f : wp_X8_wrong x1 h Q) : ab_M l G yX8_wrong cX8_wrong 2 (some .int) rm_X8_wrong 0 0 [.ref (G.1 + 105), .int x1] h (po_p h Q) := by
  refine ab_intro (own := RX8) (nm := "wrong") rfl rfl rfl (Nat.le_of_ble_eq_true rfl) (fun F C => ?_)
  show ab_W l G F 2 (ab_MQ G F (po_p h Q) 0 0) 0 0 h [(0, .ref (G.1 + 105)), (1, .int x1)] [] 0
  unfold wp_X8_wrong at f
  refine ab_iload_n C 1 dX8_wrong_0 rfl rfl ?_
  refine ab_callS C (k := 0) (n := 0) (rest := []) [.int x1] cl_X8_303 (mt_X8_isSheet  hw f) ⟨rfl, rfl, Nat.le_of_ble_eq_true rfl, Nat.le_of_ble_eq_true rfl, Nat.zero_le _, Nat.zero_le _⟩ rfl rfl (Nat.le_of_ble_eq_true rfl) dX8_wrong_1 (ab_kp (k := 0) (n := 0) (fun v_1 f => ?_))
  refine ab_if_ne C (tgt := 12) dX8_wrong_4 (by decide) (fun c_2 => ?_) (fun c_2 => ?_)
  · have f := f.2 c_2
    refine ab_aload_n C 0 dX8_wrong_12 rfl rfl ?_
    refine ab_getR C (q := 113) fl_X8_31 rfl kd_105 (wf_lt hw kd_105 rfl) (wr_8_18 hw) dX8_wrong_13 ?_
    refine ab_iload_n C 1 dX8_wrong_16 rfl rfl ?_
    obtain ⟨c_3, f⟩ := f
    refine ab_iald C (by rw [kd_113]; decide) (wf_lt hw kd_113 rfl) (wf_len hw kd_113 rfl rfl (by decide)) c_3 (j := x1.toNatClampNeg) rfl dX8_wrong_17 ?_
    refine ab_if_ne C (tgt := 27) dX8_wrong_18 (by decide) (fun c_4 => ?_) (fun c_4 => ?_)
    · have f := f.2 c_4
      refine ab_iconst C (v := (0 : Int32)) dX8_wrong_27 (by decide) ?_
      exact ab_iret C dX8_wrong_28 ⟨rfl, _, rfl, f⟩
    · have f := f.1 c_4
      refine ab_ldcw C kw_t1089 dX8_wrong_21 ?_
      refine ab_goto C (tgt := 28) dX8_wrong_24 (by decide) ?_
      exact ab_iret C dX8_wrong_28 ⟨rfl, _, rfl, f⟩
  · have f := f.1 c_2
    refine ab_ldc C kw_t821 dX8_wrong_7 ?_
    refine ab_goto C (tgt := 28) dX8_wrong_9 (by decide) ?_
    exact ab_iret C dX8_wrong_28 ⟨rfl, _, rfl, f⟩
/-! X8_judge -/
def rm_X8_judge : Room := { frames := 5, cells := 0, slots := 0, locals := 166 }
def wp_X8_judge_L18 (x1 : Int32) (Q : Int32 → hp_T → Prop) : Nat → Int32 → hp_T → Prop
  | 0 => fun _ _ => False
  | nn + 1 => fun y3 h => (vp_in x1 4) ∧ (((hp_i h 114 x1.toNatClampNeg) ≤ y3 → (vp_in x1 4) ∧ ((y3 = (hp_i h 114 x1.toNatClampNeg) → ((y3 = (hp_i h 106 0) → (Q (-1 : Int32) h)) ∧ (¬ (y3 = (hp_i h 106 0)) → (Q y3 h)))) ∧ (¬ (y3 = (hp_i h 114 x1.toNatClampNeg)) → (Q y3 h)))) ∧ (¬ ((hp_i h 114 x1.toNatClampNeg) ≤ y3) → (((hp_i h 106 0) ≤ y3 → (vp_in x1 4) ∧ ((y3 = (hp_i h 114 x1.toNatClampNeg) → ((y3 = (hp_i h 106 0) → (Q (-1 : Int32) h)) ∧ (¬ (y3 = (hp_i h 106 0)) → (Q y3 h)))) ∧ (¬ (y3 = (hp_i h 114 x1.toNatClampNeg)) → (Q y3 h)))) ∧ (¬ ((hp_i h 106 0) ≤ y3) → (vp_in (((24 : Int32) * x1) + y3) 96) ∧ wp_X8_its y3 (3 : Int32) h (fun v_13 => (((hp_i h 115 ((((24 : Int32) * x1) + y3).toNatClampNeg)) = v_13 → (wp_X8_judge_L18 x1 Q nn) (y3 + (1 : Int32)) h) ∧ (¬ ((hp_i h 115 ((((24 : Int32) * x1) + y3).toNatClampNeg)) = v_13) → (vp_in x1 4) ∧ ((y3 = (hp_i h 114 x1.toNatClampNeg) → ((y3 = (hp_i h 106 0) → (Q (-1 : Int32) h)) ∧ (¬ (y3 = (hp_i h 106 0)) → (Q y3 h)))) ∧ (¬ (y3 = (hp_i h 114 x1.toNatClampNeg)) → (Q y3 h))))))))))
set_option maxRecDepth 100000 in
set_option maxHeartbeats 4000000 in
theorem bt_X8_judge_L18 {l : Launch} {G : ab_G} {F : ab_F} {x1 : Int32} {Q : Int32 → hp_T → Prop}  (C : ab_C G F rm_X8_judge cX8_judge 4 RX8 (some .int) "judge")   : ∀ (nn : Nat) (y3 : Int32) (h : hp_T), wf h → wp_X8_judge_L18 x1 Q nn y3 h → ab_W l G F 4 (ab_MQ G F (po_h Q) 0 0) 0 0 h [(0, .ref (G.1 + 105)), (1, .int x1), (3, .int y3)] [] 18 := by
  intro nn
  induction nn with
  | zero =>
    intro y3 h hw f
    exact absurd f id
  | succ nn ih =>
    intro y3 h hw f
    unfold wp_X8_judge_L18 at f
    refine ab_iload_n C 2 dX8_judge_18 rfl rfl ?_
    refine ab_aload_n C 0 dX8_judge_19 rfl rfl ?_
    refine ab_getR C (q := 114) fl_X8_34 rfl kd_105 (wf_lt hw kd_105 rfl) (wr_8_19 hw) dX8_judge_20 ?_
    refine ab_iload_n C 1 dX8_judge_23 rfl rfl ?_
    obtain ⟨c_3, f⟩ := f
    refine ab_iald C (by rw [kd_114]; decide) (wf_lt hw kd_114 rfl) (wf_len hw kd_114 rfl rfl (by decide)) c_3 (j := x1.toNatClampNeg) rfl dX8_judge_24 ?_
    refine ab_icmp_ge C (tgt := 64) dX8_judge_25 (by decide) (fun c_4 => ?_) (fun c_4 => ?_)
    · have f := f.1 c_4
      refine ab_iload_n C 2 dX8_judge_64 rfl rfl ?_
      refine ab_aload_n C 0 dX8_judge_65 rfl rfl ?_
      refine ab_getR C (q := 114) fl_X8_34 rfl kd_105 (wf_lt hw kd_105 rfl) (wr_8_19 hw) dX8_judge_66 ?_
      refine ab_iload_n C 1 dX8_judge_69 rfl rfl ?_
      obtain ⟨c_5, f⟩ := f
      refine ab_iald C (by rw [kd_114]; decide) (wf_lt hw kd_114 rfl) (wf_len hw kd_114 rfl rfl (by decide)) c_5 (j := x1.toNatClampNeg) rfl dX8_judge_70 ?_
      refine ab_icmp_ne C (tgt := 88) dX8_judge_71 (by decide) (fun c_6 => ?_) (fun c_6 => ?_)
      · have f := f.2 c_6
        refine ab_iload_n C 2 dX8_judge_88 rfl rfl ?_
        exact ab_iret C dX8_judge_89 ⟨hw, _, rfl, f⟩
      · have f := f.1 c_6
        refine ab_iload_n C 2 dX8_judge_74 rfl rfl ?_
        refine ab_aload_n C 0 dX8_judge_75 rfl rfl ?_
        refine ab_getR C (q := 106) fl_X8_7 rfl kd_105 (wf_lt hw kd_105 rfl) (wr_8_0 hw) dX8_judge_76 ?_
        refine ab_iconst C (v := (0 : Int32)) dX8_judge_79 (by decide) ?_
        refine ab_iald C (by rw [kd_106]; decide) (wf_lt hw kd_106 rfl) (wf_len hw kd_106 rfl rfl (by decide)) (vp_lit (by decide)) (j := 0) (by decide) dX8_judge_80 ?_
        refine ab_icmp_ne C (tgt := 88) dX8_judge_81 (by decide) (fun c_7 => ?_) (fun c_7 => ?_)
        · have f := f.2 c_7
          refine ab_iload_n C 2 dX8_judge_88 rfl rfl ?_
          exact ab_iret C dX8_judge_89 ⟨hw, _, rfl, f⟩
        · have f := f.1 c_7
          refine ab_iconst C (v := (-1 : Int32)) dX8_judge_84 (by decide) ?_
          refine ab_goto C (tgt := 89) dX8_judge_85 (by decide) ?_
          exact ab_iret C dX8_judge_89 ⟨hw, _, rfl, f⟩
    · have f := f.2 c_4
      refine ab_iload_n C 2 dX8_judge_28 rfl rfl ?_
      refine ab_aload_n C 0 dX8_judge_29 rfl rfl ?_
      refine ab_getR C (q := 106) fl_X8_7 rfl kd_105 (wf_lt hw kd_105 rfl) (wr_8_0 hw) dX8_judge_30 ?_
      refine ab_iconst C (v := (0 : Int32)) dX8_judge_33 (by decide) ?_
      refine ab_iald C (by rw [kd_106]; decide) (wf_lt hw kd_106 rfl) (wf_len hw kd_106 rfl rfl (by decide)) (vp_lit (by decide)) (j := 0) (by decide) dX8_judge_34 ?_
      refine ab_icmp_ge C (tgt := 64) dX8_judge_35 (by decide) (fun c_8 => ?_) (fun c_8 => ?_)
      · have f := f.1 c_8
        refine ab_iload_n C 2 dX8_judge_64 rfl rfl ?_
        refine ab_aload_n C 0 dX8_judge_65 rfl rfl ?_
        refine ab_getR C (q := 114) fl_X8_34 rfl kd_105 (wf_lt hw kd_105 rfl) (wr_8_19 hw) dX8_judge_66 ?_
        refine ab_iload_n C 1 dX8_judge_69 rfl rfl ?_
        obtain ⟨c_9, f⟩ := f
        refine ab_iald C (by rw [kd_114]; decide) (wf_lt hw kd_114 rfl) (wf_len hw kd_114 rfl rfl (by decide)) c_9 (j := x1.toNatClampNeg) rfl dX8_judge_70 ?_
        refine ab_icmp_ne C (tgt := 88) dX8_judge_71 (by decide) (fun c_10 => ?_) (fun c_10 => ?_)
        · have f := f.2 c_10
          refine ab_iload_n C 2 dX8_judge_88 rfl rfl ?_
          exact ab_iret C dX8_judge_89 ⟨hw, _, rfl, f⟩
        · have f := f.1 c_10
          refine ab_iload_n C 2 dX8_judge_74 rfl rfl ?_
          refine ab_aload_n C 0 dX8_judge_75 rfl rfl ?_
          refine ab_getR C (q := 106) fl_X8_7 rfl kd_105 (wf_lt hw kd_105 rfl) (wr_8_0 hw) dX8_judge_76 ?_
          refine ab_iconst C (v := (0 : Int32)) dX8_judge_79 (by decide) ?_
          refine ab_iald C (by rw [kd_106]; decide) (wf_lt hw kd_106 rfl) (wf_len hw kd_106 rfl rfl (by decide)) (vp_lit (by decide)) (j := 0) (by decide) dX8_judge_80 ?_
          refine ab_icmp_ne C (tgt := 88) dX8_judge_81 (by decide) (fun c_11 => ?_) (fun c_11 => ?_)
          · have f := f.2 c_11
            refine ab_iload_n C 2 dX8_judge_88 rfl rfl ?_
            exact ab_iret C dX8_judge_89 ⟨hw, _, rfl, f⟩
          · have f := f.1 c_11
            refine ab_iconst C (v := (-1 : Int32)) dX8_judge_84 (by decide) ?_
            refine ab_goto C (tgt := 89) dX8_judge_85 (by decide) ?_
            exact ab_iret C dX8_judge_89 ⟨hw, _, rfl, f⟩
      · have f := f.2 c_8
        refine ab_aload_n C 0 dX8_judge_38 rfl rfl ?_
        refine ab_getR C (q := 115) fl_X8_37 rfl kd_105 (wf_lt hw kd_105 rfl) (wr_8_20 hw) dX8_judge_39 ?_
        refine ab_bipush C (v := (24 : Int32)) dX8_judge_42 (by decide) ?_
        refine ab_iload_n C 1 dX8_judge_44 rfl rfl ?_
        refine ab_imul C dX8_judge_45 ?_
        refine ab_iload_n C 2 dX8_judge_46 rfl rfl ?_
        refine ab_iadd C dX8_judge_47 ?_
        obtain ⟨c_12, f⟩ := f
        refine ab_iald C (by rw [kd_115]; decide) (wf_lt hw kd_115 rfl) (wf_len hw kd_115 rfl rfl (by decide)) c_12 (j := (((24 : Int32) * x1) + y3).toNatClampNeg) rfl dX8_judge_48 ?_
        refine ab_aload_n C 0 dX8_judge_49 rfl rfl ?_
        refine ab_iload_n C 2 dX8_judge_50 rfl rfl ?_
        refine ab_iconst C (v := (3 : Int32)) dX8_judge_51 (by decide) ?_
        refine ab_callV C (k := 0) (n := 0) (rest := [.int (hp_i h 115 ((((24 : Int32) * x1) + y3).toNatClampNeg))]) [.int y3, .int (3 : Int32)] cl_X8_60 (mt_X8_its  hw f) rfl (by decide) kd_105 (wf_lt hw kd_105 rfl) ⟨rfl, rfl, Nat.le_of_ble_eq_true rfl, Nat.le_of_ble_eq_true rfl, Nat.zero_le _, Nat.zero_le _⟩ rfl rfl (Nat.le_of_ble_eq_true rfl) dX8_judge_52 (ab_kp (k := 0) (n := 0) (fun v_13 f => ?_))
        refine ab_icmp_ne C (tgt := 64) dX8_judge_55 (by decide) (fun c_14 => ?_) (fun c_14 => ?_)
        · have f := f.2 c_14
          refine ab_iload_n C 2 dX8_judge_64 rfl rfl ?_
          refine ab_aload_n C 0 dX8_judge_65 rfl rfl ?_
          refine ab_getR C (q := 114) fl_X8_34 rfl kd_105 (wf_lt hw kd_105 rfl) (wr_8_19 hw) dX8_judge_66 ?_
          refine ab_iload_n C 1 dX8_judge_69 rfl rfl ?_
          obtain ⟨c_15, f⟩ := f
          refine ab_iald C (by rw [kd_114]; decide) (wf_lt hw kd_114 rfl) (wf_len hw kd_114 rfl rfl (by decide)) c_15 (j := x1.toNatClampNeg) rfl dX8_judge_70 ?_
          refine ab_icmp_ne C (tgt := 88) dX8_judge_71 (by decide) (fun c_16 => ?_) (fun c_16 => ?_)
          · have f := f.2 c_16
            refine ab_iload_n C 2 dX8_judge_88 rfl rfl ?_
            exact ab_iret C dX8_judge_89 ⟨hw, _, rfl, f⟩
          · have f := f.1 c_16
            refine ab_iload_n C 2 dX8_judge_74 rfl rfl ?_
            refine ab_aload_n C 0 dX8_judge_75 rfl rfl ?_
            refine ab_getR C (q := 106) fl_X8_7 rfl kd_105 (wf_lt hw kd_105 rfl) (wr_8_0 hw) dX8_judge_76 ?_
            refine ab_iconst C (v := (0 : Int32)) dX8_judge_79 (by decide) ?_
            refine ab_iald C (by rw [kd_106]; decide) (wf_lt hw kd_106 rfl) (wf_len hw kd_106 rfl rfl (by decide)) (vp_lit (by decide)) (j := 0) (by decide) dX8_judge_80 ?_
            refine ab_icmp_ne C (tgt := 88) dX8_judge_81 (by decide) (fun c_17 => ?_) (fun c_17 => ?_)
            · have f := f.2 c_17
              refine ab_iload_n C 2 dX8_judge_88 rfl rfl ?_
              exact ab_iret C dX8_judge_89 ⟨hw, _, rfl, f⟩
            · have f := f.1 c_17
              refine ab_iconst C (v := (-1 : Int32)) dX8_judge_84 (by decide) ?_
              refine ab_goto C (tgt := 89) dX8_judge_85 (by decide) ?_
              exact ab_iret C dX8_judge_89 ⟨hw, _, rfl, f⟩
        · have f := f.1 c_14
          refine ab_iinc C (lv' := [(3, .int (y3 + (1 : Int32))), (0, .ref (G.1 + 105)), (1, .int x1)]) 2 (v := (y3 + (1 : Int32))) dX8_judge_58 rfl rfl (by decide) rfl ?_
          refine ab_goto C (tgt := 18) dX8_judge_61 (by decide) ?_
          refine ab_sub (lv' := [(0, .ref (G.1 + 105)), (1, .int x1), (3, .int (y3 + (1 : Int32)))]) [1, 2, 0] rfl ?_
          exact ih (y3 + (1 : Int32)) h  hw f
def wp_X8_judge (x1 : Int32) (h : hp_T) (Q : Int32 → hp_T → Prop) : Prop :=
  wp_X8_wrong x1 h (fun v_1 => ((v_1 = 0 → (∃ n0, wp_X8_judge_L18 x1 Q  n0 (0 : Int32) h)) ∧ (¬ (v_1 = 0) → wp_X8_errs v_1 h (fun v_18 h_19 => (Q v_18 h_19)))))
set_option maxRecDepth 100000 in
set_option maxHeartbeats 4000000 in
theorem mt_X8_judge {l : Launch} {G : ab_G} {x1 : Int32} {h : hp_T} {Q : Int32 → hp_T → Prop} (hw : wf h) (f : wp_X8_judge x1 h Q) : ab_M l G yX8_judge cX8_judge 4 (some .int) rm_X8_judge 0 0 [.ref (G.1 + 105), .int x1] h (po_h Q) := by
  refine ab_intro (own := RX8) (nm := "judge") rfl rfl rfl (Nat.le_of_ble_eq_true rfl) (fun F C => ?_)
  show ab_W l G F 4 (ab_MQ G F (po_h Q) 0 0) 0 0 h [(0, .ref (G.1 + 105)), (1, .int x1)] [] 0
  unfold wp_X8_judge at f
  refine ab_aload_n C 0 dX8_judge_0 rfl rfl ?_
  refine ab_iload_n C 1 dX8_judge_1 rfl rfl ?_
  refine ab_callV C (k := 0) (n := 0) (rest := []) [.int x1] cl_X8_306 (mt_X8_wrong  hw f) rfl (by decide) kd_105 (wf_lt hw kd_105 rfl) ⟨rfl, rfl, Nat.le_of_ble_eq_true rfl, Nat.le_of_ble_eq_true rfl, Nat.zero_le _, Nat.zero_le _⟩ rfl rfl (Nat.le_of_ble_eq_true rfl) dX8_judge_2 (ab_kp (k := 0) (n := 0) (fun v_1 f => ?_))
  refine ab_istore_n C (lv' := [(2, .int v_1), (0, .ref (G.1 + 105)), (1, .int x1)]) dX8_judge_5 rfl (by decide) rfl ?_
  refine ab_iload_n C 0 dX8_judge_6 rfl rfl ?_
  refine ab_if_eq C (tgt := 16) dX8_judge_7 (by decide) (fun c_2 => ?_) (fun c_2 => ?_)
  · have f := f.1 c_2
    refine ab_iconst C (v := (0 : Int32)) dX8_judge_16 (by decide) ?_
    refine ab_istore_n C (lv' := [(3, .int (0 : Int32)), (2, .int v_1), (0, .ref (G.1 + 105)), (1, .int x1)]) dX8_judge_17 rfl (by decide) rfl ?_
    obtain ⟨n0, f⟩ := f
    refine ab_sub (lv' := [(0, .ref (G.1 + 105)), (1, .int x1), (3, .int (0 : Int32))]) [2, 3, 0] rfl ?_
    exact bt_X8_judge_L18 C    n0 (0 : Int32) h  hw f
  · have f := f.2 c_2
    refine ab_aload_n C 1 dX8_judge_10 rfl rfl ?_
    refine ab_iload_n C 0 dX8_judge_11 rfl rfl ?_
    refine ab_callV C (k := 0) (n := 0) (rest := []) [.int v_1] cl_X8_84 (mt_X8_errs  hw f) rfl (by decide) kd_105 (wf_lt hw kd_105 rfl) ⟨rfl, rfl, Nat.le_of_ble_eq_true rfl, Nat.le_of_ble_eq_true rfl, Nat.zero_le _, Nat.zero_le _⟩ rfl rfl (Nat.le_of_ble_eq_true rfl) dX8_judge_12 (ab_kh (k := 0) (n := 0) (fun v_18 h_19 hw_20 f => ?_))
    exact ab_iret C dX8_judge_15 ⟨hw_20, _, rfl, f⟩
/-! X8_know -/
def rm_X8_know : Room := { frames := 5, cells := 0, slots := 0, locals := 165 }
def wp_X8_know_b57 (x1 : Int32) (x2 : Int32) (x3 : Int32) (Q : Int32 → hp_T → Prop) (z0 : Int32) (h : hp_T) : Prop :=
  ((0 ≤ x3 → wp_X8_at x1 (3 : Int32) h (fun v_16 => (vp_in v_16 357) ∧ (vp_in v_16 357) ∧ (∀ h_19, h_19 = hp_si h 106 v_16.toNatClampNeg ((hp_i h 106 v_16.toNatClampNeg) ||| ((1 : Int32) <<< (x2 &&& 31))) → wp_X8_at x1 ((5 : Int32) + x2) h_19 (fun v_22 => (vp_in v_22 357) ∧ (∀ h_24, h_24 = hp_si h_19 106 v_22.toNatClampNeg x3 → (Q z0 h_24)))))) ∧ (¬ (0 ≤ x3) → wp_X8_at x1 (3 : Int32) h (fun v_27 => (vp_in v_27 357) ∧ (vp_in v_27 357) ∧ (∀ h_30, h_30 = hp_si h 106 v_27.toNatClampNeg ((hp_i h 106 v_27.toNatClampNeg) &&& (((1 : Int32) <<< (x2 &&& 31)) ^^^ (-1 : Int32))) → wp_X8_at x1 ((5 : Int32) + x2) h_30 (fun v_33 => (vp_in v_33 357) ∧ (∀ h_35, h_35 = hp_si h_30 106 v_33.toNatClampNeg (0 : Int32) → wp_X8_at x1 ((11 : Int32) + x2) h_35 (fun v_38 => (vp_in v_38 357) ∧ (∀ h_40, h_40 = hp_si h_35 106 v_38.toNatClampNeg (0 : Int32) → (Q z0 h_40)))))))))
set_option maxRecDepth 100000 in
set_option maxHeartbeats 4000000 in
theorem bt_X8_know_b57 {l : Launch} {G : ab_G} {F : ab_F} {x1 : Int32} {x2 : Int32} {x3 : Int32} {Q : Int32 → hp_T → Prop}  (C : ab_C G F rm_X8_know cX8_know 5 RX8 (some .int) "know")   : ∀ (z0 : Int32) (h : hp_T), wf h → wp_X8_know_b57 x1 x2 x3 Q z0 h → ab_W l G F 5 (ab_MQ G F (po_h Q) 0 0) 0 0 h [(0, .ref (G.1 + 105)), (1, .int x1), (2, .int x2), (3, .int x3)] [.int z0] 57 := by
  intro z0 h hw f
  unfold wp_X8_know_b57 at f
  refine ab_istore C (lv' := [(4, .int z0), (0, .ref (G.1 + 105)), (1, .int x1), (2, .int x2), (3, .int x3)]) dX8_know_57 (by decide) rfl ?_
  refine ab_iload_n C 4 dX8_know_59 rfl rfl ?_
  refine ab_if_ge C (tgt := 111) dX8_know_60 (by decide) (fun c_15 => ?_) (fun c_15 => ?_)
  · have f := f.1 c_15
    refine ab_aload_n C 1 dX8_know_111 rfl rfl ?_
    refine ab_getR C (q := 106) fl_X8_7 rfl kd_105 (wf_lt hw kd_105 rfl) (wr_8_0 hw) dX8_know_112 ?_
    refine ab_iload_n C 2 dX8_know_115 rfl rfl ?_
    refine ab_iconst C (v := (3 : Int32)) dX8_know_116 (by decide) ?_
    refine ab_callS C (k := 0) (n := 0) (rest := [.ref (G.1 + 106)]) [.int x1, .int (3 : Int32)] cl_X8_56 (mt_X8_at  hw f) ⟨rfl, rfl, Nat.le_of_ble_eq_true rfl, Nat.le_of_ble_eq_true rfl, Nat.zero_le _, Nat.zero_le _⟩ rfl rfl (Nat.le_of_ble_eq_true rfl) dX8_know_117 (ab_kp (k := 0) (n := 0) (fun v_16 f => ?_))
    refine ab_dup2 C dX8_know_120 rfl rfl ?_
    obtain ⟨c_17, f⟩ := f
    refine ab_iald C (by rw [kd_106]; decide) (wf_lt hw kd_106 rfl) (wf_len hw kd_106 rfl rfl (by decide)) c_17 (j := v_16.toNatClampNeg) rfl dX8_know_121 ?_
    refine ab_iconst C (v := (1 : Int32)) dX8_know_122 (by decide) ?_
    refine ab_iload_n C 3 dX8_know_123 rfl rfl ?_
    refine ab_ishl C dX8_know_124 ?_
    refine ab_ior C dX8_know_125 ?_
    obtain ⟨c_18, f⟩ := f
    refine ab_iast C (by rw [kd_106]; decide) (wf_lt hw kd_106 rfl) (wf_len hw kd_106 rfl rfl (by decide)) c_18 (j := v_16.toNatClampNeg) rfl dX8_know_126 (fun h_19 e_20 => ?_)
    have f := f h_19 e_20
    have hw_21 := wf_si e_20 hw
    refine ab_aload_n C 1 dX8_know_127 rfl rfl ?_
    refine ab_getR C (q := 106) fl_X8_7 rfl kd_105 (wf_lt hw_21 kd_105 rfl) (wr_8_0 hw_21) dX8_know_128 ?_
    refine ab_iload_n C 2 dX8_know_131 rfl rfl ?_
    refine ab_iconst C (v := (5 : Int32)) dX8_know_132 (by decide) ?_
    refine ab_iload_n C 3 dX8_know_133 rfl rfl ?_
    refine ab_iadd C dX8_know_134 ?_
    refine ab_callS C (k := 0) (n := 0) (rest := [.ref (G.1 + 106)]) [.int x1, .int ((5 : Int32) + x2)] cl_X8_56 (mt_X8_at  hw_21 f) ⟨rfl, rfl, Nat.le_of_ble_eq_true rfl, Nat.le_of_ble_eq_true rfl, Nat.zero_le _, Nat.zero_le _⟩ rfl rfl (Nat.le_of_ble_eq_true rfl) dX8_know_135 (ab_kp (k := 0) (n := 0) (fun v_22 f => ?_))
    refine ab_iload_n C 4 dX8_know_138 rfl rfl ?_
    obtain ⟨c_23, f⟩ := f
    refine ab_iast C (by rw [kd_106]; decide) (wf_lt hw_21 kd_106 rfl) (wf_len hw_21 kd_106 rfl rfl (by decide)) c_23 (j := v_22.toNatClampNeg) rfl dX8_know_139 (fun h_24 e_25 => ?_)
    have f := f h_24 e_25
    have hw_26 := wf_si e_25 hw_21
    refine ab_iload C 0 dX8_know_140 rfl ?_
    exact ab_iret C dX8_know_142 ⟨hw_26, _, rfl, f⟩
  · have f := f.2 c_15
    refine ab_aload_n C 1 dX8_know_63 rfl rfl ?_
    refine ab_getR C (q := 106) fl_X8_7 rfl kd_105 (wf_lt hw kd_105 rfl) (wr_8_0 hw) dX8_know_64 ?_
    refine ab_iload_n C 2 dX8_know_67 rfl rfl ?_
    refine ab_iconst C (v := (3 : Int32)) dX8_know_68 (by decide) ?_
    refine ab_callS C (k := 0) (n := 0) (rest := [.ref (G.1 + 106)]) [.int x1, .int (3 : Int32)] cl_X8_56 (mt_X8_at  hw f) ⟨rfl, rfl, Nat.le_of_ble_eq_true rfl, Nat.le_of_ble_eq_true rfl, Nat.zero_le _, Nat.zero_le _⟩ rfl rfl (Nat.le_of_ble_eq_true rfl) dX8_know_69 (ab_kp (k := 0) (n := 0) (fun v_27 f => ?_))
    refine ab_dup2 C dX8_know_72 rfl rfl ?_
    obtain ⟨c_28, f⟩ := f
    refine ab_iald C (by rw [kd_106]; decide) (wf_lt hw kd_106 rfl) (wf_len hw kd_106 rfl rfl (by decide)) c_28 (j := v_27.toNatClampNeg) rfl dX8_know_73 ?_
    refine ab_iconst C (v := (1 : Int32)) dX8_know_74 (by decide) ?_
    refine ab_iload_n C 3 dX8_know_75 rfl rfl ?_
    refine ab_ishl C dX8_know_76 ?_
    refine ab_iconst C (v := (-1 : Int32)) dX8_know_77 (by decide) ?_
    refine ab_ixor C dX8_know_78 ?_
    refine ab_iand C dX8_know_79 ?_
    obtain ⟨c_29, f⟩ := f
    refine ab_iast C (by rw [kd_106]; decide) (wf_lt hw kd_106 rfl) (wf_len hw kd_106 rfl rfl (by decide)) c_29 (j := v_27.toNatClampNeg) rfl dX8_know_80 (fun h_30 e_31 => ?_)
    have f := f h_30 e_31
    have hw_32 := wf_si e_31 hw
    refine ab_aload_n C 1 dX8_know_81 rfl rfl ?_
    refine ab_getR C (q := 106) fl_X8_7 rfl kd_105 (wf_lt hw_32 kd_105 rfl) (wr_8_0 hw_32) dX8_know_82 ?_
    refine ab_iload_n C 2 dX8_know_85 rfl rfl ?_
    refine ab_iconst C (v := (5 : Int32)) dX8_know_86 (by decide) ?_
    refine ab_iload_n C 3 dX8_know_87 rfl rfl ?_
    refine ab_iadd C dX8_know_88 ?_
    refine ab_callS C (k := 0) (n := 0) (rest := [.ref (G.1 + 106)]) [.int x1, .int ((5 : Int32) + x2)] cl_X8_56 (mt_X8_at  hw_32 f) ⟨rfl, rfl, Nat.le_of_ble_eq_true rfl, Nat.le_of_ble_eq_true rfl, Nat.zero_le _, Nat.zero_le _⟩ rfl rfl (Nat.le_of_ble_eq_true rfl) dX8_know_89 (ab_kp (k := 0) (n := 0) (fun v_33 f => ?_))
    refine ab_iconst C (v := (0 : Int32)) dX8_know_92 (by decide) ?_
    obtain ⟨c_34, f⟩ := f
    refine ab_iast C (by rw [kd_106]; decide) (wf_lt hw_32 kd_106 rfl) (wf_len hw_32 kd_106 rfl rfl (by decide)) c_34 (j := v_33.toNatClampNeg) rfl dX8_know_93 (fun h_35 e_36 => ?_)
    have f := f h_35 e_36
    have hw_37 := wf_si e_36 hw_32
    refine ab_aload_n C 1 dX8_know_94 rfl rfl ?_
    refine ab_getR C (q := 106) fl_X8_7 rfl kd_105 (wf_lt hw_37 kd_105 rfl) (wr_8_0 hw_37) dX8_know_95 ?_
    refine ab_iload_n C 2 dX8_know_98 rfl rfl ?_
    refine ab_bipush C (v := (11 : Int32)) dX8_know_99 (by decide) ?_
    refine ab_iload_n C 3 dX8_know_101 rfl rfl ?_
    refine ab_iadd C dX8_know_102 ?_
    refine ab_callS C (k := 0) (n := 0) (rest := [.ref (G.1 + 106)]) [.int x1, .int ((11 : Int32) + x2)] cl_X8_56 (mt_X8_at  hw_37 f) ⟨rfl, rfl, Nat.le_of_ble_eq_true rfl, Nat.le_of_ble_eq_true rfl, Nat.zero_le _, Nat.zero_le _⟩ rfl rfl (Nat.le_of_ble_eq_true rfl) dX8_know_103 (ab_kp (k := 0) (n := 0) (fun v_38 f => ?_))
    refine ab_iconst C (v := (0 : Int32)) dX8_know_106 (by decide) ?_
    obtain ⟨c_39, f⟩ := f
    refine ab_iast C (by rw [kd_106]; decide) (wf_lt hw_37 kd_106 rfl) (wf_len hw_37 kd_106 rfl rfl (by decide)) c_39 (j := v_38.toNatClampNeg) rfl dX8_know_107 (fun h_40 e_41 => ?_)
    have f := f h_40 e_41
    have hw_42 := wf_si e_41 hw_37
    refine ab_goto C (tgt := 140) dX8_know_108 (by decide) ?_
    refine ab_iload C 0 dX8_know_140 rfl ?_
    exact ab_iret C dX8_know_142 ⟨hw_42, _, rfl, f⟩
def wp_X8_know (x1 : Int32) (x2 : Int32) (x3 : Int32) (h : hp_T) (Q : Int32 → hp_T → Prop) : Prop :=
  wp_X8_isBunk x1 h (fun v_1 => ((v_1 = 0 → wp_X8_errs (-1000000001 : Int32) h (fun v_3 h_4 => (Q v_3 h_4))) ∧ (¬ (v_1 = 0) → wp_X8_isKnack x2 h (fun v_6 => ((v_6 = 0 → wp_X8_errs (-1000000001 : Int32) h (fun v_8 h_9 => (Q v_8 h_9))) ∧ (¬ (v_6 = 0) → wp_X8_in x3.toInt64 (-1 : Int64) (999 : Int64) h (fun v_11 => ((v_11 = 0 → wp_X8_errs (-1000000001 : Int32) h (fun v_44 h_45 => (Q v_44 h_45))) ∧ (¬ (v_11 = 0) → wp_X8_isKnowing x1 x2 h (fun v_13 => ((v_13 = 0 → (wp_X8_know_b57 x1 x2 x3 Q  (-1 : Int32) h)) ∧ (¬ (v_13 = 0) → wp_X8_its x1 ((5 : Int32) + x2) h (fun v_43 => (wp_X8_know_b57 x1 x2 x3 Q  v_43 h))))))))))))))
set_option maxRecDepth 100000 in
set_option maxHeartbeats 4000000 in
theorem mt_X8_know {l : Launch} {G : ab_G} {x1 : Int32} {x2 : Int32} {x3 : Int32} {h : hp_T} {Q : Int32 → hp_T → Prop} (hw : wf h) (f : wp_X8_know x1 x2 x3 h Q) : ab_M l G yX8_know cX8_know 5 (some .int) rm_X8_know 0 0 [.ref (G.1 + 105), .int x1, .int x2, .int x3] h (po_h Q) := by
  refine ab_intro (own := RX8) (nm := "know") rfl rfl rfl (Nat.le_of_ble_eq_true rfl) (fun F C => ?_)
  show ab_W l G F 5 (ab_MQ G F (po_h Q) 0 0) 0 0 h [(0, .ref (G.1 + 105)), (1, .int x1), (2, .int x2), (3, .int x3)] [] 0
  unfold wp_X8_know at f
  refine ab_aload_n C 0 dX8_know_0 rfl rfl ?_
  refine ab_iload_n C 1 dX8_know_1 rfl rfl ?_
  refine ab_callV C (k := 0) (n := 0) (rest := []) [.int x1] cl_X8_98 (mt_X8_isBunk  hw f) rfl (by decide) kd_105 (wf_lt hw kd_105 rfl) ⟨rfl, rfl, Nat.le_of_ble_eq_true rfl, Nat.le_of_ble_eq_true rfl, Nat.zero_le _, Nat.zero_le _⟩ rfl rfl (Nat.le_of_ble_eq_true rfl) dX8_know_2 (ab_kp (k := 0) (n := 0) (fun v_1 f => ?_))
  refine ab_if_eq C (tgt := 29) dX8_know_5 (by decide) (fun c_2 => ?_) (fun c_2 => ?_)
  · have f := f.1 c_2
    refine ab_aload_n C 0 dX8_know_29 rfl rfl ?_
    refine ab_ldc C kw_t821 dX8_know_30 ?_
    refine ab_callV C (k := 0) (n := 0) (rest := []) [.int (-1000000001 : Int32)] cl_X8_84 (mt_X8_errs  hw f) rfl (by decide) kd_105 (wf_lt hw kd_105 rfl) ⟨rfl, rfl, Nat.le_of_ble_eq_true rfl, Nat.le_of_ble_eq_true rfl, Nat.zero_le _, Nat.zero_le _⟩ rfl rfl (Nat.le_of_ble_eq_true rfl) dX8_know_32 (ab_kh (k := 0) (n := 0) (fun v_3 h_4 hw_5 f => ?_))
    exact ab_iret C dX8_know_35 ⟨hw_5, _, rfl, f⟩
  · have f := f.2 c_2
    refine ab_iload_n C 2 dX8_know_8 rfl rfl ?_
    refine ab_callS C (k := 0) (n := 0) (rest := []) [.int x2] cl_X8_113 (mt_X8_isKnack  hw f) ⟨rfl, rfl, Nat.le_of_ble_eq_true rfl, Nat.le_of_ble_eq_true rfl, Nat.zero_le _, Nat.zero_le _⟩ rfl rfl (Nat.le_of_ble_eq_true rfl) dX8_know_9 (ab_kp (k := 0) (n := 0) (fun v_6 f => ?_))
    refine ab_if_eq C (tgt := 29) dX8_know_12 (by decide) (fun c_7 => ?_) (fun c_7 => ?_)
    · have f := f.1 c_7
      refine ab_aload_n C 0 dX8_know_29 rfl rfl ?_
      refine ab_ldc C kw_t821 dX8_know_30 ?_
      refine ab_callV C (k := 0) (n := 0) (rest := []) [.int (-1000000001 : Int32)] cl_X8_84 (mt_X8_errs  hw f) rfl (by decide) kd_105 (wf_lt hw kd_105 rfl) ⟨rfl, rfl, Nat.le_of_ble_eq_true rfl, Nat.le_of_ble_eq_true rfl, Nat.zero_le _, Nat.zero_le _⟩ rfl rfl (Nat.le_of_ble_eq_true rfl) dX8_know_32 (ab_kh (k := 0) (n := 0) (fun v_8 h_9 hw_10 f => ?_))
      exact ab_iret C dX8_know_35 ⟨hw_10, _, rfl, f⟩
    · have f := f.2 c_7
      refine ab_iload_n C 3 dX8_know_15 rfl rfl ?_
      refine ab_i2l C dX8_know_16 ?_
      refine ab_ldc2 C kw_t886 dX8_know_17 ?_
      refine ab_ldc2 C kw_t895 dX8_know_20 ?_
      refine ab_callS C (k := 0) (n := 0) (rest := []) [.long x3.toInt64, .long (-1 : Int64), .long (999 : Int64)] cl_X8_44 (mt_X8_in  hw f) ⟨rfl, rfl, Nat.le_of_ble_eq_true rfl, Nat.le_of_ble_eq_true rfl, Nat.zero_le _, Nat.zero_le _⟩ rfl rfl (Nat.le_of_ble_eq_true rfl) dX8_know_23 (ab_kp (k := 0) (n := 0) (fun v_11 f => ?_))
      refine ab_if_ne C (tgt := 36) dX8_know_26 (by decide) (fun c_12 => ?_) (fun c_12 => ?_)
      · have f := f.2 c_12
        refine ab_aload_n C 0 dX8_know_36 rfl rfl ?_
        refine ab_iload_n C 1 dX8_know_37 rfl rfl ?_
        refine ab_iload_n C 2 dX8_know_38 rfl rfl ?_
        refine ab_callV C (k := 0) (n := 0) (rest := []) [.int x1, .int x2] cl_X8_118 (mt_X8_isKnowing  hw f) rfl (by decide) kd_105 (wf_lt hw kd_105 rfl) ⟨rfl, rfl, Nat.le_of_ble_eq_true rfl, Nat.le_of_ble_eq_true rfl, Nat.zero_le _, Nat.zero_le _⟩ rfl rfl (Nat.le_of_ble_eq_true rfl) dX8_know_39 (ab_kp (k := 0) (n := 0) (fun v_13 f => ?_))
        refine ab_if_eq C (tgt := 56) dX8_know_42 (by decide) (fun c_14 => ?_) (fun c_14 => ?_)
        · have f := f.1 c_14
          refine ab_iconst C (v := (-1 : Int32)) dX8_know_56 (by decide) ?_
          exact bt_X8_know_b57 C     (-1 : Int32) h  hw f
        · have f := f.2 c_14
          refine ab_aload_n C 0 dX8_know_45 rfl rfl ?_
          refine ab_iload_n C 1 dX8_know_46 rfl rfl ?_
          refine ab_iconst C (v := (5 : Int32)) dX8_know_47 (by decide) ?_
          refine ab_iload_n C 2 dX8_know_48 rfl rfl ?_
          refine ab_iadd C dX8_know_49 ?_
          refine ab_callV C (k := 0) (n := 0) (rest := []) [.int x1, .int ((5 : Int32) + x2)] cl_X8_60 (mt_X8_its  hw f) rfl (by decide) kd_105 (wf_lt hw kd_105 rfl) ⟨rfl, rfl, Nat.le_of_ble_eq_true rfl, Nat.le_of_ble_eq_true rfl, Nat.zero_le _, Nat.zero_le _⟩ rfl rfl (Nat.le_of_ble_eq_true rfl) dX8_know_50 (ab_kp (k := 0) (n := 0) (fun v_43 f => ?_))
          refine ab_goto C (tgt := 57) dX8_know_53 (by decide) ?_
          exact bt_X8_know_b57 C     v_43 h  hw f
      · have f := f.1 c_12
        refine ab_aload_n C 0 dX8_know_29 rfl rfl ?_
        refine ab_ldc C kw_t821 dX8_know_30 ?_
        refine ab_callV C (k := 0) (n := 0) (rest := []) [.int (-1000000001 : Int32)] cl_X8_84 (mt_X8_errs  hw f) rfl (by decide) kd_105 (wf_lt hw kd_105 rfl) ⟨rfl, rfl, Nat.le_of_ble_eq_true rfl, Nat.le_of_ble_eq_true rfl, Nat.zero_le _, Nat.zero_le _⟩ rfl rfl (Nat.le_of_ble_eq_true rfl) dX8_know_32 (ab_kh (k := 0) (n := 0) (fun v_44 h_45 hw_46 f => ?_))
        exact ab_iret C dX8_know_35 ⟨hw_46, _, rfl, f⟩
/-! X8_lost -/
def rm_X8_lost : Room := { frames := 7, cells := 0, slots := 0, locals := 222 }
def wp_X8_lost_L32 (x1 : Int32) (x2 : Int32) (Q : Int32 → hp_T → Prop) : Nat → Int32 → hp_T → Prop
  | 0 => fun _ _ => False
  | nn + 1 => fun y3 h => ((x2 < y3 → wp_X8_putsBack h (fun h_11 => ((y3 ≤ x2 → (Q y3 h_11)) ∧ (¬ (y3 ≤ x2) → wp_X8_errs (-1000000002 : Int32) h_11 (fun v_14 h_15 => (Q v_14 h_15)))))) ∧ (¬ (x2 < y3) → wp_X8_knowers x1 h (fun v_17 => ((v_17 ≤ 0 → wp_X8_putsBack h (fun h_19 => ((y3 ≤ x2 → (Q y3 h_19)) ∧ (¬ (y3 ≤ x2) → wp_X8_errs (-1000000002 : Int32) h_19 (fun v_22 h_23 => (Q v_22 h_23)))))) ∧ (¬ (v_17 ≤ 0) → wp_X8_day (0 : Int32) h (fun h_25 => (wp_X8_lost_L32 x1 x2 Q nn) (y3 + (1 : Int32)) h_25))))))
set_option maxRecDepth 100000 in
set_option maxHeartbeats 4000000 in
theorem bt_X8_lost_L32 {l : Launch} {G : ab_G} {F : ab_F} {x1 : Int32} {x2 : Int32} {Q : Int32 → hp_T → Prop}  (C : ab_C G F rm_X8_lost cX8_lost 4 RX8 (some .int) "lost")   : ∀ (nn : Nat) (y3 : Int32) (h : hp_T), wf h → wp_X8_lost_L32 x1 x2 Q nn y3 h → ab_W l G F 4 (ab_MQ G F (po_h Q) 0 0) 0 0 h [(0, .ref (G.1 + 105)), (1, .int x1), (2, .int x2), (3, .int y3)] [] 32 := by
  intro nn
  induction nn with
  | zero =>
    intro y3 h hw f
    exact absurd f id
  | succ nn ih =>
    intro y3 h hw f
    unfold wp_X8_lost_L32 at f
    refine ab_iload_n C 3 dX8_lost_32 rfl rfl ?_
    refine ab_iload_n C 2 dX8_lost_33 rfl rfl ?_
    refine ab_icmp_gt C (tgt := 56) dX8_lost_34 (by decide) (fun c_10 => ?_) (fun c_10 => ?_)
    · have f := f.1 c_10
      refine ab_aload_n C 0 dX8_lost_56 rfl rfl ?_
      refine ab_callV C (k := 0) (n := 0) (rest := []) [] cl_X8_259 (mt_X8_putsBack  hw f) rfl (by decide) kd_105 (wf_lt hw kd_105 rfl) ⟨rfl, rfl, Nat.le_of_ble_eq_true rfl, Nat.le_of_ble_eq_true rfl, Nat.zero_le _, Nat.zero_le _⟩ rfl rfl (Nat.le_of_ble_eq_true rfl) dX8_lost_57 (ab_kv (k := 0) (n := 0) (fun h_11 hw_12 f => ?_))
      refine ab_iload_n C 3 dX8_lost_60 rfl rfl ?_
      refine ab_iload_n C 2 dX8_lost_61 rfl rfl ?_
      refine ab_icmp_le C (tgt := 75) dX8_lost_62 (by decide) (fun c_13 => ?_) (fun c_13 => ?_)
      · have f := f.1 c_13
        refine ab_iload_n C 3 dX8_lost_75 rfl rfl ?_
        exact ab_iret C dX8_lost_76 ⟨hw_12, _, rfl, f⟩
      · have f := f.2 c_13
        refine ab_aload_n C 0 dX8_lost_65 rfl rfl ?_
        refine ab_ldcw C kw_t1089 dX8_lost_66 ?_
        refine ab_callV C (k := 0) (n := 0) (rest := []) [.int (-1000000002 : Int32)] cl_X8_84 (mt_X8_errs  hw_12 f) rfl (by decide) kd_105 (wf_lt hw_12 kd_105 rfl) ⟨rfl, rfl, Nat.le_of_ble_eq_true rfl, Nat.le_of_ble_eq_true rfl, Nat.zero_le _, Nat.zero_le _⟩ rfl rfl (Nat.le_of_ble_eq_true rfl) dX8_lost_69 (ab_kh (k := 0) (n := 0) (fun v_14 h_15 hw_16 f => ?_))
        refine ab_goto C (tgt := 76) dX8_lost_72 (by decide) ?_
        exact ab_iret C dX8_lost_76 ⟨hw_16, _, rfl, f⟩
    · have f := f.2 c_10
      refine ab_aload_n C 0 dX8_lost_37 rfl rfl ?_
      refine ab_iload_n C 1 dX8_lost_38 rfl rfl ?_
      refine ab_callV C (k := 0) (n := 0) (rest := []) [.int x1] cl_X8_139 (mt_X8_knowers  hw f) rfl (by decide) kd_105 (wf_lt hw kd_105 rfl) ⟨rfl, rfl, Nat.le_of_ble_eq_true rfl, Nat.le_of_ble_eq_true rfl, Nat.zero_le _, Nat.zero_le _⟩ rfl rfl (Nat.le_of_ble_eq_true rfl) dX8_lost_39 (ab_kp (k := 0) (n := 0) (fun v_17 f => ?_))
      refine ab_if_le C (tgt := 56) dX8_lost_42 (by decide) (fun c_18 => ?_) (fun c_18 => ?_)
      · have f := f.1 c_18
        refine ab_aload_n C 0 dX8_lost_56 rfl rfl ?_
        refine ab_callV C (k := 0) (n := 0) (rest := []) [] cl_X8_259 (mt_X8_putsBack  hw f) rfl (by decide) kd_105 (wf_lt hw kd_105 rfl) ⟨rfl, rfl, Nat.le_of_ble_eq_true rfl, Nat.le_of_ble_eq_true rfl, Nat.zero_le _, Nat.zero_le _⟩ rfl rfl (Nat.le_of_ble_eq_true rfl) dX8_lost_57 (ab_kv (k := 0) (n := 0) (fun h_19 hw_20 f => ?_))
        refine ab_iload_n C 3 dX8_lost_60 rfl rfl ?_
        refine ab_iload_n C 2 dX8_lost_61 rfl rfl ?_
        refine ab_icmp_le C (tgt := 75) dX8_lost_62 (by decide) (fun c_21 => ?_) (fun c_21 => ?_)
        · have f := f.1 c_21
          refine ab_iload_n C 3 dX8_lost_75 rfl rfl ?_
          exact ab_iret C dX8_lost_76 ⟨hw_20, _, rfl, f⟩
        · have f := f.2 c_21
          refine ab_aload_n C 0 dX8_lost_65 rfl rfl ?_
          refine ab_ldcw C kw_t1089 dX8_lost_66 ?_
          refine ab_callV C (k := 0) (n := 0) (rest := []) [.int (-1000000002 : Int32)] cl_X8_84 (mt_X8_errs  hw_20 f) rfl (by decide) kd_105 (wf_lt hw_20 kd_105 rfl) ⟨rfl, rfl, Nat.le_of_ble_eq_true rfl, Nat.le_of_ble_eq_true rfl, Nat.zero_le _, Nat.zero_le _⟩ rfl rfl (Nat.le_of_ble_eq_true rfl) dX8_lost_69 (ab_kh (k := 0) (n := 0) (fun v_22 h_23 hw_24 f => ?_))
          refine ab_goto C (tgt := 76) dX8_lost_72 (by decide) ?_
          exact ab_iret C dX8_lost_76 ⟨hw_24, _, rfl, f⟩
      · have f := f.2 c_18
        refine ab_aload_n C 0 dX8_lost_45 rfl rfl ?_
        refine ab_iconst C (v := (0 : Int32)) dX8_lost_46 (by decide) ?_
        refine ab_callV C (k := 0) (n := 0) (rest := []) [.int (0 : Int32)] cl_X8_238 (mt_X8_day  hw f) rfl (by decide) kd_105 (wf_lt hw kd_105 rfl) ⟨rfl, rfl, Nat.le_of_ble_eq_true rfl, Nat.le_of_ble_eq_true rfl, Nat.zero_le _, Nat.zero_le _⟩ rfl rfl (Nat.le_of_ble_eq_true rfl) dX8_lost_47 (ab_kv (k := 0) (n := 0) (fun h_25 hw_26 f => ?_))
        refine ab_iinc C (lv' := [(3, .int (y3 + (1 : Int32))), (0, .ref (G.1 + 105)), (1, .int x1), (2, .int x2)]) 3 (v := (y3 + (1 : Int32))) dX8_lost_50 rfl rfl (by decide) rfl ?_
        refine ab_goto C (tgt := 32) dX8_lost_53 (by decide) ?_
        refine ab_sub (lv' := [(0, .ref (G.1 + 105)), (1, .int x1), (2, .int x2), (3, .int (y3 + (1 : Int32)))]) [1, 2, 3, 0] rfl ?_
        exact ih (y3 + (1 : Int32)) h_25  hw_26 f
def wp_X8_lost (x1 : Int32) (x2 : Int32) (h : hp_T) (Q : Int32 → hp_T → Prop) : Prop :=
  wp_X8_isKnack x1 h (fun v_1 => ((v_1 = 0 → wp_X8_errs (-1000000001 : Int32) h (fun v_3 h_4 => (Q v_3 h_4))) ∧ (¬ (v_1 = 0) → wp_X8_in x2.toInt64 (0 : Int64) (90 : Int64) h (fun v_6 => ((v_6 = 0 → wp_X8_errs (-1000000001 : Int32) h (fun v_27 h_28 => (Q v_27 h_28))) ∧ (¬ (v_6 = 0) → wp_X8_keepsAside h (fun h_8 => (∃ n0, wp_X8_lost_L32 x1 x2 Q  n0 (0 : Int32) h_8))))))))
set_option maxRecDepth 100000 in
set_option maxHeartbeats 4000000 in
theorem mt_X8_lost {l : Launch} {G : ab_G} {x1 : Int32} {x2 : Int32} {h : hp_T} {Q : Int32 → hp_T → Prop} (hw : wf h) (f : wp_X8_lost x1 x2 h Q) : ab_M l G yX8_lost cX8_lost 4 (some .int) rm_X8_lost 0 0 [.ref (G.1 + 105), .int x1, .int x2] h (po_h Q) := by
  refine ab_intro (own := RX8) (nm := "lost") rfl rfl rfl (Nat.le_of_ble_eq_true rfl) (fun F C => ?_)
  show ab_W l G F 4 (ab_MQ G F (po_h Q) 0 0) 0 0 h [(0, .ref (G.1 + 105)), (1, .int x1), (2, .int x2)] [] 0
  unfold wp_X8_lost at f
  refine ab_iload_n C 1 dX8_lost_0 rfl rfl ?_
  refine ab_callS C (k := 0) (n := 0) (rest := []) [.int x1] cl_X8_113 (mt_X8_isKnack  hw f) ⟨rfl, rfl, Nat.le_of_ble_eq_true rfl, Nat.le_of_ble_eq_true rfl, Nat.zero_le _, Nat.zero_le _⟩ rfl rfl (Nat.le_of_ble_eq_true rfl) dX8_lost_1 (ab_kp (k := 0) (n := 0) (fun v_1 f => ?_))
  refine ab_if_eq C (tgt := 19) dX8_lost_4 (by decide) (fun c_2 => ?_) (fun c_2 => ?_)
  · have f := f.1 c_2
    refine ab_aload_n C 0 dX8_lost_19 rfl rfl ?_
    refine ab_ldc C kw_t821 dX8_lost_20 ?_
    refine ab_callV C (k := 0) (n := 0) (rest := []) [.int (-1000000001 : Int32)] cl_X8_84 (mt_X8_errs  hw f) rfl (by decide) kd_105 (wf_lt hw kd_105 rfl) ⟨rfl, rfl, Nat.le_of_ble_eq_true rfl, Nat.le_of_ble_eq_true rfl, Nat.zero_le _, Nat.zero_le _⟩ rfl rfl (Nat.le_of_ble_eq_true rfl) dX8_lost_22 (ab_kh (k := 0) (n := 0) (fun v_3 h_4 hw_5 f => ?_))
    exact ab_iret C dX8_lost_25 ⟨hw_5, _, rfl, f⟩
  · have f := f.2 c_2
    refine ab_iload_n C 2 dX8_lost_7 rfl rfl ?_
    refine ab_i2l C dX8_lost_8 ?_
    refine ab_lconst C (v := (0 : Int64)) dX8_lost_9 (by decide) ?_
    refine ab_ldc2 C kw_t1020 dX8_lost_10 ?_
    refine ab_callS C (k := 0) (n := 0) (rest := []) [.long x2.toInt64, .long (0 : Int64), .long (90 : Int64)] cl_X8_44 (mt_X8_in  hw f) ⟨rfl, rfl, Nat.le_of_ble_eq_true rfl, Nat.le_of_ble_eq_true rfl, Nat.zero_le _, Nat.zero_le _⟩ rfl rfl (Nat.le_of_ble_eq_true rfl) dX8_lost_13 (ab_kp (k := 0) (n := 0) (fun v_6 f => ?_))
    refine ab_if_ne C (tgt := 26) dX8_lost_16 (by decide) (fun c_7 => ?_) (fun c_7 => ?_)
    · have f := f.2 c_7
      refine ab_aload_n C 0 dX8_lost_26 rfl rfl ?_
      refine ab_callV C (k := 0) (n := 0) (rest := []) [] cl_X8_256 (mt_X8_keepsAside  hw f) rfl (by decide) kd_105 (wf_lt hw kd_105 rfl) ⟨rfl, rfl, Nat.le_of_ble_eq_true rfl, Nat.le_of_ble_eq_true rfl, Nat.zero_le _, Nat.zero_le _⟩ rfl rfl (Nat.le_of_ble_eq_true rfl) dX8_lost_27 (ab_kv (k := 0) (n := 0) (fun h_8 hw_9 f => ?_))
      refine ab_iconst C (v := (0 : Int32)) dX8_lost_30 (by decide) ?_
      refine ab_istore_n C (lv' := [(3, .int (0 : Int32)), (0, .ref (G.1 + 105)), (1, .int x1), (2, .int x2)]) dX8_lost_31 rfl (by decide) rfl ?_
      obtain ⟨n0, f⟩ := f
      refine ab_sub (lv' := [(0, .ref (G.1 + 105)), (1, .int x1), (2, .int x2), (3, .int (0 : Int32))]) [1, 2, 3, 0] rfl ?_
      exact bt_X8_lost_L32 C    n0 (0 : Int32) h_8  hw_9 f
    · have f := f.1 c_7
      refine ab_aload_n C 0 dX8_lost_19 rfl rfl ?_
      refine ab_ldc C kw_t821 dX8_lost_20 ?_
      refine ab_callV C (k := 0) (n := 0) (rest := []) [.int (-1000000001 : Int32)] cl_X8_84 (mt_X8_errs  hw f) rfl (by decide) kd_105 (wf_lt hw kd_105 rfl) ⟨rfl, rfl, Nat.le_of_ble_eq_true rfl, Nat.le_of_ble_eq_true rfl, Nat.zero_le _, Nat.zero_le _⟩ rfl rfl (Nat.le_of_ble_eq_true rfl) dX8_lost_22 (ab_kh (k := 0) (n := 0) (fun v_27 h_28 hw_29 f => ?_))
      exact ab_iret C dX8_lost_25 ⟨hw_29, _, rfl, f⟩
/-! X8_misheard -/
def rm_X8_misheard : Room := { frames := 3, cells := 0, slots := 0, locals := 125 }
def wp_X8_misheard (x1 : Int32) (h : hp_T) (Q : Int32 → hp_T → Prop) : Prop :=
  wp_X8_in x1.toInt64 (0 : Int64) (16 : Int64) h (fun v_1 => ((v_1 = 0 → wp_X8_errs (-1000000001 : Int32) h (fun v_6 h_7 => (Q v_6 h_7))) ∧ (¬ (v_1 = 0) → (∀ h_3, h_3 = hp_si h 106 5 x1 → (Q (hp_i h 106 5) h_3)))))
set_option maxRecDepth 100000 in
set_option maxHeartbeats 4000000 in
theorem mt_X8_misheard {l : Launch} {G : ab_G} {x1 : Int32} {h : hp_T} {Q : Int32 → hp_T → Prop} (hw : wf h) (f : wp_X8_misheard x1 h Q) : ab_M l G yX8_misheard cX8_misheard 3 (some .int) rm_X8_misheard 0 0 [.ref (G.1 + 105), .int x1] h (po_h Q) := by
  refine ab_intro (own := RX8) (nm := "misheard") rfl rfl rfl (Nat.le_of_ble_eq_true rfl) (fun F C => ?_)
  show ab_W l G F 3 (ab_MQ G F (po_h Q) 0 0) 0 0 h [(0, .ref (G.1 + 105)), (1, .int x1)] [] 0
  unfold wp_X8_misheard at f
  refine ab_iload_n C 1 dX8_misheard_0 rfl rfl ?_
  refine ab_i2l C dX8_misheard_1 ?_
  refine ab_lconst C (v := (0 : Int64)) dX8_misheard_2 (by decide) ?_
  refine ab_ldc2 C kw_t1064 dX8_misheard_3 ?_
  refine ab_callS C (k := 0) (n := 0) (rest := []) [.long x1.toInt64, .long (0 : Int64), .long (16 : Int64)] cl_X8_44 (mt_X8_in  hw f) ⟨rfl, rfl, Nat.le_of_ble_eq_true rfl, Nat.le_of_ble_eq_true rfl, Nat.zero_le _, Nat.zero_le _⟩ rfl rfl (Nat.le_of_ble_eq_true rfl) dX8_misheard_6 (ab_kp (k := 0) (n := 0) (fun v_1 f => ?_))
  refine ab_if_ne C (tgt := 19) dX8_misheard_9 (by decide) (fun c_2 => ?_) (fun c_2 => ?_)
  · have f := f.2 c_2
    refine ab_aload_n C 0 dX8_misheard_19 rfl rfl ?_
    refine ab_getR C (q := 106) fl_X8_7 rfl kd_105 (wf_lt hw kd_105 rfl) (wr_8_0 hw) dX8_misheard_20 ?_
    refine ab_iconst C (v := (5 : Int32)) dX8_misheard_23 (by decide) ?_
    refine ab_iald C (by rw [kd_106]; decide) (wf_lt hw kd_106 rfl) (wf_len hw kd_106 rfl rfl (by decide)) (vp_lit (by decide)) (j := 5) (by decide) dX8_misheard_24 ?_
    refine ab_istore_n C (lv' := [(2, .int (hp_i h 106 5)), (0, .ref (G.1 + 105)), (1, .int x1)]) dX8_misheard_25 rfl (by decide) rfl ?_
    refine ab_aload_n C 1 dX8_misheard_26 rfl rfl ?_
    refine ab_getR C (q := 106) fl_X8_7 rfl kd_105 (wf_lt hw kd_105 rfl) (wr_8_0 hw) dX8_misheard_27 ?_
    refine ab_iconst C (v := (5 : Int32)) dX8_misheard_30 (by decide) ?_
    refine ab_iload_n C 2 dX8_misheard_31 rfl rfl ?_
    refine ab_iast C (by rw [kd_106]; decide) (wf_lt hw kd_106 rfl) (wf_len hw kd_106 rfl rfl (by decide)) (vp_lit (by decide)) (j := 5) (by decide) dX8_misheard_32 (fun h_3 e_4 => ?_)
    have f := f h_3 e_4
    have hw_5 := wf_si e_4 hw
    refine ab_iload_n C 0 dX8_misheard_33 rfl rfl ?_
    exact ab_iret C dX8_misheard_34 ⟨hw_5, _, rfl, f⟩
  · have f := f.1 c_2
    refine ab_aload_n C 0 dX8_misheard_12 rfl rfl ?_
    refine ab_ldc C kw_t821 dX8_misheard_13 ?_
    refine ab_callV C (k := 0) (n := 0) (rest := []) [.int (-1000000001 : Int32)] cl_X8_84 (mt_X8_errs  hw f) rfl (by decide) kd_105 (wf_lt hw kd_105 rfl) ⟨rfl, rfl, Nat.le_of_ble_eq_true rfl, Nat.le_of_ble_eq_true rfl, Nat.zero_le _, Nat.zero_le _⟩ rfl rfl (Nat.le_of_ble_eq_true rfl) dX8_misheard_15 (ab_kh (k := 0) (n := 0) (fun v_6 h_7 hw_8 f => ?_))
    exact ab_iret C dX8_misheard_18 ⟨hw_8, _, rfl, f⟩
/-! X8_move -/
def rm_X8_move : Room := { frames := 4, cells := 0, slots := 0, locals := 145 }
def wp_X8_move_L144 (x1 : Int32) (x2 : Int32) (x3 : Int32) (x4 : Int32) (x5 : Int32) (Q : Int32 → hp_T → Prop) : Nat → Int32 → hp_T → Prop
  | 0 => fun _ _ => False
  | nn + 1 => fun y6 h => ((x5 ≤ y6 → (Q x5 h)) ∧ (¬ (x5 ≤ y6) → (vp_in y6 24) ∧ (vp_in ((((24 : Int32) * x3) + x4) + y6) 96) ∧ (∀ h_33, h_33 = hp_si h 115 (((((24 : Int32) * x3) + x4) + y6).toNatClampNeg) (hp_i h 116 y6.toNatClampNeg) → (wp_X8_move_L144 x1 x2 x3 x4 x5 Q nn) (y6 + (1 : Int32)) h_33)))
set_option maxRecDepth 100000 in
set_option maxHeartbeats 4000000 in
theorem bt_X8_move_L144 {l : Launch} {G : ab_G} {F : ab_F} {x1 : Int32} {x2 : Int32} {x3 : Int32} {x4 : Int32} {x5 : Int32} {Q : Int32 → hp_T → Prop}  (C : ab_C G F rm_X8_move cX8_move 7 RX8 (some .int) "move")   : ∀ (nn : Nat) (y6 : Int32) (h : hp_T), wf h → wp_X8_move_L144 x1 x2 x3 x4 x5 Q nn y6 h → ab_W l G F 7 (ab_MQ G F (po_h Q) 0 0) 0 0 h [(0, .ref (G.1 + 105)), (3, .int x3), (4, .int x4), (5, .int x5), (6, .int y6)] [] 144 := by
  intro nn
  induction nn with
  | zero =>
    intro y6 h hw f
    exact absurd f id
  | succ nn ih =>
    intro y6 h hw f
    unfold wp_X8_move_L144 at f
    refine ab_iload C 4 dX8_move_144 rfl ?_
    refine ab_iload C 3 dX8_move_146 rfl ?_
    refine ab_icmp_ge C (tgt := 179) dX8_move_148 (by decide) (fun c_30 => ?_) (fun c_30 => ?_)
    · have f := f.1 c_30
      refine ab_iload C 3 dX8_move_179 rfl ?_
      exact ab_iret C dX8_move_181 ⟨hw, _, rfl, f⟩
    · have f := f.2 c_30
      refine ab_aload_n C 0 dX8_move_151 rfl rfl ?_
      refine ab_getR C (q := 115) fl_X8_37 rfl kd_105 (wf_lt hw kd_105 rfl) (wr_8_20 hw) dX8_move_152 ?_
      refine ab_bipush C (v := (24 : Int32)) dX8_move_155 (by decide) ?_
      refine ab_iload_n C 1 dX8_move_157 rfl rfl ?_
      refine ab_imul C dX8_move_158 ?_
      refine ab_iload C 2 dX8_move_159 rfl ?_
      refine ab_iadd C dX8_move_161 ?_
      refine ab_iload C 4 dX8_move_162 rfl ?_
      refine ab_iadd C dX8_move_164 ?_
      refine ab_aload_n C 0 dX8_move_165 rfl rfl ?_
      refine ab_getR C (q := 116) fl_X8_40 rfl kd_105 (wf_lt hw kd_105 rfl) (wr_8_21 hw) dX8_move_166 ?_
      refine ab_iload C 4 dX8_move_169 rfl ?_
      obtain ⟨c_31, f⟩ := f
      refine ab_iald C (by rw [kd_116]; decide) (wf_lt hw kd_116 rfl) (wf_len hw kd_116 rfl rfl (by decide)) c_31 (j := y6.toNatClampNeg) rfl dX8_move_171 ?_
      obtain ⟨c_32, f⟩ := f
      refine ab_iast C (by rw [kd_115]; decide) (wf_lt hw kd_115 rfl) (wf_len hw kd_115 rfl rfl (by decide)) c_32 (j := ((((24 : Int32) * x3) + x4) + y6).toNatClampNeg) rfl dX8_move_172 (fun h_33 e_34 => ?_)
      have f := f h_33 e_34
      have hw_35 := wf_si e_34 hw
      refine ab_iinc C (lv' := [(6, .int (y6 + (1 : Int32))), (0, .ref (G.1 + 105)), (3, .int x3), (4, .int x4), (5, .int x5)]) 4 (v := (y6 + (1 : Int32))) dX8_move_173 rfl rfl (by decide) rfl ?_
      refine ab_goto C (tgt := 144) dX8_move_176 (by decide) ?_
      refine ab_sub (lv' := [(0, .ref (G.1 + 105)), (3, .int x3), (4, .int x4), (5, .int x5), (6, .int (y6 + (1 : Int32)))]) [1, 2, 3, 4, 0] rfl ?_
      exact ih (y6 + (1 : Int32)) h_33  hw_35 f
def wp_X8_move_L107 (x1 : Int32) (x2 : Int32) (x3 : Int32) (x4 : Int32) (x5 : Int32) (Q : Int32 → hp_T → Prop) : Nat → Int32 → hp_T → Prop
  | 0 => fun _ _ => False
  | nn + 1 => fun y6 h => ((x5 ≤ y6 → (∃ n0, wp_X8_move_L144 x1 x2 x3 x4 x5 Q  n0 (0 : Int32) h)) ∧ (¬ (x5 ≤ y6) → (vp_in ((((24 : Int32) * x1) + x2) + y6) 96) ∧ (vp_in y6 24) ∧ (∀ h_38, h_38 = hp_si h 116 y6.toNatClampNeg (hp_i h 115 (((((24 : Int32) * x1) + x2) + y6).toNatClampNeg)) → (wp_X8_move_L107 x1 x2 x3 x4 x5 Q nn) (y6 + (1 : Int32)) h_38)))
set_option maxRecDepth 100000 in
set_option maxHeartbeats 4000000 in
theorem bt_X8_move_L107 {l : Launch} {G : ab_G} {F : ab_F} {x1 : Int32} {x2 : Int32} {x3 : Int32} {x4 : Int32} {x5 : Int32} {Q : Int32 → hp_T → Prop}  (C : ab_C G F rm_X8_move cX8_move 7 RX8 (some .int) "move")   : ∀ (nn : Nat) (y6 : Int32) (h : hp_T), wf h → wp_X8_move_L107 x1 x2 x3 x4 x5 Q nn y6 h → ab_W l G F 7 (ab_MQ G F (po_h Q) 0 0) 0 0 h [(0, .ref (G.1 + 105)), (1, .int x1), (2, .int x2), (3, .int x3), (4, .int x4), (5, .int x5), (6, .int y6)] [] 107 := by
  intro nn
  induction nn with
  | zero =>
    intro y6 h hw f
    exact absurd f id
  | succ nn ih =>
    intro y6 h hw f
    unfold wp_X8_move_L107 at f
    refine ab_iload C 6 dX8_move_107 rfl ?_
    refine ab_iload C 5 dX8_move_109 rfl ?_
    refine ab_icmp_ge C (tgt := 141) dX8_move_111 (by decide) (fun c_29 => ?_) (fun c_29 => ?_)
    · have f := f.1 c_29
      refine ab_iconst C (v := (0 : Int32)) dX8_move_141 (by decide) ?_
      refine ab_istore C (lv' := [(6, .int (0 : Int32)), (0, .ref (G.1 + 105)), (1, .int x1), (2, .int x2), (3, .int x3), (4, .int x4), (5, .int x5)]) dX8_move_142 (by decide) rfl ?_
      obtain ⟨n0, f⟩ := f
      refine ab_sub (lv' := [(0, .ref (G.1 + 105)), (3, .int x3), (4, .int x4), (5, .int x5), (6, .int (0 : Int32))]) [1, 4, 5, 6, 0] rfl ?_
      exact bt_X8_move_L144 C    n0 (0 : Int32) h  hw f
    · have f := f.2 c_29
      refine ab_aload_n C 0 dX8_move_114 rfl rfl ?_
      refine ab_getR C (q := 116) fl_X8_40 rfl kd_105 (wf_lt hw kd_105 rfl) (wr_8_21 hw) dX8_move_115 ?_
      refine ab_iload C 6 dX8_move_118 rfl ?_
      refine ab_aload_n C 0 dX8_move_120 rfl rfl ?_
      refine ab_getR C (q := 115) fl_X8_37 rfl kd_105 (wf_lt hw kd_105 rfl) (wr_8_20 hw) dX8_move_121 ?_
      refine ab_bipush C (v := (24 : Int32)) dX8_move_124 (by decide) ?_
      refine ab_iload_n C 1 dX8_move_126 rfl rfl ?_
      refine ab_imul C dX8_move_127 ?_
      refine ab_iload_n C 2 dX8_move_128 rfl rfl ?_
      refine ab_iadd C dX8_move_129 ?_
      refine ab_iload C 6 dX8_move_130 rfl ?_
      refine ab_iadd C dX8_move_132 ?_
      obtain ⟨c_36, f⟩ := f
      refine ab_iald C (by rw [kd_115]; decide) (wf_lt hw kd_115 rfl) (wf_len hw kd_115 rfl rfl (by decide)) c_36 (j := ((((24 : Int32) * x1) + x2) + y6).toNatClampNeg) rfl dX8_move_133 ?_
      obtain ⟨c_37, f⟩ := f
      refine ab_iast C (by rw [kd_116]; decide) (wf_lt hw kd_116 rfl) (wf_len hw kd_116 rfl rfl (by decide)) c_37 (j := y6.toNatClampNeg) rfl dX8_move_134 (fun h_38 e_39 => ?_)
      have f := f h_38 e_39
      have hw_40 := wf_si e_39 hw
      refine ab_iinc C (lv' := [(6, .int (y6 + (1 : Int32))), (0, .ref (G.1 + 105)), (1, .int x1), (2, .int x2), (3, .int x3), (4, .int x4), (5, .int x5)]) 6 (v := (y6 + (1 : Int32))) dX8_move_135 rfl rfl (by decide) rfl ?_
      refine ab_goto C (tgt := 107) dX8_move_138 (by decide) ?_
      refine ab_sub (lv' := [(0, .ref (G.1 + 105)), (1, .int x1), (2, .int x2), (3, .int x3), (4, .int x4), (5, .int x5), (6, .int (y6 + (1 : Int32)))]) [1, 2, 3, 4, 5, 6, 0] rfl ?_
      exact ih (y6 + (1 : Int32)) h_38  hw_40 f
def wp_X8_move (x1 : Int32) (x2 : Int32) (x3 : Int32) (x4 : Int32) (x5 : Int32) (h : hp_T) (Q : Int32 → hp_T → Prop) : Prop :=
  wp_X8_isSheet x1 h (fun v_1 => ((v_1 = 0 → wp_X8_errs (-1000000001 : Int32) h (fun v_3 h_4 => (Q v_3 h_4))) ∧ (¬ (v_1 = 0) → wp_X8_isSheet x3 h (fun v_6 => ((v_6 = 0 → wp_X8_errs (-1000000001 : Int32) h (fun v_50 h_51 => (Q v_50 h_51))) ∧ (¬ (v_6 = 0) → (vp_in x1 4) ∧ (((hp_i h 113 x1.toNatClampNeg) = 0 → wp_X8_errs (-1000000002 : Int32) h (fun v_10 h_11 => (Q v_10 h_11))) ∧ (¬ ((hp_i h 113 x1.toNatClampNeg) = 0) → (vp_in x3 4) ∧ (((hp_i h 113 x3.toNatClampNeg) = 0 → wp_X8_errs (-1000000002 : Int32) h (fun v_47 h_48 => (Q v_47 h_48))) ∧ (¬ ((hp_i h 113 x3.toNatClampNeg) = 0) → (vp_in x1 4) ∧ (vp_in x3 4) ∧ (((hp_i h 113 x1.toNatClampNeg) = (hp_i h 113 x3.toNatClampNeg) → ((x5 < 0 → wp_X8_errs (-1000000001 : Int32) h (fun v_19 h_20 => (Q v_19 h_20))) ∧ (¬ (x5 < 0) → wp_X8_isStanding x1 x2 x5 h (fun v_22 => ((v_22 = 0 → wp_X8_errs (-1000000001 : Int32) h (fun v_24 h_25 => (Q v_24 h_25))) ∧ (¬ (v_22 = 0) → wp_X8_isStanding x3 x4 x5 h (fun v_27 => ((v_27 = 0 → wp_X8_errs (-1000000001 : Int32) h (fun v_41 h_42 => (Q v_41 h_42))) ∧ (¬ (v_27 = 0) → (∃ n0, wp_X8_move_L107 x1 x2 x3 x4 x5 Q  n0 (0 : Int32) h)))))))))) ∧ (¬ ((hp_i h 113 x1.toNatClampNeg) = (hp_i h 113 x3.toNatClampNeg)) → wp_X8_errs (-1000000005 : Int32) h (fun v_44 h_45 => (Q v_44 h_45))))))))))))))
set_option maxRecDepth 100000 in
set_option maxHeartbeats 4000000 in
theorem mt_X8_move {l : Launch} {G : ab_G} {x1 : Int32} {x2 : Int32} {x3 : Int32} {x4 : Int32} {x5 : Int32} {h : hp_T} {Q : Int32 → hp_T → Prop} (hw : wf h) (f : wp_X8_move x1 x2 x3 x4 x5 h Q) : ab_M l G yX8_move cX8_move 7 (some .int) rm_X8_move 0 0 [.ref (G.1 + 105), .int x1, .int x2, .int x3, .int x4, .int x5] h (po_h Q) := by
  refine ab_intro (own := RX8) (nm := "move") rfl rfl rfl (Nat.le_of_ble_eq_true rfl) (fun F C => ?_)
  show ab_W l G F 7 (ab_MQ G F (po_h Q) 0 0) 0 0 h [(0, .ref (G.1 + 105)), (1, .int x1), (2, .int x2), (3, .int x3), (4, .int x4), (5, .int x5)] [] 0
  unfold wp_X8_move at f
  refine ab_iload_n C 1 dX8_move_0 rfl rfl ?_
  refine ab_callS C (k := 0) (n := 0) (rest := []) [.int x1] cl_X8_303 (mt_X8_isSheet  hw f) ⟨rfl, rfl, Nat.le_of_ble_eq_true rfl, Nat.le_of_ble_eq_true rfl, Nat.zero_le _, Nat.zero_le _⟩ rfl rfl (Nat.le_of_ble_eq_true rfl) dX8_move_1 (ab_kp (k := 0) (n := 0) (fun v_1 f => ?_))
  refine ab_if_eq C (tgt := 14) dX8_move_4 (by decide) (fun c_2 => ?_) (fun c_2 => ?_)
  · have f := f.1 c_2
    refine ab_aload_n C 0 dX8_move_14 rfl rfl ?_
    refine ab_ldc C kw_t821 dX8_move_15 ?_
    refine ab_callV C (k := 0) (n := 0) (rest := []) [.int (-1000000001 : Int32)] cl_X8_84 (mt_X8_errs  hw f) rfl (by decide) kd_105 (wf_lt hw kd_105 rfl) ⟨rfl, rfl, Nat.le_of_ble_eq_true rfl, Nat.le_of_ble_eq_true rfl, Nat.zero_le _, Nat.zero_le _⟩ rfl rfl (Nat.le_of_ble_eq_true rfl) dX8_move_17 (ab_kh (k := 0) (n := 0) (fun v_3 h_4 hw_5 f => ?_))
    exact ab_iret C dX8_move_20 ⟨hw_5, _, rfl, f⟩
  · have f := f.2 c_2
    refine ab_iload_n C 3 dX8_move_7 rfl rfl ?_
    refine ab_callS C (k := 0) (n := 0) (rest := []) [.int x3] cl_X8_303 (mt_X8_isSheet  hw f) ⟨rfl, rfl, Nat.le_of_ble_eq_true rfl, Nat.le_of_ble_eq_true rfl, Nat.zero_le _, Nat.zero_le _⟩ rfl rfl (Nat.le_of_ble_eq_true rfl) dX8_move_8 (ab_kp (k := 0) (n := 0) (fun v_6 f => ?_))
    refine ab_if_ne C (tgt := 21) dX8_move_11 (by decide) (fun c_7 => ?_) (fun c_7 => ?_)
    · have f := f.2 c_7
      refine ab_aload_n C 0 dX8_move_21 rfl rfl ?_
      refine ab_getR C (q := 113) fl_X8_31 rfl kd_105 (wf_lt hw kd_105 rfl) (wr_8_18 hw) dX8_move_22 ?_
      refine ab_iload_n C 1 dX8_move_25 rfl rfl ?_
      obtain ⟨c_8, f⟩ := f
      refine ab_iald C (by rw [kd_113]; decide) (wf_lt hw kd_113 rfl) (wf_len hw kd_113 rfl rfl (by decide)) c_8 (j := x1.toNatClampNeg) rfl dX8_move_26 ?_
      refine ab_if_eq C (tgt := 39) dX8_move_27 (by decide) (fun c_9 => ?_) (fun c_9 => ?_)
      · have f := f.1 c_9
        refine ab_aload_n C 0 dX8_move_39 rfl rfl ?_
        refine ab_ldcw C kw_t1089 dX8_move_40 ?_
        refine ab_callV C (k := 0) (n := 0) (rest := []) [.int (-1000000002 : Int32)] cl_X8_84 (mt_X8_errs  hw f) rfl (by decide) kd_105 (wf_lt hw kd_105 rfl) ⟨rfl, rfl, Nat.le_of_ble_eq_true rfl, Nat.le_of_ble_eq_true rfl, Nat.zero_le _, Nat.zero_le _⟩ rfl rfl (Nat.le_of_ble_eq_true rfl) dX8_move_43 (ab_kh (k := 0) (n := 0) (fun v_10 h_11 hw_12 f => ?_))
        exact ab_iret C dX8_move_46 ⟨hw_12, _, rfl, f⟩
      · have f := f.2 c_9
        refine ab_aload_n C 0 dX8_move_30 rfl rfl ?_
        refine ab_getR C (q := 113) fl_X8_31 rfl kd_105 (wf_lt hw kd_105 rfl) (wr_8_18 hw) dX8_move_31 ?_
        refine ab_iload_n C 3 dX8_move_34 rfl rfl ?_
        obtain ⟨c_13, f⟩ := f
        refine ab_iald C (by rw [kd_113]; decide) (wf_lt hw kd_113 rfl) (wf_len hw kd_113 rfl rfl (by decide)) c_13 (j := x3.toNatClampNeg) rfl dX8_move_35 ?_
        refine ab_if_ne C (tgt := 47) dX8_move_36 (by decide) (fun c_14 => ?_) (fun c_14 => ?_)
        · have f := f.2 c_14
          refine ab_aload_n C 0 dX8_move_47 rfl rfl ?_
          refine ab_getR C (q := 113) fl_X8_31 rfl kd_105 (wf_lt hw kd_105 rfl) (wr_8_18 hw) dX8_move_48 ?_
          refine ab_iload_n C 1 dX8_move_51 rfl rfl ?_
          obtain ⟨c_15, f⟩ := f
          refine ab_iald C (by rw [kd_113]; decide) (wf_lt hw kd_113 rfl) (wf_len hw kd_113 rfl rfl (by decide)) c_15 (j := x1.toNatClampNeg) rfl dX8_move_52 ?_
          refine ab_aload_n C 0 dX8_move_53 rfl rfl ?_
          refine ab_getR C (q := 113) fl_X8_31 rfl kd_105 (wf_lt hw kd_105 rfl) (wr_8_18 hw) dX8_move_54 ?_
          refine ab_iload_n C 3 dX8_move_57 rfl rfl ?_
          obtain ⟨c_16, f⟩ := f
          refine ab_iald C (by rw [kd_113]; decide) (wf_lt hw kd_113 rfl) (wf_len hw kd_113 rfl rfl (by decide)) c_16 (j := x3.toNatClampNeg) rfl dX8_move_58 ?_
          refine ab_icmp_eq C (tgt := 69) dX8_move_59 (by decide) (fun c_17 => ?_) (fun c_17 => ?_)
          · have f := f.1 c_17
            refine ab_iload C 5 dX8_move_69 rfl ?_
            refine ab_if_lt C (tgt := 97) dX8_move_71 (by decide) (fun c_18 => ?_) (fun c_18 => ?_)
            · have f := f.1 c_18
              refine ab_aload_n C 0 dX8_move_97 rfl rfl ?_
              refine ab_ldc C kw_t821 dX8_move_98 ?_
              refine ab_callV C (k := 0) (n := 0) (rest := []) [.int (-1000000001 : Int32)] cl_X8_84 (mt_X8_errs  hw f) rfl (by decide) kd_105 (wf_lt hw kd_105 rfl) ⟨rfl, rfl, Nat.le_of_ble_eq_true rfl, Nat.le_of_ble_eq_true rfl, Nat.zero_le _, Nat.zero_le _⟩ rfl rfl (Nat.le_of_ble_eq_true rfl) dX8_move_100 (ab_kh (k := 0) (n := 0) (fun v_19 h_20 hw_21 f => ?_))
              exact ab_iret C dX8_move_103 ⟨hw_21, _, rfl, f⟩
            · have f := f.2 c_18
              refine ab_aload_n C 0 dX8_move_74 rfl rfl ?_
              refine ab_iload_n C 1 dX8_move_75 rfl rfl ?_
              refine ab_iload_n C 2 dX8_move_76 rfl rfl ?_
              refine ab_iload C 5 dX8_move_77 rfl ?_
              refine ab_callV C (k := 0) (n := 0) (rest := []) [.int x1, .int x2, .int x5] cl_X8_309 (mt_X8_isStanding  hw f) rfl (by decide) kd_105 (wf_lt hw kd_105 rfl) ⟨rfl, rfl, Nat.le_of_ble_eq_true rfl, Nat.le_of_ble_eq_true rfl, Nat.zero_le _, Nat.zero_le _⟩ rfl rfl (Nat.le_of_ble_eq_true rfl) dX8_move_79 (ab_kp (k := 0) (n := 0) (fun v_22 f => ?_))
              refine ab_if_eq C (tgt := 97) dX8_move_82 (by decide) (fun c_23 => ?_) (fun c_23 => ?_)
              · have f := f.1 c_23
                refine ab_aload_n C 0 dX8_move_97 rfl rfl ?_
                refine ab_ldc C kw_t821 dX8_move_98 ?_
                refine ab_callV C (k := 0) (n := 0) (rest := []) [.int (-1000000001 : Int32)] cl_X8_84 (mt_X8_errs  hw f) rfl (by decide) kd_105 (wf_lt hw kd_105 rfl) ⟨rfl, rfl, Nat.le_of_ble_eq_true rfl, Nat.le_of_ble_eq_true rfl, Nat.zero_le _, Nat.zero_le _⟩ rfl rfl (Nat.le_of_ble_eq_true rfl) dX8_move_100 (ab_kh (k := 0) (n := 0) (fun v_24 h_25 hw_26 f => ?_))
                exact ab_iret C dX8_move_103 ⟨hw_26, _, rfl, f⟩
              · have f := f.2 c_23
                refine ab_aload_n C 0 dX8_move_85 rfl rfl ?_
                refine ab_iload_n C 3 dX8_move_86 rfl rfl ?_
                refine ab_iload C 4 dX8_move_87 rfl ?_
                refine ab_iload C 5 dX8_move_89 rfl ?_
                refine ab_callV C (k := 0) (n := 0) (rest := []) [.int x3, .int x4, .int x5] cl_X8_309 (mt_X8_isStanding  hw f) rfl (by decide) kd_105 (wf_lt hw kd_105 rfl) ⟨rfl, rfl, Nat.le_of_ble_eq_true rfl, Nat.le_of_ble_eq_true rfl, Nat.zero_le _, Nat.zero_le _⟩ rfl rfl (Nat.le_of_ble_eq_true rfl) dX8_move_91 (ab_kp (k := 0) (n := 0) (fun v_27 f => ?_))
                refine ab_if_ne C (tgt := 104) dX8_move_94 (by decide) (fun c_28 => ?_) (fun c_28 => ?_)
                · have f := f.2 c_28
                  refine ab_iconst C (v := (0 : Int32)) dX8_move_104 (by decide) ?_
                  refine ab_istore C (lv' := [(6, .int (0 : Int32)), (0, .ref (G.1 + 105)), (1, .int x1), (2, .int x2), (3, .int x3), (4, .int x4), (5, .int x5)]) dX8_move_105 (by decide) rfl ?_
                  obtain ⟨n0, f⟩ := f
                  refine ab_sub (lv' := [(0, .ref (G.1 + 105)), (1, .int x1), (2, .int x2), (3, .int x3), (4, .int x4), (5, .int x5), (6, .int (0 : Int32))]) [1, 2, 3, 4, 5, 6, 0] rfl ?_
                  exact bt_X8_move_L107 C    n0 (0 : Int32) h  hw f
                · have f := f.1 c_28
                  refine ab_aload_n C 0 dX8_move_97 rfl rfl ?_
                  refine ab_ldc C kw_t821 dX8_move_98 ?_
                  refine ab_callV C (k := 0) (n := 0) (rest := []) [.int (-1000000001 : Int32)] cl_X8_84 (mt_X8_errs  hw f) rfl (by decide) kd_105 (wf_lt hw kd_105 rfl) ⟨rfl, rfl, Nat.le_of_ble_eq_true rfl, Nat.le_of_ble_eq_true rfl, Nat.zero_le _, Nat.zero_le _⟩ rfl rfl (Nat.le_of_ble_eq_true rfl) dX8_move_100 (ab_kh (k := 0) (n := 0) (fun v_41 h_42 hw_43 f => ?_))
                  exact ab_iret C dX8_move_103 ⟨hw_43, _, rfl, f⟩
          · have f := f.2 c_17
            refine ab_aload_n C 0 dX8_move_62 rfl rfl ?_
            refine ab_ldc C kw_t880 dX8_move_63 ?_
            refine ab_callV C (k := 0) (n := 0) (rest := []) [.int (-1000000005 : Int32)] cl_X8_84 (mt_X8_errs  hw f) rfl (by decide) kd_105 (wf_lt hw kd_105 rfl) ⟨rfl, rfl, Nat.le_of_ble_eq_true rfl, Nat.le_of_ble_eq_true rfl, Nat.zero_le _, Nat.zero_le _⟩ rfl rfl (Nat.le_of_ble_eq_true rfl) dX8_move_65 (ab_kh (k := 0) (n := 0) (fun v_44 h_45 hw_46 f => ?_))
            exact ab_iret C dX8_move_68 ⟨hw_46, _, rfl, f⟩
        · have f := f.1 c_14
          refine ab_aload_n C 0 dX8_move_39 rfl rfl ?_
          refine ab_ldcw C kw_t1089 dX8_move_40 ?_
          refine ab_callV C (k := 0) (n := 0) (rest := []) [.int (-1000000002 : Int32)] cl_X8_84 (mt_X8_errs  hw f) rfl (by decide) kd_105 (wf_lt hw kd_105 rfl) ⟨rfl, rfl, Nat.le_of_ble_eq_true rfl, Nat.le_of_ble_eq_true rfl, Nat.zero_le _, Nat.zero_le _⟩ rfl rfl (Nat.le_of_ble_eq_true rfl) dX8_move_43 (ab_kh (k := 0) (n := 0) (fun v_47 h_48 hw_49 f => ?_))
          exact ab_iret C dX8_move_46 ⟨hw_49, _, rfl, f⟩
    · have f := f.1 c_7
      refine ab_aload_n C 0 dX8_move_14 rfl rfl ?_
      refine ab_ldc C kw_t821 dX8_move_15 ?_
      refine ab_callV C (k := 0) (n := 0) (rest := []) [.int (-1000000001 : Int32)] cl_X8_84 (mt_X8_errs  hw f) rfl (by decide) kd_105 (wf_lt hw kd_105 rfl) ⟨rfl, rfl, Nat.le_of_ble_eq_true rfl, Nat.le_of_ble_eq_true rfl, Nat.zero_le _, Nat.zero_le _⟩ rfl rfl (Nat.le_of_ble_eq_true rfl) dX8_move_17 (ab_kh (k := 0) (n := 0) (fun v_50 h_51 hw_52 f => ?_))
      exact ab_iret C dX8_move_20 ⟨hw_52, _, rfl, f⟩
/-! X8_nameHere -/
def rm_X8_nameHere : Room := { frames := 3, cells := 0, slots := 0, locals := 120 }
def wp_X8_nameHere (h : hp_T) (Q : Int32 → Prop) : Prop :=
  wp_X8_byteHere h (fun v_1 => (((hp_i h 105 9) = 0 → ((v_1 = (107 : Int32) → (Q (-1 : Int32))) ∧ (¬ (v_1 = (107 : Int32)) → ((v_1 = (104 : Int32) → (Q (-2 : Int32))) ∧ (¬ (v_1 = (104 : Int32)) → ((v_1 = (109 : Int32) → (Q (-3 : Int32))) ∧ (¬ (v_1 = (109 : Int32)) → (Q (0 : Int32))))))))) ∧ (¬ ((hp_i h 105 9) = 0) → ((v_1 = (107 : Int32) → (Q (-1 : Int32))) ∧ (¬ (v_1 = (107 : Int32)) → ((v_1 = (104 : Int32) → (Q (-2 : Int32))) ∧ (¬ (v_1 = (104 : Int32)) → ((v_1 = (100 : Int32) → (Q (-4 : Int32))) ∧ (¬ (v_1 = (100 : Int32)) → (Q (0 : Int32)))))))))))
set_option maxRecDepth 100000 in
set_option maxHeartbeats 4000000 in
theorem mt_X8_nameHere {l : Launch} {G : ab_G}  {h : hp_T} {Q : Int32 → Prop} (hw : wf h) (f : wp_X8_nameHere h Q) : ab_M l G yX8_nameHere cX8_nameHere 2 (some .int) rm_X8_nameHere 0 0 [.ref (G.1 + 105)] h (po_p h Q) := by
  refine ab_intro (own := RX8) (nm := "nameHere") rfl rfl rfl (Nat.le_of_ble_eq_true rfl) (fun F C => ?_)
  show ab_W l G F 2 (ab_MQ G F (po_p h Q) 0 0) 0 0 h [(0, .ref (G.1 + 105))] [] 0
  unfold wp_X8_nameHere at f
  refine ab_aload_n C 0 dX8_nameHere_0 rfl rfl ?_
  refine ab_callV C (k := 0) (n := 0) (rest := []) [] cl_X8_159 (mt_X8_byteHere  hw f) rfl (by decide) kd_105 (wf_lt hw kd_105 rfl) ⟨rfl, rfl, Nat.le_of_ble_eq_true rfl, Nat.le_of_ble_eq_true rfl, Nat.zero_le _, Nat.zero_le _⟩ rfl rfl (Nat.le_of_ble_eq_true rfl) dX8_nameHere_1 (ab_kp (k := 0) (n := 0) (fun v_1 f => ?_))
  refine ab_istore_n C (lv' := [(1, .int v_1), (0, .ref (G.1 + 105))]) dX8_nameHere_4 rfl (by decide) rfl ?_
  refine ab_aload_n C 1 dX8_nameHere_5 rfl rfl ?_
  refine ab_getI C fl_X8_170 rfl kd_105 (wf_lt hw kd_105 rfl) dX8_nameHere_6 ?_
  refine ab_if_ne C (tgt := 46) dX8_nameHere_9 (by decide) (fun c_2 => ?_) (fun c_2 => ?_)
  · have f := f.2 c_2
    refine ab_iload_n C 0 dX8_nameHere_46 rfl rfl ?_
    refine ab_bipush C (v := (107 : Int32)) dX8_nameHere_47 (by decide) ?_
    refine ab_icmp_ne C (tgt := 56) dX8_nameHere_49 (by decide) (fun c_3 => ?_) (fun c_3 => ?_)
    · have f := f.2 c_3
      refine ab_iload_n C 0 dX8_nameHere_56 rfl rfl ?_
      refine ab_bipush C (v := (104 : Int32)) dX8_nameHere_57 (by decide) ?_
      refine ab_icmp_ne C (tgt := 67) dX8_nameHere_59 (by decide) (fun c_4 => ?_) (fun c_4 => ?_)
      · have f := f.2 c_4
        refine ab_iload_n C 0 dX8_nameHere_67 rfl rfl ?_
        refine ab_bipush C (v := (100 : Int32)) dX8_nameHere_68 (by decide) ?_
        refine ab_icmp_ne C (tgt := 78) dX8_nameHere_70 (by decide) (fun c_5 => ?_) (fun c_5 => ?_)
        · have f := f.2 c_5
          refine ab_iconst C (v := (0 : Int32)) dX8_nameHere_78 (by decide) ?_
          exact ab_iret C dX8_nameHere_79 ⟨rfl, _, rfl, f⟩
        · have f := f.1 c_5
          refine ab_bipush C (v := (-4 : Int32)) dX8_nameHere_73 (by decide) ?_
          refine ab_goto C (tgt := 79) dX8_nameHere_75 (by decide) ?_
          exact ab_iret C dX8_nameHere_79 ⟨rfl, _, rfl, f⟩
      · have f := f.1 c_4
        refine ab_bipush C (v := (-2 : Int32)) dX8_nameHere_62 (by decide) ?_
        refine ab_goto C (tgt := 79) dX8_nameHere_64 (by decide) ?_
        exact ab_iret C dX8_nameHere_79 ⟨rfl, _, rfl, f⟩
    · have f := f.1 c_3
      refine ab_iconst C (v := (-1 : Int32)) dX8_nameHere_52 (by decide) ?_
      refine ab_goto C (tgt := 79) dX8_nameHere_53 (by decide) ?_
      exact ab_iret C dX8_nameHere_79 ⟨rfl, _, rfl, f⟩
  · have f := f.1 c_2
    refine ab_iload_n C 0 dX8_nameHere_12 rfl rfl ?_
    refine ab_bipush C (v := (107 : Int32)) dX8_nameHere_13 (by decide) ?_
    refine ab_icmp_ne C (tgt := 22) dX8_nameHere_15 (by decide) (fun c_6 => ?_) (fun c_6 => ?_)
    · have f := f.2 c_6
      refine ab_iload_n C 0 dX8_nameHere_22 rfl rfl ?_
      refine ab_bipush C (v := (104 : Int32)) dX8_nameHere_23 (by decide) ?_
      refine ab_icmp_ne C (tgt := 33) dX8_nameHere_25 (by decide) (fun c_7 => ?_) (fun c_7 => ?_)
      · have f := f.2 c_7
        refine ab_iload_n C 0 dX8_nameHere_33 rfl rfl ?_
        refine ab_bipush C (v := (109 : Int32)) dX8_nameHere_34 (by decide) ?_
        refine ab_icmp_ne C (tgt := 44) dX8_nameHere_36 (by decide) (fun c_8 => ?_) (fun c_8 => ?_)
        · have f := f.2 c_8
          refine ab_iconst C (v := (0 : Int32)) dX8_nameHere_44 (by decide) ?_
          exact ab_iret C dX8_nameHere_45 ⟨rfl, _, rfl, f⟩
        · have f := f.1 c_8
          refine ab_bipush C (v := (-3 : Int32)) dX8_nameHere_39 (by decide) ?_
          refine ab_goto C (tgt := 45) dX8_nameHere_41 (by decide) ?_
          exact ab_iret C dX8_nameHere_45 ⟨rfl, _, rfl, f⟩
      · have f := f.1 c_7
        refine ab_bipush C (v := (-2 : Int32)) dX8_nameHere_28 (by decide) ?_
        refine ab_goto C (tgt := 45) dX8_nameHere_30 (by decide) ?_
        exact ab_iret C dX8_nameHere_45 ⟨rfl, _, rfl, f⟩
    · have f := f.1 c_6
      refine ab_iconst C (v := (-1 : Int32)) dX8_nameHere_18 (by decide) ?_
      refine ab_goto C (tgt := 45) dX8_nameHere_19 (by decide) ?_
      exact ab_iret C dX8_nameHere_45 ⟨rfl, _, rfl, f⟩
/-! X8_parting -/
def rm_X8_parting : Room := { frames := 6, cells := 0, slots := 0, locals := 189 }
def wp_X8_parting_b57 (x1 : Int32) (Q : Int32 → hp_T → Prop) (y2 : Int32) (y3 : Int32) (z0 : Int32) (h : hp_T) : Prop :=
  (bo_ok z0) ∧ (∀ h_9, h_9 = hp_si h 105 17 z0 → (((hp_i h_9 105 17) = 0 → ((y3 = (-1 : Int32) → (((hp_i h_9 105 17) = 0 → ((y2 = (1 : Int32) → wp_X8_telling (1 : Int32) h_9 (fun v_27 h_28 => (Q (((0 : Int32) - x1) + v_27) h_28))) ∧ (¬ (y2 = (1 : Int32)) → ((y2 = (4 : Int32) → wp_X8_telling (1 : Int32) h_9 (fun v_31 h_32 => (Q (((0 : Int32) - x1) + v_31) h_32))) ∧ (¬ (y2 = (4 : Int32)) → (Q ((0 : Int32) - x1) h_9)))))) ∧ (¬ ((hp_i h_9 105 17) = 0) → (Q ((0 : Int32) - x1) h_9)))) ∧ (¬ (y3 = (-1 : Int32)) → (¬ y3 = 0) ∧ (((hp_i h_9 105 17) = 0 → ((y2 = (1 : Int32) → wp_X8_telling (1 : Int32) h_9 (fun v_18 h_19 => (Q ((x1 / y3) + v_18) h_19))) ∧ (¬ (y2 = (1 : Int32)) → ((y2 = (4 : Int32) → wp_X8_telling (1 : Int32) h_9 (fun v_22 h_23 => (Q ((x1 / y3) + v_22) h_23))) ∧ (¬ (y2 = (4 : Int32)) → (Q (x1 / y3) h_9)))))) ∧ (¬ ((hp_i h_9 105 17) = 0) → (Q (x1 / y3) h_9)))))) ∧ (¬ ((hp_i h_9 105 17) = 0) → (((hp_i h_9 105 17) = 0 → ((y2 = (1 : Int32) → wp_X8_telling (1 : Int32) h_9 (fun v_36 h_37 => (Q ((0 : Int32) + v_36) h_37))) ∧ (¬ (y2 = (1 : Int32)) → ((y2 = (4 : Int32) → wp_X8_telling (1 : Int32) h_9 (fun v_40 h_41 => (Q ((0 : Int32) + v_40) h_41))) ∧ (¬ (y2 = (4 : Int32)) → (Q (0 : Int32) h_9)))))) ∧ (¬ ((hp_i h_9 105 17) = 0) → (Q (0 : Int32) h_9))))))
set_option maxRecDepth 100000 in
set_option maxHeartbeats 4000000 in
theorem bt_X8_parting_b57 {l : Launch} {G : ab_G} {F : ab_F} {x1 : Int32} {Q : Int32 → hp_T → Prop}  (C : ab_C G F rm_X8_parting cX8_parting 5 RX8 (some .int) "parting")   : ∀ (y2 : Int32) (y3 : Int32) (z0 : Int32) (h : hp_T), wf h → wp_X8_parting_b57 x1 Q y2 y3 z0 h → ab_W l G F 5 (ab_MQ G F (po_h Q) 0 0) 0 0 h [(0, .ref (G.1 + 105)), (1, .int x1), (2, .int y2), (3, .int y3)] [.int z0, .ref (G.1 + 105)] 57 := by
  intro y2 y3 z0 h hw f
  unfold wp_X8_parting_b57 at f
  obtain ⟨c_11, f⟩ := f
  refine ab_putI C fl_X8_293 rfl kd_105 (wf_lt hw kd_105 rfl) (bo_nar c_11) (bo_fit c_11) dX8_parting_57 (fun h_9 e_10 => ?_)
  have f := f h_9 e_10
  have hw_12 := wf_si e_10 hw
  refine ab_aload_n C 0 dX8_parting_60 rfl rfl ?_
  refine ab_getI C fl_X8_293 rfl kd_105 (wf_lt hw_12 kd_105 rfl) dX8_parting_61 ?_
  refine ab_if_eq C (tgt := 71) dX8_parting_64 (by decide) (fun c_13 => ?_) (fun c_13 => ?_)
  · have f := f.1 c_13
    refine ab_iload_n C 3 dX8_parting_71 rfl rfl ?_
    refine ab_iconst C (v := (-1 : Int32)) dX8_parting_72 (by decide) ?_
    refine ab_icmp_ne C (tgt := 82) dX8_parting_73 (by decide) (fun c_14 => ?_) (fun c_14 => ?_)
    · have f := f.2 c_14
      refine ab_iload_n C 1 dX8_parting_82 rfl rfl ?_
      refine ab_iload_n C 3 dX8_parting_83 rfl rfl ?_
      obtain ⟨c_15, f⟩ := f
      refine ab_idiv C dX8_parting_84 c_15 ?_
      refine ab_istore C (lv' := [(4, .int (x1 / y3)), (0, .ref (G.1 + 105)), (1, .int x1), (2, .int y2), (3, .int y3)]) dX8_parting_85 (by decide) rfl ?_
      refine ab_aload_n C 1 dX8_parting_87 rfl rfl ?_
      refine ab_getI C fl_X8_293 rfl kd_105 (wf_lt hw_12 kd_105 rfl) dX8_parting_88 ?_
      refine ab_if_ne C (tgt := 115) dX8_parting_91 (by decide) (fun c_16 => ?_) (fun c_16 => ?_)
      · have f := f.2 c_16
        refine ab_iload C 0 dX8_parting_115 rfl ?_
        exact ab_iret C dX8_parting_117 ⟨hw_12, _, rfl, f⟩
      · have f := f.1 c_16
        refine ab_iload_n C 3 dX8_parting_94 rfl rfl ?_
        refine ab_iconst C (v := (1 : Int32)) dX8_parting_95 (by decide) ?_
        refine ab_icmp_eq C (tgt := 104) dX8_parting_96 (by decide) (fun c_17 => ?_) (fun c_17 => ?_)
        · have f := f.1 c_17
          refine ab_iload C 0 dX8_parting_104 rfl ?_
          refine ab_aload_n C 1 dX8_parting_106 rfl rfl ?_
          refine ab_iconst C (v := (1 : Int32)) dX8_parting_107 (by decide) ?_
          refine ab_callV C (k := 0) (n := 0) (rest := [.int (x1 / y3)]) [.int (1 : Int32)] cl_X8_290 (mt_X8_telling  hw_12 f) rfl (by decide) kd_105 (wf_lt hw_12 kd_105 rfl) ⟨rfl, rfl, Nat.le_of_ble_eq_true rfl, Nat.le_of_ble_eq_true rfl, Nat.zero_le _, Nat.zero_le _⟩ rfl rfl (Nat.le_of_ble_eq_true rfl) dX8_parting_108 (ab_kh (k := 0) (n := 0) (fun v_18 h_19 hw_20 f => ?_))
          refine ab_iadd C dX8_parting_111 ?_
          refine ab_goto C (tgt := 117) dX8_parting_112 (by decide) ?_
          exact ab_iret C dX8_parting_117 ⟨hw_20, _, rfl, f⟩
        · have f := f.2 c_17
          refine ab_iload_n C 3 dX8_parting_99 rfl rfl ?_
          refine ab_iconst C (v := (4 : Int32)) dX8_parting_100 (by decide) ?_
          refine ab_icmp_ne C (tgt := 115) dX8_parting_101 (by decide) (fun c_21 => ?_) (fun c_21 => ?_)
          · have f := f.2 c_21
            refine ab_iload C 0 dX8_parting_115 rfl ?_
            exact ab_iret C dX8_parting_117 ⟨hw_12, _, rfl, f⟩
          · have f := f.1 c_21
            refine ab_iload C 0 dX8_parting_104 rfl ?_
            refine ab_aload_n C 1 dX8_parting_106 rfl rfl ?_
            refine ab_iconst C (v := (1 : Int32)) dX8_parting_107 (by decide) ?_
            refine ab_callV C (k := 0) (n := 0) (rest := [.int (x1 / y3)]) [.int (1 : Int32)] cl_X8_290 (mt_X8_telling  hw_12 f) rfl (by decide) kd_105 (wf_lt hw_12 kd_105 rfl) ⟨rfl, rfl, Nat.le_of_ble_eq_true rfl, Nat.le_of_ble_eq_true rfl, Nat.zero_le _, Nat.zero_le _⟩ rfl rfl (Nat.le_of_ble_eq_true rfl) dX8_parting_108 (ab_kh (k := 0) (n := 0) (fun v_22 h_23 hw_24 f => ?_))
            refine ab_iadd C dX8_parting_111 ?_
            refine ab_goto C (tgt := 117) dX8_parting_112 (by decide) ?_
            exact ab_iret C dX8_parting_117 ⟨hw_24, _, rfl, f⟩
    · have f := f.1 c_14
      refine ab_iconst C (v := (0 : Int32)) dX8_parting_76 (by decide) ?_
      refine ab_iload_n C 1 dX8_parting_77 rfl rfl ?_
      refine ab_isub C dX8_parting_78 ?_
      refine ab_goto C (tgt := 85) dX8_parting_79 (by decide) ?_
      refine ab_istore C (lv' := [(4, .int ((0 : Int32) - x1)), (0, .ref (G.1 + 105)), (1, .int x1), (2, .int y2), (3, .int y3)]) dX8_parting_85 (by decide) rfl ?_
      refine ab_aload_n C 1 dX8_parting_87 rfl rfl ?_
      refine ab_getI C fl_X8_293 rfl kd_105 (wf_lt hw_12 kd_105 rfl) dX8_parting_88 ?_
      refine ab_if_ne C (tgt := 115) dX8_parting_91 (by decide) (fun c_25 => ?_) (fun c_25 => ?_)
      · have f := f.2 c_25
        refine ab_iload C 0 dX8_parting_115 rfl ?_
        exact ab_iret C dX8_parting_117 ⟨hw_12, _, rfl, f⟩
      · have f := f.1 c_25
        refine ab_iload_n C 3 dX8_parting_94 rfl rfl ?_
        refine ab_iconst C (v := (1 : Int32)) dX8_parting_95 (by decide) ?_
        refine ab_icmp_eq C (tgt := 104) dX8_parting_96 (by decide) (fun c_26 => ?_) (fun c_26 => ?_)
        · have f := f.1 c_26
          refine ab_iload C 0 dX8_parting_104 rfl ?_
          refine ab_aload_n C 1 dX8_parting_106 rfl rfl ?_
          refine ab_iconst C (v := (1 : Int32)) dX8_parting_107 (by decide) ?_
          refine ab_callV C (k := 0) (n := 0) (rest := [.int ((0 : Int32) - x1)]) [.int (1 : Int32)] cl_X8_290 (mt_X8_telling  hw_12 f) rfl (by decide) kd_105 (wf_lt hw_12 kd_105 rfl) ⟨rfl, rfl, Nat.le_of_ble_eq_true rfl, Nat.le_of_ble_eq_true rfl, Nat.zero_le _, Nat.zero_le _⟩ rfl rfl (Nat.le_of_ble_eq_true rfl) dX8_parting_108 (ab_kh (k := 0) (n := 0) (fun v_27 h_28 hw_29 f => ?_))
          refine ab_iadd C dX8_parting_111 ?_
          refine ab_goto C (tgt := 117) dX8_parting_112 (by decide) ?_
          exact ab_iret C dX8_parting_117 ⟨hw_29, _, rfl, f⟩
        · have f := f.2 c_26
          refine ab_iload_n C 3 dX8_parting_99 rfl rfl ?_
          refine ab_iconst C (v := (4 : Int32)) dX8_parting_100 (by decide) ?_
          refine ab_icmp_ne C (tgt := 115) dX8_parting_101 (by decide) (fun c_30 => ?_) (fun c_30 => ?_)
          · have f := f.2 c_30
            refine ab_iload C 0 dX8_parting_115 rfl ?_
            exact ab_iret C dX8_parting_117 ⟨hw_12, _, rfl, f⟩
          · have f := f.1 c_30
            refine ab_iload C 0 dX8_parting_104 rfl ?_
            refine ab_aload_n C 1 dX8_parting_106 rfl rfl ?_
            refine ab_iconst C (v := (1 : Int32)) dX8_parting_107 (by decide) ?_
            refine ab_callV C (k := 0) (n := 0) (rest := [.int ((0 : Int32) - x1)]) [.int (1 : Int32)] cl_X8_290 (mt_X8_telling  hw_12 f) rfl (by decide) kd_105 (wf_lt hw_12 kd_105 rfl) ⟨rfl, rfl, Nat.le_of_ble_eq_true rfl, Nat.le_of_ble_eq_true rfl, Nat.zero_le _, Nat.zero_le _⟩ rfl rfl (Nat.le_of_ble_eq_true rfl) dX8_parting_108 (ab_kh (k := 0) (n := 0) (fun v_31 h_32 hw_33 f => ?_))
            refine ab_iadd C dX8_parting_111 ?_
            refine ab_goto C (tgt := 117) dX8_parting_112 (by decide) ?_
            exact ab_iret C dX8_parting_117 ⟨hw_33, _, rfl, f⟩
  · have f := f.2 c_13
    refine ab_iconst C (v := (0 : Int32)) dX8_parting_67 (by decide) ?_
    refine ab_goto C (tgt := 85) dX8_parting_68 (by decide) ?_
    refine ab_istore C (lv' := [(4, .int (0 : Int32)), (0, .ref (G.1 + 105)), (1, .int x1), (2, .int y2), (3, .int y3)]) dX8_parting_85 (by decide) rfl ?_
    refine ab_aload_n C 1 dX8_parting_87 rfl rfl ?_
    refine ab_getI C fl_X8_293 rfl kd_105 (wf_lt hw_12 kd_105 rfl) dX8_parting_88 ?_
    refine ab_if_ne C (tgt := 115) dX8_parting_91 (by decide) (fun c_34 => ?_) (fun c_34 => ?_)
    · have f := f.2 c_34
      refine ab_iload C 0 dX8_parting_115 rfl ?_
      exact ab_iret C dX8_parting_117 ⟨hw_12, _, rfl, f⟩
    · have f := f.1 c_34
      refine ab_iload_n C 3 dX8_parting_94 rfl rfl ?_
      refine ab_iconst C (v := (1 : Int32)) dX8_parting_95 (by decide) ?_
      refine ab_icmp_eq C (tgt := 104) dX8_parting_96 (by decide) (fun c_35 => ?_) (fun c_35 => ?_)
      · have f := f.1 c_35
        refine ab_iload C 0 dX8_parting_104 rfl ?_
        refine ab_aload_n C 1 dX8_parting_106 rfl rfl ?_
        refine ab_iconst C (v := (1 : Int32)) dX8_parting_107 (by decide) ?_
        refine ab_callV C (k := 0) (n := 0) (rest := [.int (0 : Int32)]) [.int (1 : Int32)] cl_X8_290 (mt_X8_telling  hw_12 f) rfl (by decide) kd_105 (wf_lt hw_12 kd_105 rfl) ⟨rfl, rfl, Nat.le_of_ble_eq_true rfl, Nat.le_of_ble_eq_true rfl, Nat.zero_le _, Nat.zero_le _⟩ rfl rfl (Nat.le_of_ble_eq_true rfl) dX8_parting_108 (ab_kh (k := 0) (n := 0) (fun v_36 h_37 hw_38 f => ?_))
        refine ab_iadd C dX8_parting_111 ?_
        refine ab_goto C (tgt := 117) dX8_parting_112 (by decide) ?_
        exact ab_iret C dX8_parting_117 ⟨hw_38, _, rfl, f⟩
      · have f := f.2 c_35
        refine ab_iload_n C 3 dX8_parting_99 rfl rfl ?_
        refine ab_iconst C (v := (4 : Int32)) dX8_parting_100 (by decide) ?_
        refine ab_icmp_ne C (tgt := 115) dX8_parting_101 (by decide) (fun c_39 => ?_) (fun c_39 => ?_)
        · have f := f.2 c_39
          refine ab_iload C 0 dX8_parting_115 rfl ?_
          exact ab_iret C dX8_parting_117 ⟨hw_12, _, rfl, f⟩
        · have f := f.1 c_39
          refine ab_iload C 0 dX8_parting_104 rfl ?_
          refine ab_aload_n C 1 dX8_parting_106 rfl rfl ?_
          refine ab_iconst C (v := (1 : Int32)) dX8_parting_107 (by decide) ?_
          refine ab_callV C (k := 0) (n := 0) (rest := [.int (0 : Int32)]) [.int (1 : Int32)] cl_X8_290 (mt_X8_telling  hw_12 f) rfl (by decide) kd_105 (wf_lt hw_12 kd_105 rfl) ⟨rfl, rfl, Nat.le_of_ble_eq_true rfl, Nat.le_of_ble_eq_true rfl, Nat.zero_le _, Nat.zero_le _⟩ rfl rfl (Nat.le_of_ble_eq_true rfl) dX8_parting_108 (ab_kh (k := 0) (n := 0) (fun v_40 h_41 hw_42 f => ?_))
          refine ab_iadd C dX8_parting_111 ?_
          refine ab_goto C (tgt := 117) dX8_parting_112 (by decide) ?_
          exact ab_iret C dX8_parting_117 ⟨hw_42, _, rfl, f⟩
def wp_X8_parting (x1 : Int32) (h : hp_T) (Q : Int32 → hp_T → Prop) : Prop :=
  wp_X8_its (hp_i h 105 16) (0 : Int32) h (fun v_1 => ((v_1 = (1 : Int32) → wp_X8_runs (21 : Int32) h (fun h_3 => wp_X8_runs (13 : Int32) h_3 (fun h_5 => wp_X8_its (hp_i h_5 105 16) (1 : Int32) h_5 (fun v_7 => (((v_7 - (hp_i h_5 105 16)) = 0 → (wp_X8_parting_b57 x1 Q  v_1 (v_7 - (hp_i h_5 105 16)) (1 : Int32) h_5)) ∧ (¬ ((v_7 - (hp_i h_5 105 16)) = 0) → (wp_X8_parting_b57 x1 Q  v_1 (v_7 - (hp_i h_5 105 16)) (0 : Int32) h_5))))))) ∧ (¬ (v_1 = (1 : Int32)) → ((v_1 = (4 : Int32) → wp_X8_runs (21 : Int32) h (fun h_48 => wp_X8_runs (13 : Int32) h_48 (fun h_50 => wp_X8_its (hp_i h_50 105 16) (1 : Int32) h_50 (fun v_52 => (((v_52 - (hp_i h_50 105 16)) = 0 → (wp_X8_parting_b57 x1 Q  v_1 (v_52 - (hp_i h_50 105 16)) (1 : Int32) h_50)) ∧ (¬ ((v_52 - (hp_i h_50 105 16)) = 0) → (wp_X8_parting_b57 x1 Q  v_1 (v_52 - (hp_i h_50 105 16)) (0 : Int32) h_50))))))) ∧ (¬ (v_1 = (4 : Int32)) → wp_X8_runs (13 : Int32) h (fun h_44 => wp_X8_its (hp_i h_44 105 16) (1 : Int32) h_44 (fun v_46 => (((v_46 - (hp_i h_44 105 16)) = 0 → (wp_X8_parting_b57 x1 Q  v_1 (v_46 - (hp_i h_44 105 16)) (1 : Int32) h_44)) ∧ (¬ ((v_46 - (hp_i h_44 105 16)) = 0) → (wp_X8_parting_b57 x1 Q  v_1 (v_46 - (hp_i h_44 105 16)) (0 : Int32) h_44))))))))))
set_option maxRecDepth 100000 in
set_option maxHeartbeats 4000000 in
theorem mt_X8_parting {l : Launch} {G : ab_G} {x1 : Int32} {h : hp_T} {Q : Int32 → hp_T → Prop} (hw : wf h) (f : wp_X8_parting x1 h Q) : ab_M l G yX8_parting cX8_parting 5 (some .int) rm_X8_parting 0 0 [.ref (G.1 + 105), .int x1] h (po_h Q) := by
  refine ab_intro (own := RX8) (nm := "parting") rfl rfl rfl (Nat.le_of_ble_eq_true rfl) (fun F C => ?_)
  show ab_W l G F 5 (ab_MQ G F (po_h Q) 0 0) 0 0 h [(0, .ref (G.1 + 105)), (1, .int x1)] [] 0
  unfold wp_X8_parting at f
  refine ab_aload_n C 0 dX8_parting_0 rfl rfl ?_
  refine ab_aload_n C 0 dX8_parting_1 rfl rfl ?_
  refine ab_getI C fl_X8_281 rfl kd_105 (wf_lt hw kd_105 rfl) dX8_parting_2 ?_
  refine ab_iconst C (v := (0 : Int32)) dX8_parting_5 (by decide) ?_
  refine ab_callV C (k := 0) (n := 0) (rest := []) [.int (hp_i h 105 16), .int (0 : Int32)] cl_X8_60 (mt_X8_its  hw f) rfl (by decide) kd_105 (wf_lt hw kd_105 rfl) ⟨rfl, rfl, Nat.le_of_ble_eq_true rfl, Nat.le_of_ble_eq_true rfl, Nat.zero_le _, Nat.zero_le _⟩ rfl rfl (Nat.le_of_ble_eq_true rfl) dX8_parting_6 (ab_kp (k := 0) (n := 0) (fun v_1 f => ?_))
  refine ab_istore_n C (lv' := [(2, .int v_1), (0, .ref (G.1 + 105)), (1, .int x1)]) dX8_parting_9 rfl (by decide) rfl ?_
  refine ab_iload_n C 0 dX8_parting_10 rfl rfl ?_
  refine ab_iconst C (v := (1 : Int32)) dX8_parting_11 (by decide) ?_
  refine ab_icmp_eq C (tgt := 20) dX8_parting_12 (by decide) (fun c_2 => ?_) (fun c_2 => ?_)
  · have f := f.1 c_2
    refine ab_aload_n C 1 dX8_parting_20 rfl rfl ?_
    refine ab_bipush C (v := (21 : Int32)) dX8_parting_21 (by decide) ?_
    refine ab_callV C (k := 0) (n := 0) (rest := []) [.int (21 : Int32)] cl_X8_284 (mt_X8_runs  hw f) rfl (by decide) kd_105 (wf_lt hw kd_105 rfl) ⟨rfl, rfl, Nat.le_of_ble_eq_true rfl, Nat.le_of_ble_eq_true rfl, Nat.zero_le _, Nat.zero_le _⟩ rfl rfl (Nat.le_of_ble_eq_true rfl) dX8_parting_23 (ab_kv (k := 0) (n := 0) (fun h_3 hw_4 f => ?_))
    refine ab_aload_n C 1 dX8_parting_26 rfl rfl ?_
    refine ab_bipush C (v := (13 : Int32)) dX8_parting_27 (by decide) ?_
    refine ab_callV C (k := 0) (n := 0) (rest := []) [.int (13 : Int32)] cl_X8_284 (mt_X8_runs  hw_4 f) rfl (by decide) kd_105 (wf_lt hw_4 kd_105 rfl) ⟨rfl, rfl, Nat.le_of_ble_eq_true rfl, Nat.le_of_ble_eq_true rfl, Nat.zero_le _, Nat.zero_le _⟩ rfl rfl (Nat.le_of_ble_eq_true rfl) dX8_parting_29 (ab_kv (k := 0) (n := 0) (fun h_5 hw_6 f => ?_))
    refine ab_aload_n C 1 dX8_parting_32 rfl rfl ?_
    refine ab_aload_n C 1 dX8_parting_33 rfl rfl ?_
    refine ab_getI C fl_X8_281 rfl kd_105 (wf_lt hw_6 kd_105 rfl) dX8_parting_34 ?_
    refine ab_iconst C (v := (1 : Int32)) dX8_parting_37 (by decide) ?_
    refine ab_callV C (k := 0) (n := 0) (rest := []) [.int (hp_i h_5 105 16), .int (1 : Int32)] cl_X8_60 (mt_X8_its  hw_6 f) rfl (by decide) kd_105 (wf_lt hw_6 kd_105 rfl) ⟨rfl, rfl, Nat.le_of_ble_eq_true rfl, Nat.le_of_ble_eq_true rfl, Nat.zero_le _, Nat.zero_le _⟩ rfl rfl (Nat.le_of_ble_eq_true rfl) dX8_parting_38 (ab_kp (k := 0) (n := 0) (fun v_7 f => ?_))
    refine ab_aload_n C 1 dX8_parting_41 rfl rfl ?_
    refine ab_getI C fl_X8_281 rfl kd_105 (wf_lt hw_6 kd_105 rfl) dX8_parting_42 ?_
    refine ab_isub C dX8_parting_45 ?_
    refine ab_istore_n C (lv' := [(3, .int (v_7 - (hp_i h_5 105 16))), (2, .int v_1), (0, .ref (G.1 + 105)), (1, .int x1)]) dX8_parting_46 rfl (by decide) rfl ?_
    refine ab_aload_n C 2 dX8_parting_47 rfl rfl ?_
    refine ab_iload_n C 0 dX8_parting_48 rfl rfl ?_
    refine ab_if_ne C (tgt := 56) dX8_parting_49 (by decide) (fun c_8 => ?_) (fun c_8 => ?_)
    · have f := f.2 c_8
      refine ab_iconst C (v := (0 : Int32)) dX8_parting_56 (by decide) ?_
      refine ab_sub (lv' := [(0, .ref (G.1 + 105)), (1, .int x1), (2, .int v_1), (3, .int (v_7 - (hp_i h_5 105 16)))]) [2, 3, 1, 0] rfl ?_
      exact bt_X8_parting_b57 C     v_1 (v_7 - (hp_i h_5 105 16)) (0 : Int32) h_5  hw_6 f
    · have f := f.1 c_8
      refine ab_iconst C (v := (1 : Int32)) dX8_parting_52 (by decide) ?_
      refine ab_goto C (tgt := 57) dX8_parting_53 (by decide) ?_
      refine ab_sub (lv' := [(0, .ref (G.1 + 105)), (1, .int x1), (2, .int v_1), (3, .int (v_7 - (hp_i h_5 105 16)))]) [2, 3, 1, 0] rfl ?_
      exact bt_X8_parting_b57 C     v_1 (v_7 - (hp_i h_5 105 16)) (1 : Int32) h_5  hw_6 f
  · have f := f.2 c_2
    refine ab_iload_n C 0 dX8_parting_15 rfl rfl ?_
    refine ab_iconst C (v := (4 : Int32)) dX8_parting_16 (by decide) ?_
    refine ab_icmp_ne C (tgt := 26) dX8_parting_17 (by decide) (fun c_43 => ?_) (fun c_43 => ?_)
    · have f := f.2 c_43
      refine ab_aload_n C 1 dX8_parting_26 rfl rfl ?_
      refine ab_bipush C (v := (13 : Int32)) dX8_parting_27 (by decide) ?_
      refine ab_callV C (k := 0) (n := 0) (rest := []) [.int (13 : Int32)] cl_X8_284 (mt_X8_runs  hw f) rfl (by decide) kd_105 (wf_lt hw kd_105 rfl) ⟨rfl, rfl, Nat.le_of_ble_eq_true rfl, Nat.le_of_ble_eq_true rfl, Nat.zero_le _, Nat.zero_le _⟩ rfl rfl (Nat.le_of_ble_eq_true rfl) dX8_parting_29 (ab_kv (k := 0) (n := 0) (fun h_44 hw_45 f => ?_))
      refine ab_aload_n C 1 dX8_parting_32 rfl rfl ?_
      refine ab_aload_n C 1 dX8_parting_33 rfl rfl ?_
      refine ab_getI C fl_X8_281 rfl kd_105 (wf_lt hw_45 kd_105 rfl) dX8_parting_34 ?_
      refine ab_iconst C (v := (1 : Int32)) dX8_parting_37 (by decide) ?_
      refine ab_callV C (k := 0) (n := 0) (rest := []) [.int (hp_i h_44 105 16), .int (1 : Int32)] cl_X8_60 (mt_X8_its  hw_45 f) rfl (by decide) kd_105 (wf_lt hw_45 kd_105 rfl) ⟨rfl, rfl, Nat.le_of_ble_eq_true rfl, Nat.le_of_ble_eq_true rfl, Nat.zero_le _, Nat.zero_le _⟩ rfl rfl (Nat.le_of_ble_eq_true rfl) dX8_parting_38 (ab_kp (k := 0) (n := 0) (fun v_46 f => ?_))
      refine ab_aload_n C 1 dX8_parting_41 rfl rfl ?_
      refine ab_getI C fl_X8_281 rfl kd_105 (wf_lt hw_45 kd_105 rfl) dX8_parting_42 ?_
      refine ab_isub C dX8_parting_45 ?_
      refine ab_istore_n C (lv' := [(3, .int (v_46 - (hp_i h_44 105 16))), (2, .int v_1), (0, .ref (G.1 + 105)), (1, .int x1)]) dX8_parting_46 rfl (by decide) rfl ?_
      refine ab_aload_n C 2 dX8_parting_47 rfl rfl ?_
      refine ab_iload_n C 0 dX8_parting_48 rfl rfl ?_
      refine ab_if_ne C (tgt := 56) dX8_parting_49 (by decide) (fun c_47 => ?_) (fun c_47 => ?_)
      · have f := f.2 c_47
        refine ab_iconst C (v := (0 : Int32)) dX8_parting_56 (by decide) ?_
        refine ab_sub (lv' := [(0, .ref (G.1 + 105)), (1, .int x1), (2, .int v_1), (3, .int (v_46 - (hp_i h_44 105 16)))]) [2, 3, 1, 0] rfl ?_
        exact bt_X8_parting_b57 C     v_1 (v_46 - (hp_i h_44 105 16)) (0 : Int32) h_44  hw_45 f
      · have f := f.1 c_47
        refine ab_iconst C (v := (1 : Int32)) dX8_parting_52 (by decide) ?_
        refine ab_goto C (tgt := 57) dX8_parting_53 (by decide) ?_
        refine ab_sub (lv' := [(0, .ref (G.1 + 105)), (1, .int x1), (2, .int v_1), (3, .int (v_46 - (hp_i h_44 105 16)))]) [2, 3, 1, 0] rfl ?_
        exact bt_X8_parting_b57 C     v_1 (v_46 - (hp_i h_44 105 16)) (1 : Int32) h_44  hw_45 f
    · have f := f.1 c_43
      refine ab_aload_n C 1 dX8_parting_20 rfl rfl ?_
      refine ab_bipush C (v := (21 : Int32)) dX8_parting_21 (by decide) ?_
      refine ab_callV C (k := 0) (n := 0) (rest := []) [.int (21 : Int32)] cl_X8_284 (mt_X8_runs  hw f) rfl (by decide) kd_105 (wf_lt hw kd_105 rfl) ⟨rfl, rfl, Nat.le_of_ble_eq_true rfl, Nat.le_of_ble_eq_true rfl, Nat.zero_le _, Nat.zero_le _⟩ rfl rfl (Nat.le_of_ble_eq_true rfl) dX8_parting_23 (ab_kv (k := 0) (n := 0) (fun h_48 hw_49 f => ?_))
      refine ab_aload_n C 1 dX8_parting_26 rfl rfl ?_
      refine ab_bipush C (v := (13 : Int32)) dX8_parting_27 (by decide) ?_
      refine ab_callV C (k := 0) (n := 0) (rest := []) [.int (13 : Int32)] cl_X8_284 (mt_X8_runs  hw_49 f) rfl (by decide) kd_105 (wf_lt hw_49 kd_105 rfl) ⟨rfl, rfl, Nat.le_of_ble_eq_true rfl, Nat.le_of_ble_eq_true rfl, Nat.zero_le _, Nat.zero_le _⟩ rfl rfl (Nat.le_of_ble_eq_true rfl) dX8_parting_29 (ab_kv (k := 0) (n := 0) (fun h_50 hw_51 f => ?_))
      refine ab_aload_n C 1 dX8_parting_32 rfl rfl ?_
      refine ab_aload_n C 1 dX8_parting_33 rfl rfl ?_
      refine ab_getI C fl_X8_281 rfl kd_105 (wf_lt hw_51 kd_105 rfl) dX8_parting_34 ?_
      refine ab_iconst C (v := (1 : Int32)) dX8_parting_37 (by decide) ?_
      refine ab_callV C (k := 0) (n := 0) (rest := []) [.int (hp_i h_50 105 16), .int (1 : Int32)] cl_X8_60 (mt_X8_its  hw_51 f) rfl (by decide) kd_105 (wf_lt hw_51 kd_105 rfl) ⟨rfl, rfl, Nat.le_of_ble_eq_true rfl, Nat.le_of_ble_eq_true rfl, Nat.zero_le _, Nat.zero_le _⟩ rfl rfl (Nat.le_of_ble_eq_true rfl) dX8_parting_38 (ab_kp (k := 0) (n := 0) (fun v_52 f => ?_))
      refine ab_aload_n C 1 dX8_parting_41 rfl rfl ?_
      refine ab_getI C fl_X8_281 rfl kd_105 (wf_lt hw_51 kd_105 rfl) dX8_parting_42 ?_
      refine ab_isub C dX8_parting_45 ?_
      refine ab_istore_n C (lv' := [(3, .int (v_52 - (hp_i h_50 105 16))), (2, .int v_1), (0, .ref (G.1 + 105)), (1, .int x1)]) dX8_parting_46 rfl (by decide) rfl ?_
      refine ab_aload_n C 2 dX8_parting_47 rfl rfl ?_
      refine ab_iload_n C 0 dX8_parting_48 rfl rfl ?_
      refine ab_if_ne C (tgt := 56) dX8_parting_49 (by decide) (fun c_53 => ?_) (fun c_53 => ?_)
      · have f := f.2 c_53
        refine ab_iconst C (v := (0 : Int32)) dX8_parting_56 (by decide) ?_
        refine ab_sub (lv' := [(0, .ref (G.1 + 105)), (1, .int x1), (2, .int v_1), (3, .int (v_52 - (hp_i h_50 105 16)))]) [2, 3, 1, 0] rfl ?_
        exact bt_X8_parting_b57 C     v_1 (v_52 - (hp_i h_50 105 16)) (0 : Int32) h_50  hw_51 f
      · have f := f.1 c_53
        refine ab_iconst C (v := (1 : Int32)) dX8_parting_52 (by decide) ?_
        refine ab_goto C (tgt := 57) dX8_parting_53 (by decide) ?_
        refine ab_sub (lv' := [(0, .ref (G.1 + 105)), (1, .int x1), (2, .int v_1), (3, .int (v_52 - (hp_i h_50 105 16)))]) [2, 3, 1, 0] rfl ?_
        exact bt_X8_parting_b57 C     v_1 (v_52 - (hp_i h_50 105 16)) (1 : Int32) h_50  hw_51 f
/-! X8_put -/
def rm_X8_put : Room := { frames := 5, cells := 0, slots := 0, locals := 166 }
def wp_X8_put (x1 : Int32) (x2 : Int32) (x3 : Int32) (h : hp_T) (Q : Int32 → hp_T → Prop) : Prop :=
  wp_X8_wrong x1 h (fun v_1 => ((v_1 = 0 → (vp_in x1 4) ∧ wp_X8_in x2.toInt64 (0 : Int64) (((hp_i h 114 x1.toNatClampNeg) - (1 : Int32)).toInt64) h (fun v_24 => ((v_24 = 0 → wp_X8_errs (-1000000001 : Int32) h (fun v_46 h_47 => (Q v_46 h_47))) ∧ (¬ (v_24 = 0) → ((v_1 = 0 → (vp_in x1 4) ∧ (((hp_i h 113 x1.toNatClampNeg) = (8 : Int32) → (vp_in (((24 : Int32) * x1) + x2) 96) ∧ (∀ h_40, h_40 = hp_si h 115 ((((24 : Int32) * x1) + x2).toNatClampNeg) x3.toInt8.toInt32 → (Q (1 : Int32) h_40))) ∧ (¬ ((hp_i h 113 x1.toNatClampNeg) = (8 : Int32)) → (vp_in x1 4) ∧ (((hp_i h 113 x1.toNatClampNeg) = (16 : Int32) → (vp_in (((24 : Int32) * x1) + x2) 96) ∧ (∀ h_36, h_36 = hp_si h 115 ((((24 : Int32) * x1) + x2).toNatClampNeg) x3.toInt16.toInt32 → (Q (1 : Int32) h_36))) ∧ (¬ ((hp_i h 113 x1.toNatClampNeg) = (16 : Int32)) → (vp_in (((24 : Int32) * x1) + x2) 96) ∧ (∀ h_32, h_32 = hp_si h 115 ((((24 : Int32) * x1) + x2).toNatClampNeg) x3 → (Q (1 : Int32) h_32))))))) ∧ (¬ (v_1 = 0) → wp_X8_errs v_1 h (fun v_43 h_44 => (Q v_43 h_44)))))))) ∧ (¬ (v_1 = 0) → ((v_1 = 0 → (vp_in x1 4) ∧ (((hp_i h 113 x1.toNatClampNeg) = (8 : Int32) → (vp_in (((24 : Int32) * x1) + x2) 96) ∧ (∀ h_17, h_17 = hp_si h 115 ((((24 : Int32) * x1) + x2).toNatClampNeg) x3.toInt8.toInt32 → (Q (1 : Int32) h_17))) ∧ (¬ ((hp_i h 113 x1.toNatClampNeg) = (8 : Int32)) → (vp_in x1 4) ∧ (((hp_i h 113 x1.toNatClampNeg) = (16 : Int32) → (vp_in (((24 : Int32) * x1) + x2) 96) ∧ (∀ h_13, h_13 = hp_si h 115 ((((24 : Int32) * x1) + x2).toNatClampNeg) x3.toInt16.toInt32 → (Q (1 : Int32) h_13))) ∧ (¬ ((hp_i h 113 x1.toNatClampNeg) = (16 : Int32)) → (vp_in (((24 : Int32) * x1) + x2) 96) ∧ (∀ h_9, h_9 = hp_si h 115 ((((24 : Int32) * x1) + x2).toNatClampNeg) x3 → (Q (1 : Int32) h_9))))))) ∧ (¬ (v_1 = 0) → wp_X8_errs v_1 h (fun v_20 h_21 => (Q v_20 h_21)))))))
set_option maxRecDepth 100000 in
set_option maxHeartbeats 4000000 in
theorem mt_X8_put {l : Launch} {G : ab_G} {x1 : Int32} {x2 : Int32} {x3 : Int32} {h : hp_T} {Q : Int32 → hp_T → Prop} (hw : wf h) (f : wp_X8_put x1 x2 x3 h Q) : ab_M l G yX8_put cX8_put 5 (some .int) rm_X8_put 0 0 [.ref (G.1 + 105), .int x1, .int x2, .int x3] h (po_h Q) := by
  refine ab_intro (own := RX8) (nm := "put") rfl rfl rfl (Nat.le_of_ble_eq_true rfl) (fun F C => ?_)
  show ab_W l G F 5 (ab_MQ G F (po_h Q) 0 0) 0 0 h [(0, .ref (G.1 + 105)), (1, .int x1), (2, .int x2), (3, .int x3)] [] 0
  unfold wp_X8_put at f
  refine ab_aload_n C 0 dX8_put_0 rfl rfl ?_
  refine ab_iload_n C 1 dX8_put_1 rfl rfl ?_
  refine ab_callV C (k := 0) (n := 0) (rest := []) [.int x1] cl_X8_306 (mt_X8_wrong  hw f) rfl (by decide) kd_105 (wf_lt hw kd_105 rfl) ⟨rfl, rfl, Nat.le_of_ble_eq_true rfl, Nat.le_of_ble_eq_true rfl, Nat.zero_le _, Nat.zero_le _⟩ rfl rfl (Nat.le_of_ble_eq_true rfl) dX8_put_2 (ab_kp (k := 0) (n := 0) (fun v_1 f => ?_))
  refine ab_istore C (lv' := [(4, .int v_1), (0, .ref (G.1 + 105)), (1, .int x1), (2, .int x2), (3, .int x3)]) dX8_put_5 (by decide) rfl ?_
  refine ab_iload C 0 dX8_put_7 rfl ?_
  refine ab_if_ne C (tgt := 34) dX8_put_9 (by decide) (fun c_2 => ?_) (fun c_2 => ?_)
  · have f := f.2 c_2
    refine ab_iload C 0 dX8_put_34 rfl ?_
    refine ab_if_eq C (tgt := 46) dX8_put_36 (by decide) (fun c_3 => ?_) (fun c_3 => ?_)
    · have f := f.1 c_3
      refine ab_aload_n C 1 dX8_put_46 rfl rfl ?_
      refine ab_getR C (q := 115) fl_X8_37 rfl kd_105 (wf_lt hw kd_105 rfl) (wr_8_20 hw) dX8_put_47 ?_
      refine ab_bipush C (v := (24 : Int32)) dX8_put_50 (by decide) ?_
      refine ab_iload_n C 2 dX8_put_52 rfl rfl ?_
      refine ab_imul C dX8_put_53 ?_
      refine ab_iload_n C 3 dX8_put_54 rfl rfl ?_
      refine ab_iadd C dX8_put_55 ?_
      refine ab_aload_n C 1 dX8_put_56 rfl rfl ?_
      refine ab_getR C (q := 113) fl_X8_31 rfl kd_105 (wf_lt hw kd_105 rfl) (wr_8_18 hw) dX8_put_57 ?_
      refine ab_iload_n C 2 dX8_put_60 rfl rfl ?_
      obtain ⟨c_4, f⟩ := f
      refine ab_iald C (by rw [kd_113]; decide) (wf_lt hw kd_113 rfl) (wf_len hw kd_113 rfl rfl (by decide)) c_4 (j := x1.toNatClampNeg) rfl dX8_put_61 ?_
      refine ab_bipush C (v := (8 : Int32)) dX8_put_62 (by decide) ?_
      refine ab_icmp_ne C (tgt := 72) dX8_put_64 (by decide) (fun c_5 => ?_) (fun c_5 => ?_)
      · have f := f.2 c_5
        refine ab_aload_n C 1 dX8_put_72 rfl rfl ?_
        refine ab_getR C (q := 113) fl_X8_31 rfl kd_105 (wf_lt hw kd_105 rfl) (wr_8_18 hw) dX8_put_73 ?_
        refine ab_iload_n C 2 dX8_put_76 rfl rfl ?_
        obtain ⟨c_6, f⟩ := f
        refine ab_iald C (by rw [kd_113]; decide) (wf_lt hw kd_113 rfl) (wf_len hw kd_113 rfl rfl (by decide)) c_6 (j := x1.toNatClampNeg) rfl dX8_put_77 ?_
        refine ab_bipush C (v := (16 : Int32)) dX8_put_78 (by decide) ?_
        refine ab_icmp_ne C (tgt := 88) dX8_put_80 (by decide) (fun c_7 => ?_) (fun c_7 => ?_)
        · have f := f.2 c_7
          refine ab_iload_n C 4 dX8_put_88 rfl rfl ?_
          obtain ⟨c_8, f⟩ := f
          refine ab_iast C (by rw [kd_115]; decide) (wf_lt hw kd_115 rfl) (wf_len hw kd_115 rfl rfl (by decide)) c_8 (j := (((24 : Int32) * x1) + x2).toNatClampNeg) rfl dX8_put_89 (fun h_9 e_10 => ?_)
          have f := f h_9 e_10
          have hw_11 := wf_si e_10 hw
          refine ab_iconst C (v := (1 : Int32)) dX8_put_90 (by decide) ?_
          exact ab_iret C dX8_put_91 ⟨hw_11, _, rfl, f⟩
        · have f := f.1 c_7
          refine ab_iload_n C 4 dX8_put_83 rfl rfl ?_
          refine ab_i2s C dX8_put_84 ?_
          refine ab_goto C (tgt := 89) dX8_put_85 (by decide) ?_
          obtain ⟨c_12, f⟩ := f
          refine ab_iast C (by rw [kd_115]; decide) (wf_lt hw kd_115 rfl) (wf_len hw kd_115 rfl rfl (by decide)) c_12 (j := (((24 : Int32) * x1) + x2).toNatClampNeg) rfl dX8_put_89 (fun h_13 e_14 => ?_)
          have f := f h_13 e_14
          have hw_15 := wf_si e_14 hw
          refine ab_iconst C (v := (1 : Int32)) dX8_put_90 (by decide) ?_
          exact ab_iret C dX8_put_91 ⟨hw_15, _, rfl, f⟩
      · have f := f.1 c_5
        refine ab_iload_n C 4 dX8_put_67 rfl rfl ?_
        refine ab_i2b C dX8_put_68 ?_
        refine ab_goto C (tgt := 89) dX8_put_69 (by decide) ?_
        obtain ⟨c_16, f⟩ := f
        refine ab_iast C (by rw [kd_115]; decide) (wf_lt hw kd_115 rfl) (wf_len hw kd_115 rfl rfl (by decide)) c_16 (j := (((24 : Int32) * x1) + x2).toNatClampNeg) rfl dX8_put_89 (fun h_17 e_18 => ?_)
        have f := f h_17 e_18
        have hw_19 := wf_si e_18 hw
        refine ab_iconst C (v := (1 : Int32)) dX8_put_90 (by decide) ?_
        exact ab_iret C dX8_put_91 ⟨hw_19, _, rfl, f⟩
    · have f := f.2 c_3
      refine ab_aload_n C 1 dX8_put_39 rfl rfl ?_
      refine ab_iload C 0 dX8_put_40 rfl ?_
      refine ab_callV C (k := 0) (n := 0) (rest := []) [.int v_1] cl_X8_84 (mt_X8_errs  hw f) rfl (by decide) kd_105 (wf_lt hw kd_105 rfl) ⟨rfl, rfl, Nat.le_of_ble_eq_true rfl, Nat.le_of_ble_eq_true rfl, Nat.zero_le _, Nat.zero_le _⟩ rfl rfl (Nat.le_of_ble_eq_true rfl) dX8_put_42 (ab_kh (k := 0) (n := 0) (fun v_20 h_21 hw_22 f => ?_))
      exact ab_iret C dX8_put_45 ⟨hw_22, _, rfl, f⟩
  · have f := f.1 c_2
    refine ab_iload_n C 3 dX8_put_12 rfl rfl ?_
    refine ab_i2l C dX8_put_13 ?_
    refine ab_lconst C (v := (0 : Int64)) dX8_put_14 (by decide) ?_
    refine ab_aload_n C 1 dX8_put_15 rfl rfl ?_
    refine ab_getR C (q := 114) fl_X8_34 rfl kd_105 (wf_lt hw kd_105 rfl) (wr_8_19 hw) dX8_put_16 ?_
    refine ab_iload_n C 2 dX8_put_19 rfl rfl ?_
    obtain ⟨c_23, f⟩ := f
    refine ab_iald C (by rw [kd_114]; decide) (wf_lt hw kd_114 rfl) (wf_len hw kd_114 rfl rfl (by decide)) c_23 (j := x1.toNatClampNeg) rfl dX8_put_20 ?_
    refine ab_iconst C (v := (1 : Int32)) dX8_put_21 (by decide) ?_
    refine ab_isub C dX8_put_22 ?_
    refine ab_i2l C dX8_put_23 ?_
    refine ab_callS C (k := 0) (n := 0) (rest := []) [.long x2.toInt64, .long (0 : Int64), .long (((hp_i h 114 x1.toNatClampNeg) - (1 : Int32)).toInt64)] cl_X8_44 (mt_X8_in  hw f) ⟨rfl, rfl, Nat.le_of_ble_eq_true rfl, Nat.le_of_ble_eq_true rfl, Nat.zero_le _, Nat.zero_le _⟩ rfl rfl (Nat.le_of_ble_eq_true rfl) dX8_put_24 (ab_kp (k := 0) (n := 0) (fun v_24 f => ?_))
    refine ab_if_ne C (tgt := 34) dX8_put_27 (by decide) (fun c_25 => ?_) (fun c_25 => ?_)
    · have f := f.2 c_25
      refine ab_iload C 0 dX8_put_34 rfl ?_
      refine ab_if_eq C (tgt := 46) dX8_put_36 (by decide) (fun c_26 => ?_) (fun c_26 => ?_)
      · have f := f.1 c_26
        refine ab_aload_n C 1 dX8_put_46 rfl rfl ?_
        refine ab_getR C (q := 115) fl_X8_37 rfl kd_105 (wf_lt hw kd_105 rfl) (wr_8_20 hw) dX8_put_47 ?_
        refine ab_bipush C (v := (24 : Int32)) dX8_put_50 (by decide) ?_
        refine ab_iload_n C 2 dX8_put_52 rfl rfl ?_
        refine ab_imul C dX8_put_53 ?_
        refine ab_iload_n C 3 dX8_put_54 rfl rfl ?_
        refine ab_iadd C dX8_put_55 ?_
        refine ab_aload_n C 1 dX8_put_56 rfl rfl ?_
        refine ab_getR C (q := 113) fl_X8_31 rfl kd_105 (wf_lt hw kd_105 rfl) (wr_8_18 hw) dX8_put_57 ?_
        refine ab_iload_n C 2 dX8_put_60 rfl rfl ?_
        obtain ⟨c_27, f⟩ := f
        refine ab_iald C (by rw [kd_113]; decide) (wf_lt hw kd_113 rfl) (wf_len hw kd_113 rfl rfl (by decide)) c_27 (j := x1.toNatClampNeg) rfl dX8_put_61 ?_
        refine ab_bipush C (v := (8 : Int32)) dX8_put_62 (by decide) ?_
        refine ab_icmp_ne C (tgt := 72) dX8_put_64 (by decide) (fun c_28 => ?_) (fun c_28 => ?_)
        · have f := f.2 c_28
          refine ab_aload_n C 1 dX8_put_72 rfl rfl ?_
          refine ab_getR C (q := 113) fl_X8_31 rfl kd_105 (wf_lt hw kd_105 rfl) (wr_8_18 hw) dX8_put_73 ?_
          refine ab_iload_n C 2 dX8_put_76 rfl rfl ?_
          obtain ⟨c_29, f⟩ := f
          refine ab_iald C (by rw [kd_113]; decide) (wf_lt hw kd_113 rfl) (wf_len hw kd_113 rfl rfl (by decide)) c_29 (j := x1.toNatClampNeg) rfl dX8_put_77 ?_
          refine ab_bipush C (v := (16 : Int32)) dX8_put_78 (by decide) ?_
          refine ab_icmp_ne C (tgt := 88) dX8_put_80 (by decide) (fun c_30 => ?_) (fun c_30 => ?_)
          · have f := f.2 c_30
            refine ab_iload_n C 4 dX8_put_88 rfl rfl ?_
            obtain ⟨c_31, f⟩ := f
            refine ab_iast C (by rw [kd_115]; decide) (wf_lt hw kd_115 rfl) (wf_len hw kd_115 rfl rfl (by decide)) c_31 (j := (((24 : Int32) * x1) + x2).toNatClampNeg) rfl dX8_put_89 (fun h_32 e_33 => ?_)
            have f := f h_32 e_33
            have hw_34 := wf_si e_33 hw
            refine ab_iconst C (v := (1 : Int32)) dX8_put_90 (by decide) ?_
            exact ab_iret C dX8_put_91 ⟨hw_34, _, rfl, f⟩
          · have f := f.1 c_30
            refine ab_iload_n C 4 dX8_put_83 rfl rfl ?_
            refine ab_i2s C dX8_put_84 ?_
            refine ab_goto C (tgt := 89) dX8_put_85 (by decide) ?_
            obtain ⟨c_35, f⟩ := f
            refine ab_iast C (by rw [kd_115]; decide) (wf_lt hw kd_115 rfl) (wf_len hw kd_115 rfl rfl (by decide)) c_35 (j := (((24 : Int32) * x1) + x2).toNatClampNeg) rfl dX8_put_89 (fun h_36 e_37 => ?_)
            have f := f h_36 e_37
            have hw_38 := wf_si e_37 hw
            refine ab_iconst C (v := (1 : Int32)) dX8_put_90 (by decide) ?_
            exact ab_iret C dX8_put_91 ⟨hw_38, _, rfl, f⟩
        · have f := f.1 c_28
          refine ab_iload_n C 4 dX8_put_67 rfl rfl ?_
          refine ab_i2b C dX8_put_68 ?_
          refine ab_goto C (tgt := 89) dX8_put_69 (by decide) ?_
          obtain ⟨c_39, f⟩ := f
          refine ab_iast C (by rw [kd_115]; decide) (wf_lt hw kd_115 rfl) (wf_len hw kd_115 rfl rfl (by decide)) c_39 (j := (((24 : Int32) * x1) + x2).toNatClampNeg) rfl dX8_put_89 (fun h_40 e_41 => ?_)
          have f := f h_40 e_41
          have hw_42 := wf_si e_41 hw
          refine ab_iconst C (v := (1 : Int32)) dX8_put_90 (by decide) ?_
          exact ab_iret C dX8_put_91 ⟨hw_42, _, rfl, f⟩
      · have f := f.2 c_26
        refine ab_aload_n C 1 dX8_put_39 rfl rfl ?_
        refine ab_iload C 0 dX8_put_40 rfl ?_
        refine ab_callV C (k := 0) (n := 0) (rest := []) [.int v_1] cl_X8_84 (mt_X8_errs  hw f) rfl (by decide) kd_105 (wf_lt hw kd_105 rfl) ⟨rfl, rfl, Nat.le_of_ble_eq_true rfl, Nat.le_of_ble_eq_true rfl, Nat.zero_le _, Nat.zero_le _⟩ rfl rfl (Nat.le_of_ble_eq_true rfl) dX8_put_42 (ab_kh (k := 0) (n := 0) (fun v_43 h_44 hw_45 f => ?_))
        exact ab_iret C dX8_put_45 ⟨hw_45, _, rfl, f⟩
    · have f := f.1 c_25
      refine ab_ldc C kw_t821 dX8_put_30 ?_
      refine ab_istore C (lv' := [(4, .int (-1000000001 : Int32)), (0, .ref (G.1 + 105)), (1, .int x1), (2, .int x2), (3, .int x3)]) dX8_put_32 (by decide) rfl ?_
      refine ab_iload C 0 dX8_put_34 rfl ?_
      refine ab_if_eq C (tgt := 46) dX8_put_36 (by decide) (fun z => absurd z (by decide)) (fun _ => ?_)
      refine ab_aload_n C 1 dX8_put_39 rfl rfl ?_
      refine ab_iload C 0 dX8_put_40 rfl ?_
      refine ab_callV C (k := 0) (n := 0) (rest := []) [.int (-1000000001 : Int32)] cl_X8_84 (mt_X8_errs  hw f) rfl (by decide) kd_105 (wf_lt hw kd_105 rfl) ⟨rfl, rfl, Nat.le_of_ble_eq_true rfl, Nat.le_of_ble_eq_true rfl, Nat.zero_le _, Nat.zero_le _⟩ rfl rfl (Nat.le_of_ble_eq_true rfl) dX8_put_42 (ab_kh (k := 0) (n := 0) (fun v_46 h_47 hw_48 f => ?_))
      exact ab_iret C dX8_put_45 ⟨hw_48, _, rfl, f⟩
/-! X8_writes -/
def rm_X8_writes : Room := { frames := 2, cells := 0, slots := 0, locals := 100 }
def wp_X8_writes (x1 : Int32) (h : hp_T) (Q : hp_T → Prop) : Prop :=
  (((hp_i h 105 10) = 0 → (vp_in (hp_i h 105 8) 60) ∧ (∀ h_3, h_3 = hp_si h 111 ((hp_i h 105 8).toNatClampNeg) x1 → (∀ h_6, h_6 = hp_si h_3 105 8 ((hp_i h_3 105 8) + (1 : Int32)) → (Q h_6)))) ∧ (¬ ((hp_i h 105 10) = 0) → (Q h)))
set_option maxRecDepth 100000 in
set_option maxHeartbeats 4000000 in
theorem mt_X8_writes {l : Launch} {G : ab_G} {x1 : Int32} {h : hp_T} {Q : hp_T → Prop} (hw : wf h) (f : wp_X8_writes x1 h Q) : ab_M l G yX8_writes cX8_writes 2 none rm_X8_writes 0 0 [.ref (G.1 + 105), .int x1] h (po_v Q) := by
  refine ab_intro (own := RX8) (nm := "writes") rfl rfl rfl (Nat.le_of_ble_eq_true rfl) (fun F C => ?_)
  show ab_W l G F 2 (ab_MQ G F (po_v Q) 0 0) 0 0 h [(0, .ref (G.1 + 105)), (1, .int x1)] [] 0
  unfold wp_X8_writes at f
  refine ab_aload_n C 0 dX8_writes_0 rfl rfl ?_
  refine ab_getI C fl_X8_155 rfl kd_105 (wf_lt hw kd_105 rfl) dX8_writes_1 ?_
  refine ab_if_ne C (tgt := 27) dX8_writes_4 (by decide) (fun c_1 => ?_) (fun c_1 => ?_)
  · have f := f.2 c_1
    exact ab_vret C dX8_writes_27 ⟨hw, rfl, f⟩
  · have f := f.1 c_1
    refine ab_aload_n C 0 dX8_writes_7 rfl rfl ?_
    refine ab_getR C (q := 111) fl_X8_25 rfl kd_105 (wf_lt hw kd_105 rfl) (wr_8_11 hw) dX8_writes_8 ?_
    refine ab_aload_n C 0 dX8_writes_11 rfl rfl ?_
    refine ab_getI C fl_X8_167 rfl kd_105 (wf_lt hw kd_105 rfl) dX8_writes_12 ?_
    refine ab_iload_n C 1 dX8_writes_15 rfl rfl ?_
    obtain ⟨c_2, f⟩ := f
    refine ab_iast C (by rw [kd_111]; decide) (wf_lt hw kd_111 rfl) (wf_len hw kd_111 rfl rfl (by decide)) c_2 (j := (hp_i h 105 8).toNatClampNeg) rfl dX8_writes_16 (fun h_3 e_4 => ?_)
    have f := f h_3 e_4
    have hw_5 := wf_si e_4 hw
    refine ab_aload_n C 0 dX8_writes_17 rfl rfl ?_
    refine ab_dup C dX8_writes_18 rfl ?_
    refine ab_getI C fl_X8_167 rfl kd_105 (wf_lt hw_5 kd_105 rfl) dX8_writes_19 ?_
    refine ab_iconst C (v := (1 : Int32)) dX8_writes_22 (by decide) ?_
    refine ab_iadd C dX8_writes_23 ?_
    refine ab_putI C fl_X8_167 rfl kd_105 (wf_lt hw_5 kd_105 rfl) rfl rfl dX8_writes_24 (fun h_6 e_7 => ?_)
    have f := f h_6 e_7
    have hw_8 := wf_si e_7 hw_5
    exact ab_vret C dX8_writes_27 ⟨hw_8, rfl, f⟩
/-! X8_readsNumber -/
def rm_X8_readsNumber : Room := { frames := 4, cells := 0, slots := 0, locals := 145 }
def wp_X8_readsNumber_L4 (Q : hp_T → Prop) : Nat → Int32 → Int32 → hp_T → Prop
  | 0 => fun _ _ _ => False
  | nn + 1 => fun y1 y2 h => wp_X8_isDigitHere h (fun v_1 => ((v_1 = 0 → wp_X8_isDigitHere h (fun v_3 => (bo_ok v_3) ∧ (∀ h_4, h_4 = hp_si h 105 10 v_3 → wp_X8_writes y1 h_4 (fun h_8 => (Q h_8))))) ∧ (¬ (v_1 = 0) → (((4 : Int32) ≤ y2 → wp_X8_isDigitHere h (fun v_11 => (bo_ok v_11) ∧ (∀ h_12, h_12 = hp_si h 105 10 v_11 → wp_X8_writes y1 h_12 (fun h_16 => (Q h_16))))) ∧ (¬ ((4 : Int32) ≤ y2) → wp_X8_byteHere h (fun v_18 => (∀ h_19, h_19 = hp_si h 105 6 ((hp_i h 105 6) + (1 : Int32)) → (wp_X8_readsNumber_L4 Q nn) ((((10 : Int32) * y1) + v_18) - (48 : Int32)) (y2 + (1 : Int32)) h_19)))))))
set_option maxRecDepth 100000 in
set_option maxHeartbeats 4000000 in
theorem bt_X8_readsNumber_L4 {l : Launch} {G : ab_G} {F : ab_F}  {Q : hp_T → Prop}  (C : ab_C G F rm_X8_readsNumber cX8_readsNumber 3 RX8 none "readsNumber")   : ∀ (nn : Nat) (y1 : Int32) (y2 : Int32) (h : hp_T), wf h → wp_X8_readsNumber_L4 Q nn y1 y2 h → ab_W l G F 3 (ab_MQ G F (po_v Q) 0 0) 0 0 h [(0, .ref (G.1 + 105)), (1, .int y1), (2, .int y2)] [] 4 := by
  intro nn
  induction nn with
  | zero =>
    intro y1 y2 h hw f
    exact absurd f id
  | succ nn ih =>
    intro y1 y2 h hw f
    unfold wp_X8_readsNumber_L4 at f
    refine ab_aload_n C 0 dX8_readsNumber_4 rfl rfl ?_
    refine ab_callV C (k := 0) (n := 0) (rest := []) [] cl_X8_173 (mt_X8_isDigitHere  hw f) rfl (by decide) kd_105 (wf_lt hw kd_105 rfl) ⟨rfl, rfl, Nat.le_of_ble_eq_true rfl, Nat.le_of_ble_eq_true rfl, Nat.zero_le _, Nat.zero_le _⟩ rfl rfl (Nat.le_of_ble_eq_true rfl) dX8_readsNumber_5 (ab_kp (k := 0) (n := 0) (fun v_1 f => ?_))
    refine ab_if_eq C (tgt := 45) dX8_readsNumber_8 (by decide) (fun c_2 => ?_) (fun c_2 => ?_)
    · have f := f.1 c_2
      refine ab_aload_n C 0 dX8_readsNumber_45 rfl rfl ?_
      refine ab_aload_n C 0 dX8_readsNumber_46 rfl rfl ?_
      refine ab_callV C (k := 0) (n := 0) (rest := [.ref (G.1 + 105)]) [] cl_X8_173 (mt_X8_isDigitHere  hw f) rfl (by decide) kd_105 (wf_lt hw kd_105 rfl) ⟨rfl, rfl, Nat.le_of_ble_eq_true rfl, Nat.le_of_ble_eq_true rfl, Nat.zero_le _, Nat.zero_le _⟩ rfl rfl (Nat.le_of_ble_eq_true rfl) dX8_readsNumber_47 (ab_kp (k := 0) (n := 0) (fun v_3 f => ?_))
      obtain ⟨c_6, f⟩ := f
      refine ab_putI C fl_X8_155 rfl kd_105 (wf_lt hw kd_105 rfl) (bo_nar c_6) (bo_fit c_6) dX8_readsNumber_50 (fun h_4 e_5 => ?_)
      have f := f h_4 e_5
      have hw_7 := wf_si e_5 hw
      refine ab_aload_n C 0 dX8_readsNumber_53 rfl rfl ?_
      refine ab_iload_n C 1 dX8_readsNumber_54 rfl rfl ?_
      refine ab_callV C (k := 0) (n := 0) (rest := []) [.int y1] cl_X8_177 (mt_X8_writes  hw_7 f) rfl (by decide) kd_105 (wf_lt hw_7 kd_105 rfl) ⟨rfl, rfl, Nat.le_of_ble_eq_true rfl, Nat.le_of_ble_eq_true rfl, Nat.zero_le _, Nat.zero_le _⟩ rfl rfl (Nat.le_of_ble_eq_true rfl) dX8_readsNumber_55 (ab_kv (k := 0) (n := 0) (fun h_8 hw_9 f => ?_))
      exact ab_vret C dX8_readsNumber_58 ⟨hw_9, rfl, f⟩
    · have f := f.2 c_2
      refine ab_iload_n C 2 dX8_readsNumber_11 rfl rfl ?_
      refine ab_iconst C (v := (4 : Int32)) dX8_readsNumber_12 (by decide) ?_
      refine ab_icmp_ge C (tgt := 45) dX8_readsNumber_13 (by decide) (fun c_10 => ?_) (fun c_10 => ?_)
      · have f := f.1 c_10
        refine ab_aload_n C 0 dX8_readsNumber_45 rfl rfl ?_
        refine ab_aload_n C 0 dX8_readsNumber_46 rfl rfl ?_
        refine ab_callV C (k := 0) (n := 0) (rest := [.ref (G.1 + 105)]) [] cl_X8_173 (mt_X8_isDigitHere  hw f) rfl (by decide) kd_105 (wf_lt hw kd_105 rfl) ⟨rfl, rfl, Nat.le_of_ble_eq_true rfl, Nat.le_of_ble_eq_true rfl, Nat.zero_le _, Nat.zero_le _⟩ rfl rfl (Nat.le_of_ble_eq_true rfl) dX8_readsNumber_47 (ab_kp (k := 0) (n := 0) (fun v_11 f => ?_))
        obtain ⟨c_14, f⟩ := f
        refine ab_putI C fl_X8_155 rfl kd_105 (wf_lt hw kd_105 rfl) (bo_nar c_14) (bo_fit c_14) dX8_readsNumber_50 (fun h_12 e_13 => ?_)
        have f := f h_12 e_13
        have hw_15 := wf_si e_13 hw
        refine ab_aload_n C 0 dX8_readsNumber_53 rfl rfl ?_
        refine ab_iload_n C 1 dX8_readsNumber_54 rfl rfl ?_
        refine ab_callV C (k := 0) (n := 0) (rest := []) [.int y1] cl_X8_177 (mt_X8_writes  hw_15 f) rfl (by decide) kd_105 (wf_lt hw_15 kd_105 rfl) ⟨rfl, rfl, Nat.le_of_ble_eq_true rfl, Nat.le_of_ble_eq_true rfl, Nat.zero_le _, Nat.zero_le _⟩ rfl rfl (Nat.le_of_ble_eq_true rfl) dX8_readsNumber_55 (ab_kv (k := 0) (n := 0) (fun h_16 hw_17 f => ?_))
        exact ab_vret C dX8_readsNumber_58 ⟨hw_17, rfl, f⟩
      · have f := f.2 c_10
        refine ab_bipush C (v := (10 : Int32)) dX8_readsNumber_16 (by decide) ?_
        refine ab_iload_n C 1 dX8_readsNumber_18 rfl rfl ?_
        refine ab_imul C dX8_readsNumber_19 ?_
        refine ab_aload_n C 0 dX8_readsNumber_20 rfl rfl ?_
        refine ab_callV C (k := 0) (n := 0) (rest := [.int ((10 : Int32) * y1)]) [] cl_X8_159 (mt_X8_byteHere  hw f) rfl (by decide) kd_105 (wf_lt hw kd_105 rfl) ⟨rfl, rfl, Nat.le_of_ble_eq_true rfl, Nat.le_of_ble_eq_true rfl, Nat.zero_le _, Nat.zero_le _⟩ rfl rfl (Nat.le_of_ble_eq_true rfl) dX8_readsNumber_21 (ab_kp (k := 0) (n := 0) (fun v_18 f => ?_))
        refine ab_iadd C dX8_readsNumber_24 ?_
        refine ab_bipush C (v := (48 : Int32)) dX8_readsNumber_25 (by decide) ?_
        refine ab_isub C dX8_readsNumber_27 ?_
        refine ab_istore_n C (lv' := [(1, .int ((((10 : Int32) * y1) + v_18) - (48 : Int32))), (0, .ref (G.1 + 105)), (2, .int y2)]) dX8_readsNumber_28 rfl (by decide) rfl ?_
        refine ab_iinc C (lv' := [(2, .int (y2 + (1 : Int32))), (1, .int ((((10 : Int32) * y1) + v_18) - (48 : Int32))), (0, .ref (G.1 + 105))]) 2 (v := (y2 + (1 : Int32))) dX8_readsNumber_29 rfl rfl (by decide) rfl ?_
        refine ab_aload_n C 2 dX8_readsNumber_32 rfl rfl ?_
        refine ab_dup C dX8_readsNumber_33 rfl ?_
        refine ab_getI C fl_X8_151 rfl kd_105 (wf_lt hw kd_105 rfl) dX8_readsNumber_34 ?_
        refine ab_iconst C (v := (1 : Int32)) dX8_readsNumber_37 (by decide) ?_
        refine ab_iadd C dX8_readsNumber_38 ?_
        refine ab_putI C fl_X8_151 rfl kd_105 (wf_lt hw kd_105 rfl) rfl rfl dX8_readsNumber_39 (fun h_19 e_20 => ?_)
        have f := f h_19 e_20
        have hw_21 := wf_si e_20 hw
        refine ab_goto C (tgt := 4) dX8_readsNumber_42 (by decide) ?_
        refine ab_sub (lv' := [(0, .ref (G.1 + 105)), (1, .int ((((10 : Int32) * y1) + v_18) - (48 : Int32))), (2, .int (y2 + (1 : Int32)))]) [2, 1, 0] rfl ?_
        exact ih ((((10 : Int32) * y1) + v_18) - (48 : Int32)) (y2 + (1 : Int32)) h_19  hw_21 f
def wp_X8_readsNumber (h : hp_T) (Q : hp_T → Prop) : Prop :=
  (∃ n0, wp_X8_readsNumber_L4 Q  n0 (0 : Int32) (0 : Int32) h)
set_option maxRecDepth 100000 in
set_option maxHeartbeats 4000000 in
theorem mt_X8_readsNumber {l : Launch} {G : ab_G}  {h : hp_T} {Q : hp_T → Prop} (hw : wf h) (f : wp_X8_readsNumber h Q) : ab_M l G yX8_readsNumber cX8_readsNumber 3 none rm_X8_readsNumber 0 0 [.ref (G.1 + 105)] h (po_v Q) := by
  refine ab_intro (own := RX8) (nm := "readsNumber") rfl rfl rfl (Nat.le_of_ble_eq_true rfl) (fun F C => ?_)
  show ab_W l G F 3 (ab_MQ G F (po_v Q) 0 0) 0 0 h [(0, .ref (G.1 + 105))] [] 0
  unfold wp_X8_readsNumber at f
  refine ab_iconst C (v := (0 : Int32)) dX8_readsNumber_0 (by decide) ?_
  refine ab_istore_n C (lv' := [(1, .int (0 : Int32)), (0, .ref (G.1 + 105))]) dX8_readsNumber_1 rfl (by decide) rfl ?_
  refine ab_iconst C (v := (0 : Int32)) dX8_readsNumber_2 (by decide) ?_
  refine ab_istore_n C (lv' := [(2, .int (0 : Int32)), (1, .int (0 : Int32)), (0, .ref (G.1 + 105))]) dX8_readsNumber_3 rfl (by decide) rfl ?_
  obtain ⟨n0, f⟩ := f
  refine ab_sub (lv' := [(0, .ref (G.1 + 105)), (1, .int (0 : Int32)), (2, .int (0 : Int32))]) [2, 1, 0] rfl ?_
  exact bt_X8_readsNumber_L4 C    n0 (0 : Int32) (0 : Int32) h  hw f
abbrev rt_X8 : Type := (hp_T → (hp_T → Prop) → Prop) × (hp_T → (hp_T → Prop) → Prop) × (hp_T → (hp_T → Prop) → Prop) × (hp_T → (hp_T → Prop) → Prop) × (hp_T → (hp_T → Prop) → Prop) × (hp_T → (hp_T → Prop) → Prop)
def rr_X8 (d : Nat) : Room := { frames := d + 7, cells := 0, slots := 0, locals := 64 * d + 400 }
def ih_X8 (l : Launch) (G : ab_G) (rc : rt_X8) (d : Nat) : Prop := (∀ (h : hp_T) (Q : hp_T → Prop), wf h → rc.1  h Q → ab_M l G yX8_readsText cX8_readsText 1 none (rr_X8 d) 0 0 [.ref (G.1 + 105)] h (po_v Q)) ∧ (∀ (h : hp_T) (Q : hp_T → Prop), wf h → rc.2.1  h Q → ab_M l G yX8_readsAll cX8_readsAll 1 none (rr_X8 d) 0 0 [.ref (G.1 + 105)] h (po_v Q)) ∧ (∀ (h : hp_T) (Q : hp_T → Prop), wf h → rc.2.2.1  h Q → ab_M l G yX8_readsComparison cX8_readsComparison 2 none (rr_X8 d) 0 0 [.ref (G.1 + 105)] h (po_v Q)) ∧ (∀ (h : hp_T) (Q : hp_T → Prop), wf h → rc.2.2.2.1  h Q → ab_M l G yX8_readsSum cX8_readsSum 2 none (rr_X8 d) 0 0 [.ref (G.1 + 105)] h (po_v Q)) ∧ (∀ (h : hp_T) (Q : hp_T → Prop), wf h → rc.2.2.2.2.1  h Q → ab_M l G yX8_readsProduct cX8_readsProduct 2 none (rr_X8 d) 0 0 [.ref (G.1 + 105)] h (po_v Q)) ∧ (∀ (h : hp_T) (Q : hp_T → Prop), wf h → rc.2.2.2.2.2  h Q → ab_M l G yX8_readsOne cX8_readsOne 3 none (rr_X8 d) 0 0 [.ref (G.1 + 105)] h (po_v Q))
/-! X8_readsText -/
def wp_X8_readsText_L4 (rc : rt_X8) (Q : hp_T → Prop) : Nat → hp_T → Prop
  | 0 => fun _ => False
  | nn + 1 => fun h => wp_X8_isHere (124 : Int32) h (fun v_3 => ((v_3 = 0 → (Q h)) ∧ (¬ (v_3 = 0) → (∀ h_5, h_5 = hp_si h 105 6 ((hp_i h 105 6) + (1 : Int32)) → rc.2.1 h_5 (fun h_8 => wp_X8_writes (-11 : Int32) h_8 (fun h_10 => (wp_X8_readsText_L4 rc Q nn) h_10))))))
set_option maxRecDepth 100000 in
set_option maxHeartbeats 4000000 in
theorem bt_X8_readsText_L4 {l : Launch} {G : ab_G} {rc : rt_X8} {d : Nat} {F : ab_F}  {Q : hp_T → Prop}  (C : ab_C G F (rr_X8 (d + 1)) cX8_readsText 1 RX8 none "readsText") (ih0 : ih_X8 l G rc d)   : ∀ (nn : Nat) (h : hp_T), wf h → wp_X8_readsText_L4 rc Q nn h → ab_W l G F 1 (ab_MQ G F (po_v Q) 0 0) 0 0 h [(0, .ref (G.1 + 105))] [] 4 := by
  intro nn
  induction nn with
  | zero =>
    intro h hw f
    exact absurd f id
  | succ nn ih =>
    intro h hw f
    unfold wp_X8_readsText_L4 at f
    refine ab_aload_n C 0 dX8_readsText_4 rfl rfl ?_
    refine ab_bipush C (v := (124 : Int32)) dX8_readsText_5 (by decide) ?_
    refine ab_callV C (k := 0) (n := 0) (rest := []) [.int (124 : Int32)] cl_X8_187 (mt_X8_isHere  hw f) rfl (by decide) kd_105 (wf_lt hw kd_105 rfl) ⟨rfl, rfl, Nat.le_trans (Nat.le_of_ble_eq_true rfl) (Nat.le_add_left 7 (d + 1)), Nat.le_trans (Nat.le_of_ble_eq_true rfl) (Nat.le_add_left 400 (64 * (d + 1))), Nat.zero_le _, Nat.zero_le _⟩ rfl rfl (Nat.le_of_ble_eq_true rfl) dX8_readsText_7 (ab_kp (k := 0) (n := 0) (fun v_3 f => ?_))
    refine ab_if_eq C (tgt := 36) dX8_readsText_10 (by decide) (fun c_4 => ?_) (fun c_4 => ?_)
    · have f := f.1 c_4
      exact ab_vret C dX8_readsText_36 ⟨hw, rfl, f⟩
    · have f := f.2 c_4
      refine ab_aload_n C 0 dX8_readsText_13 rfl rfl ?_
      refine ab_dup C dX8_readsText_14 rfl ?_
      refine ab_getI C fl_X8_151 rfl kd_105 (wf_lt hw kd_105 rfl) dX8_readsText_15 ?_
      refine ab_iconst C (v := (1 : Int32)) dX8_readsText_18 (by decide) ?_
      refine ab_iadd C dX8_readsText_19 ?_
      refine ab_putI C fl_X8_151 rfl kd_105 (wf_lt hw kd_105 rfl) rfl rfl dX8_readsText_20 (fun h_5 e_6 => ?_)
      have f := f h_5 e_6
      have hw_7 := wf_si e_6 hw
      refine ab_aload_n C 0 dX8_readsText_23 rfl rfl ?_
      refine ab_callV C (k := 0) (n := 0) (rest := []) [] cl_X8_208 (ih0.2.1  h_5 _ hw_7 f) rfl (by decide) kd_105 (wf_lt hw_7 kd_105 rfl) ⟨rfl, rfl, Nat.le_of_eq (Nat.add_right_comm d 7 1), (by show 8 + (1 + 11) + (64 * d + 400) ≤ 64 * (d + 1) + 400; omega), Nat.zero_le _, Nat.zero_le _⟩ rfl rfl (Nat.le_of_ble_eq_true rfl) dX8_readsText_24 (ab_kv (k := 0) (n := 0) (fun h_8 hw_9 f => ?_))
      refine ab_aload_n C 0 dX8_readsText_27 rfl rfl ?_
      refine ab_bipush C (v := (-11 : Int32)) dX8_readsText_28 (by decide) ?_
      refine ab_callV C (k := 0) (n := 0) (rest := []) [.int (-11 : Int32)] cl_X8_177 (mt_X8_writes  hw_9 f) rfl (by decide) kd_105 (wf_lt hw_9 kd_105 rfl) ⟨rfl, rfl, Nat.le_trans (Nat.le_of_ble_eq_true rfl) (Nat.le_add_left 7 (d + 1)), Nat.le_trans (Nat.le_of_ble_eq_true rfl) (Nat.le_add_left 400 (64 * (d + 1))), Nat.zero_le _, Nat.zero_le _⟩ rfl rfl (Nat.le_of_ble_eq_true rfl) dX8_readsText_30 (ab_kv (k := 0) (n := 0) (fun h_10 hw_11 f => ?_))
      refine ab_goto C (tgt := 4) dX8_readsText_33 (by decide) ?_
      exact ih h_10  hw_11 f
def wp_X8_readsText (rc : rt_X8) (h : hp_T) (Q : hp_T → Prop) : Prop :=
  rc.2.1 h (fun h_1 => (∃ n0, wp_X8_readsText_L4 rc Q  n0 h_1))
set_option maxRecDepth 100000 in
set_option maxHeartbeats 4000000 in
theorem mt_X8_readsText {l : Launch} {G : ab_G} {rc : rt_X8} {d : Nat}  {h : hp_T} {Q : hp_T → Prop} (ih0 : ih_X8 l G rc d) (hw : wf h) (f : wp_X8_readsText rc h Q) : ab_M l G yX8_readsText cX8_readsText 1 none (rr_X8 (d + 1)) 0 0 [.ref (G.1 + 105)] h (po_v Q) := by
  refine ab_intro (own := RX8) (nm := "readsText") rfl rfl rfl (Nat.le_of_ble_eq_true rfl) (fun F C => ?_)
  show ab_W l G F 1 (ab_MQ G F (po_v Q) 0 0) 0 0 h [(0, .ref (G.1 + 105))] [] 0
  unfold wp_X8_readsText at f
  refine ab_aload_n C 0 dX8_readsText_0 rfl rfl ?_
  refine ab_callV C (k := 0) (n := 0) (rest := []) [] cl_X8_208 (ih0.2.1  h _ hw f) rfl (by decide) kd_105 (wf_lt hw kd_105 rfl) ⟨rfl, rfl, Nat.le_of_eq (Nat.add_right_comm d 7 1), (by show 8 + (1 + 11) + (64 * d + 400) ≤ 64 * (d + 1) + 400; omega), Nat.zero_le _, Nat.zero_le _⟩ rfl rfl (Nat.le_of_ble_eq_true rfl) dX8_readsText_1 (ab_kv (k := 0) (n := 0) (fun h_1 hw_2 f => ?_))
  obtain ⟨n0, f⟩ := f
  exact bt_X8_readsText_L4 C ih0    n0 h_1  hw_2 f
/-! X8_readsAll -/
def wp_X8_readsAll_L4 (rc : rt_X8) (Q : hp_T → Prop) : Nat → hp_T → Prop
  | 0 => fun _ => False
  | nn + 1 => fun h => wp_X8_isHere (38 : Int32) h (fun v_3 => ((v_3 = 0 → (Q h)) ∧ (¬ (v_3 = 0) → (∀ h_5, h_5 = hp_si h 105 6 ((hp_i h 105 6) + (1 : Int32)) → rc.2.2.1 h_5 (fun h_8 => wp_X8_writes (-12 : Int32) h_8 (fun h_10 => (wp_X8_readsAll_L4 rc Q nn) h_10))))))
set_option maxRecDepth 100000 in
set_option maxHeartbeats 4000000 in
theorem bt_X8_readsAll_L4 {l : Launch} {G : ab_G} {rc : rt_X8} {d : Nat} {F : ab_F}  {Q : hp_T → Prop}  (C : ab_C G F (rr_X8 (d + 1)) cX8_readsAll 1 RX8 none "readsAll") (ih0 : ih_X8 l G rc d)   : ∀ (nn : Nat) (h : hp_T), wf h → wp_X8_readsAll_L4 rc Q nn h → ab_W l G F 1 (ab_MQ G F (po_v Q) 0 0) 0 0 h [(0, .ref (G.1 + 105))] [] 4 := by
  intro nn
  induction nn with
  | zero =>
    intro h hw f
    exact absurd f id
  | succ nn ih =>
    intro h hw f
    unfold wp_X8_readsAll_L4 at f
    refine ab_aload_n C 0 dX8_readsAll_4 rfl rfl ?_
    refine ab_bipush C (v := (38 : Int32)) dX8_readsAll_5 (by decide) ?_
    refine ab_callV C (k := 0) (n := 0) (rest := []) [.int (38 : Int32)] cl_X8_187 (mt_X8_isHere  hw f) rfl (by decide) kd_105 (wf_lt hw kd_105 rfl) ⟨rfl, rfl, Nat.le_trans (Nat.le_of_ble_eq_true rfl) (Nat.le_add_left 7 (d + 1)), Nat.le_trans (Nat.le_of_ble_eq_true rfl) (Nat.le_add_left 400 (64 * (d + 1))), Nat.zero_le _, Nat.zero_le _⟩ rfl rfl (Nat.le_of_ble_eq_true rfl) dX8_readsAll_7 (ab_kp (k := 0) (n := 0) (fun v_3 f => ?_))
    refine ab_if_eq C (tgt := 36) dX8_readsAll_10 (by decide) (fun c_4 => ?_) (fun c_4 => ?_)
    · have f := f.1 c_4
      exact ab_vret C dX8_readsAll_36 ⟨hw, rfl, f⟩
    · have f := f.2 c_4
      refine ab_aload_n C 0 dX8_readsAll_13 rfl rfl ?_
      refine ab_dup C dX8_readsAll_14 rfl ?_
      refine ab_getI C fl_X8_151 rfl kd_105 (wf_lt hw kd_105 rfl) dX8_readsAll_15 ?_
      refine ab_iconst C (v := (1 : Int32)) dX8_readsAll_18 (by decide) ?_
      refine ab_iadd C dX8_readsAll_19 ?_
      refine ab_putI C fl_X8_151 rfl kd_105 (wf_lt hw kd_105 rfl) rfl rfl dX8_readsAll_20 (fun h_5 e_6 => ?_)
      have f := f h_5 e_6
      have hw_7 := wf_si e_6 hw
      refine ab_aload_n C 0 dX8_readsAll_23 rfl rfl ?_
      refine ab_callV C (k := 0) (n := 0) (rest := []) [] cl_X8_205 (ih0.2.2.1  h_5 _ hw_7 f) rfl (by decide) kd_105 (wf_lt hw_7 kd_105 rfl) ⟨rfl, rfl, Nat.le_of_eq (Nat.add_right_comm d 7 1), (by show 8 + (2 + 11) + (64 * d + 400) ≤ 64 * (d + 1) + 400; omega), Nat.zero_le _, Nat.zero_le _⟩ rfl rfl (Nat.le_of_ble_eq_true rfl) dX8_readsAll_24 (ab_kv (k := 0) (n := 0) (fun h_8 hw_9 f => ?_))
      refine ab_aload_n C 0 dX8_readsAll_27 rfl rfl ?_
      refine ab_bipush C (v := (-12 : Int32)) dX8_readsAll_28 (by decide) ?_
      refine ab_callV C (k := 0) (n := 0) (rest := []) [.int (-12 : Int32)] cl_X8_177 (mt_X8_writes  hw_9 f) rfl (by decide) kd_105 (wf_lt hw_9 kd_105 rfl) ⟨rfl, rfl, Nat.le_trans (Nat.le_of_ble_eq_true rfl) (Nat.le_add_left 7 (d + 1)), Nat.le_trans (Nat.le_of_ble_eq_true rfl) (Nat.le_add_left 400 (64 * (d + 1))), Nat.zero_le _, Nat.zero_le _⟩ rfl rfl (Nat.le_of_ble_eq_true rfl) dX8_readsAll_30 (ab_kv (k := 0) (n := 0) (fun h_10 hw_11 f => ?_))
      refine ab_goto C (tgt := 4) dX8_readsAll_33 (by decide) ?_
      exact ih h_10  hw_11 f
def wp_X8_readsAll (rc : rt_X8) (h : hp_T) (Q : hp_T → Prop) : Prop :=
  rc.2.2.1 h (fun h_1 => (∃ n0, wp_X8_readsAll_L4 rc Q  n0 h_1))
set_option maxRecDepth 100000 in
set_option maxHeartbeats 4000000 in
theorem mt_X8_readsAll {l : Launch} {G : ab_G} {rc : rt_X8} {d : Nat}  {h : hp_T} {Q : hp_T → Prop} (ih0 : ih_X8 l G rc d) (hw : wf h) (f : wp_X8_readsAll rc h Q) : ab_M l G yX8_readsAll cX8_readsAll 1 none (rr_X8 (d + 1)) 0 0 [.ref (G.1 + 105)] h (po_v Q) := by
  refine ab_intro (own := RX8) (nm := "readsAll") rfl rfl rfl (Nat.le_of_ble_eq_true rfl) (fun F C => ?_)
  show ab_W l G F 1 (ab_MQ G F (po_v Q) 0 0) 0 0 h [(0, .ref (G.1 + 105))] [] 0
  unfold wp_X8_readsAll at f
  refine ab_aload_n C 0 dX8_readsAll_0 rfl rfl ?_
  refine ab_callV C (k := 0) (n := 0) (rest := []) [] cl_X8_205 (ih0.2.2.1  h _ hw f) rfl (by decide) kd_105 (wf_lt hw kd_105 rfl) ⟨rfl, rfl, Nat.le_of_eq (Nat.add_right_comm d 7 1), (by show 8 + (2 + 11) + (64 * d + 400) ≤ 64 * (d + 1) + 400; omega), Nat.zero_le _, Nat.zero_le _⟩ rfl rfl (Nat.le_of_ble_eq_true rfl) dX8_readsAll_1 (ab_kv (k := 0) (n := 0) (fun h_1 hw_2 f => ?_))
  obtain ⟨n0, f⟩ := f
  exact bt_X8_readsAll_L4 C ih0    n0 h_1  hw_2 f
/-! X8_readsComparison -/
def wp_X8_readsComparison_b31 (rc : rt_X8) (Q : hp_T → Prop) (h : hp_T) : Prop :=
  wp_X8_isHere (60 : Int32) h (fun v_5 => ((v_5 = 0 → wp_X8_isHere (61 : Int32) h (fun v_7 => ((v_7 = 0 → (∀ h_9, h_9 = hp_si h 105 6 ((hp_i h 105 6) + (1 : Int32)) → rc.2.2.2.1 h_9 (fun h_12 => wp_X8_writes (-15 : Int32) h_12 (fun h_14 => (Q h_14))))) ∧ (¬ (v_7 = 0) → (∀ h_16, h_16 = hp_si h 105 6 ((hp_i h 105 6) + (1 : Int32)) → rc.2.2.2.1 h_16 (fun h_19 => wp_X8_writes (-14 : Int32) h_19 (fun h_21 => (Q h_21)))))))) ∧ (¬ (v_5 = 0) → (∀ h_23, h_23 = hp_si h 105 6 ((hp_i h 105 6) + (1 : Int32)) → rc.2.2.2.1 h_23 (fun h_26 => wp_X8_writes (-13 : Int32) h_26 (fun h_28 => (Q h_28)))))))
set_option maxRecDepth 100000 in
set_option maxHeartbeats 4000000 in
theorem bt_X8_readsComparison_b31 {l : Launch} {G : ab_G} {rc : rt_X8} {d : Nat} {F : ab_F}  {Q : hp_T → Prop}  (C : ab_C G F (rr_X8 (d + 1)) cX8_readsComparison 2 RX8 none "readsComparison") (ih0 : ih_X8 l G rc d)   : ∀ (h : hp_T), wf h → wp_X8_readsComparison_b31 rc Q h → ab_W l G F 2 (ab_MQ G F (po_v Q) 0 0) 0 0 h [(0, .ref (G.1 + 105))] [] 31 := by
  intro h hw f
  unfold wp_X8_readsComparison_b31 at f
  refine ab_aload_n C 0 dX8_readsComparison_31 rfl rfl ?_
  refine ab_bipush C (v := (60 : Int32)) dX8_readsComparison_32 (by decide) ?_
  refine ab_callV C (k := 0) (n := 0) (rest := []) [.int (60 : Int32)] cl_X8_187 (mt_X8_isHere  hw f) rfl (by decide) kd_105 (wf_lt hw kd_105 rfl) ⟨rfl, rfl, Nat.le_trans (Nat.le_of_ble_eq_true rfl) (Nat.le_add_left 7 (d + 1)), Nat.le_trans (Nat.le_of_ble_eq_true rfl) (Nat.le_add_left 400 (64 * (d + 1))), Nat.zero_le _, Nat.zero_le _⟩ rfl rfl (Nat.le_of_ble_eq_true rfl) dX8_readsComparison_34 (ab_kp (k := 0) (n := 0) (fun v_5 f => ?_))
  refine ab_if_eq C (tgt := 45) dX8_readsComparison_37 (by decide) (fun c_6 => ?_) (fun c_6 => ?_)
  · have f := f.1 c_6
    refine ab_aload_n C 0 dX8_readsComparison_45 rfl rfl ?_
    refine ab_bipush C (v := (61 : Int32)) dX8_readsComparison_46 (by decide) ?_
    refine ab_callV C (k := 0) (n := 0) (rest := []) [.int (61 : Int32)] cl_X8_187 (mt_X8_isHere  hw f) rfl (by decide) kd_105 (wf_lt hw kd_105 rfl) ⟨rfl, rfl, Nat.le_trans (Nat.le_of_ble_eq_true rfl) (Nat.le_add_left 7 (d + 1)), Nat.le_trans (Nat.le_of_ble_eq_true rfl) (Nat.le_add_left 400 (64 * (d + 1))), Nat.zero_le _, Nat.zero_le _⟩ rfl rfl (Nat.le_of_ble_eq_true rfl) dX8_readsComparison_48 (ab_kp (k := 0) (n := 0) (fun v_7 f => ?_))
    refine ab_if_eq C (tgt := 59) dX8_readsComparison_51 (by decide) (fun c_8 => ?_) (fun c_8 => ?_)
    · have f := f.1 c_8
      refine ab_bipush C (v := (-15 : Int32)) dX8_readsComparison_59 (by decide) ?_
      refine ab_istore_n C (lv' := [(1, .int (-15 : Int32)), (0, .ref (G.1 + 105))]) dX8_readsComparison_61 rfl (by decide) rfl ?_
      refine ab_aload_n C 1 dX8_readsComparison_62 rfl rfl ?_
      refine ab_dup C dX8_readsComparison_63 rfl ?_
      refine ab_getI C fl_X8_151 rfl kd_105 (wf_lt hw kd_105 rfl) dX8_readsComparison_64 ?_
      refine ab_iconst C (v := (1 : Int32)) dX8_readsComparison_67 (by decide) ?_
      refine ab_iadd C dX8_readsComparison_68 ?_
      refine ab_putI C fl_X8_151 rfl kd_105 (wf_lt hw kd_105 rfl) rfl rfl dX8_readsComparison_69 (fun h_9 e_10 => ?_)
      have f := f h_9 e_10
      have hw_11 := wf_si e_10 hw
      refine ab_aload_n C 1 dX8_readsComparison_72 rfl rfl ?_
      refine ab_callV C (k := 0) (n := 0) (rest := []) [] cl_X8_202 (ih0.2.2.2.1  h_9 _ hw_11 f) rfl (by decide) kd_105 (wf_lt hw_11 kd_105 rfl) ⟨rfl, rfl, Nat.le_of_eq (Nat.add_right_comm d 7 1), (by show 8 + (2 + 11) + (64 * d + 400) ≤ 64 * (d + 1) + 400; omega), Nat.zero_le _, Nat.zero_le _⟩ rfl rfl (Nat.le_of_ble_eq_true rfl) dX8_readsComparison_73 (ab_kv (k := 0) (n := 0) (fun h_12 hw_13 f => ?_))
      refine ab_aload_n C 1 dX8_readsComparison_76 rfl rfl ?_
      refine ab_iload_n C 0 dX8_readsComparison_77 rfl rfl ?_
      refine ab_callV C (k := 0) (n := 0) (rest := []) [.int (-15 : Int32)] cl_X8_177 (mt_X8_writes  hw_13 f) rfl (by decide) kd_105 (wf_lt hw_13 kd_105 rfl) ⟨rfl, rfl, Nat.le_trans (Nat.le_of_ble_eq_true rfl) (Nat.le_add_left 7 (d + 1)), Nat.le_trans (Nat.le_of_ble_eq_true rfl) (Nat.le_add_left 400 (64 * (d + 1))), Nat.zero_le _, Nat.zero_le _⟩ rfl rfl (Nat.le_of_ble_eq_true rfl) dX8_readsComparison_78 (ab_kv (k := 0) (n := 0) (fun h_14 hw_15 f => ?_))
      exact ab_vret C dX8_readsComparison_81 ⟨hw_15, rfl, f⟩
    · have f := f.2 c_8
      refine ab_bipush C (v := (-14 : Int32)) dX8_readsComparison_54 (by decide) ?_
      refine ab_goto C (tgt := 61) dX8_readsComparison_56 (by decide) ?_
      refine ab_istore_n C (lv' := [(1, .int (-14 : Int32)), (0, .ref (G.1 + 105))]) dX8_readsComparison_61 rfl (by decide) rfl ?_
      refine ab_aload_n C 1 dX8_readsComparison_62 rfl rfl ?_
      refine ab_dup C dX8_readsComparison_63 rfl ?_
      refine ab_getI C fl_X8_151 rfl kd_105 (wf_lt hw kd_105 rfl) dX8_readsComparison_64 ?_
      refine ab_iconst C (v := (1 : Int32)) dX8_readsComparison_67 (by decide) ?_
      refine ab_iadd C dX8_readsComparison_68 ?_
      refine ab_putI C fl_X8_151 rfl kd_105 (wf_lt hw kd_105 rfl) rfl rfl dX8_readsComparison_69 (fun h_16 e_17 => ?_)
      have f := f h_16 e_17
      have hw_18 := wf_si e_17 hw
      refine ab_aload_n C 1 dX8_readsComparison_72 rfl rfl ?_
      refine ab_callV C (k := 0) (n := 0) (rest := []) [] cl_X8_202 (ih0.2.2.2.1  h_16 _ hw_18 f) rfl (by decide) kd_105 (wf_lt hw_18 kd_105 rfl) ⟨rfl, rfl, Nat.le_of_eq (Nat.add_right_comm d 7 1), (by show 8 + (2 + 11) + (64 * d + 400) ≤ 64 * (d + 1) + 400; omega), Nat.zero_le _, Nat.zero_le _⟩ rfl rfl (Nat.le_of_ble_eq_true rfl) dX8_readsComparison_73 (ab_kv (k := 0) (n := 0) (fun h_19 hw_20 f => ?_))
      refine ab_aload_n C 1 dX8_readsComparison_76 rfl rfl ?_
      refine ab_iload_n C 0 dX8_readsComparison_77 rfl rfl ?_
      refine ab_callV C (k := 0) (n := 0) (rest := []) [.int (-14 : Int32)] cl_X8_177 (mt_X8_writes  hw_20 f) rfl (by decide) kd_105 (wf_lt hw_20 kd_105 rfl) ⟨rfl, rfl, Nat.le_trans (Nat.le_of_ble_eq_true rfl) (Nat.le_add_left 7 (d + 1)), Nat.le_trans (Nat.le_of_ble_eq_true rfl) (Nat.le_add_left 400 (64 * (d + 1))), Nat.zero_le _, Nat.zero_le _⟩ rfl rfl (Nat.le_of_ble_eq_true rfl) dX8_readsComparison_78 (ab_kv (k := 0) (n := 0) (fun h_21 hw_22 f => ?_))
      exact ab_vret C dX8_readsComparison_81 ⟨hw_22, rfl, f⟩
  · have f := f.2 c_6
    refine ab_bipush C (v := (-13 : Int32)) dX8_readsComparison_40 (by decide) ?_
    refine ab_goto C (tgt := 61) dX8_readsComparison_42 (by decide) ?_
    refine ab_istore_n C (lv' := [(1, .int (-13 : Int32)), (0, .ref (G.1 + 105))]) dX8_readsComparison_61 rfl (by decide) rfl ?_
    refine ab_aload_n C 1 dX8_readsComparison_62 rfl rfl ?_
    refine ab_dup C dX8_readsComparison_63 rfl ?_
    refine ab_getI C fl_X8_151 rfl kd_105 (wf_lt hw kd_105 rfl) dX8_readsComparison_64 ?_
    refine ab_iconst C (v := (1 : Int32)) dX8_readsComparison_67 (by decide) ?_
    refine ab_iadd C dX8_readsComparison_68 ?_
    refine ab_putI C fl_X8_151 rfl kd_105 (wf_lt hw kd_105 rfl) rfl rfl dX8_readsComparison_69 (fun h_23 e_24 => ?_)
    have f := f h_23 e_24
    have hw_25 := wf_si e_24 hw
    refine ab_aload_n C 1 dX8_readsComparison_72 rfl rfl ?_
    refine ab_callV C (k := 0) (n := 0) (rest := []) [] cl_X8_202 (ih0.2.2.2.1  h_23 _ hw_25 f) rfl (by decide) kd_105 (wf_lt hw_25 kd_105 rfl) ⟨rfl, rfl, Nat.le_of_eq (Nat.add_right_comm d 7 1), (by show 8 + (2 + 11) + (64 * d + 400) ≤ 64 * (d + 1) + 400; omega), Nat.zero_le _, Nat.zero_le _⟩ rfl rfl (Nat.le_of_ble_eq_true rfl) dX8_readsComparison_73 (ab_kv (k := 0) (n := 0) (fun h_26 hw_27 f => ?_))
    refine ab_aload_n C 1 dX8_readsComparison_76 rfl rfl ?_
    refine ab_iload_n C 0 dX8_readsComparison_77 rfl rfl ?_
    refine ab_callV C (k := 0) (n := 0) (rest := []) [.int (-13 : Int32)] cl_X8_177 (mt_X8_writes  hw_27 f) rfl (by decide) kd_105 (wf_lt hw_27 kd_105 rfl) ⟨rfl, rfl, Nat.le_trans (Nat.le_of_ble_eq_true rfl) (Nat.le_add_left 7 (d + 1)), Nat.le_trans (Nat.le_of_ble_eq_true rfl) (Nat.le_add_left 400 (64 * (d + 1))), Nat.zero_le _, Nat.zero_le _⟩ rfl rfl (Nat.le_of_ble_eq_true rfl) dX8_readsComparison_78 (ab_kv (k := 0) (n := 0) (fun h_28 hw_29 f => ?_))
    exact ab_vret C dX8_readsComparison_81 ⟨hw_29, rfl, f⟩
def wp_X8_readsComparison (rc : rt_X8) (h : hp_T) (Q : hp_T → Prop) : Prop :=
  rc.2.2.2.1 h (fun h_1 => wp_X8_isHere (60 : Int32) h_1 (fun v_3 => ((v_3 = 0 → wp_X8_isHere (61 : Int32) h_1 (fun v_30 => ((v_30 = 0 → wp_X8_isHere (62 : Int32) h_1 (fun v_32 => ((v_32 = 0 → (Q h_1)) ∧ (¬ (v_32 = 0) → (wp_X8_readsComparison_b31 rc Q  h_1))))) ∧ (¬ (v_30 = 0) → (wp_X8_readsComparison_b31 rc Q  h_1))))) ∧ (¬ (v_3 = 0) → (wp_X8_readsComparison_b31 rc Q  h_1)))))
set_option maxRecDepth 100000 in
set_option maxHeartbeats 4000000 in
theorem mt_X8_readsComparison {l : Launch} {G : ab_G} {rc : rt_X8} {d : Nat}  {h : hp_T} {Q : hp_T → Prop} (ih0 : ih_X8 l G rc d) (hw : wf h) (f : wp_X8_readsComparison rc h Q) : ab_M l G yX8_readsComparison cX8_readsComparison 2 none (rr_X8 (d + 1)) 0 0 [.ref (G.1 + 105)] h (po_v Q) := by
  refine ab_intro (own := RX8) (nm := "readsComparison") rfl rfl rfl (Nat.le_of_ble_eq_true rfl) (fun F C => ?_)
  show ab_W l G F 2 (ab_MQ G F (po_v Q) 0 0) 0 0 h [(0, .ref (G.1 + 105))] [] 0
  unfold wp_X8_readsComparison at f
  refine ab_aload_n C 0 dX8_readsComparison_0 rfl rfl ?_
  refine ab_callV C (k := 0) (n := 0) (rest := []) [] cl_X8_202 (ih0.2.2.2.1  h _ hw f) rfl (by decide) kd_105 (wf_lt hw kd_105 rfl) ⟨rfl, rfl, Nat.le_of_eq (Nat.add_right_comm d 7 1), (by show 8 + (2 + 11) + (64 * d + 400) ≤ 64 * (d + 1) + 400; omega), Nat.zero_le _, Nat.zero_le _⟩ rfl rfl (Nat.le_of_ble_eq_true rfl) dX8_readsComparison_1 (ab_kv (k := 0) (n := 0) (fun h_1 hw_2 f => ?_))
  refine ab_aload_n C 0 dX8_readsComparison_4 rfl rfl ?_
  refine ab_bipush C (v := (60 : Int32)) dX8_readsComparison_5 (by decide) ?_
  refine ab_callV C (k := 0) (n := 0) (rest := []) [.int (60 : Int32)] cl_X8_187 (mt_X8_isHere  hw_2 f) rfl (by decide) kd_105 (wf_lt hw_2 kd_105 rfl) ⟨rfl, rfl, Nat.le_trans (Nat.le_of_ble_eq_true rfl) (Nat.le_add_left 7 (d + 1)), Nat.le_trans (Nat.le_of_ble_eq_true rfl) (Nat.le_add_left 400 (64 * (d + 1))), Nat.zero_le _, Nat.zero_le _⟩ rfl rfl (Nat.le_of_ble_eq_true rfl) dX8_readsComparison_7 (ab_kp (k := 0) (n := 0) (fun v_3 f => ?_))
  refine ab_if_ne C (tgt := 31) dX8_readsComparison_10 (by decide) (fun c_4 => ?_) (fun c_4 => ?_)
  · have f := f.2 c_4
    exact bt_X8_readsComparison_b31 C ih0     h_1  hw_2 f
  · have f := f.1 c_4
    refine ab_aload_n C 0 dX8_readsComparison_13 rfl rfl ?_
    refine ab_bipush C (v := (61 : Int32)) dX8_readsComparison_14 (by decide) ?_
    refine ab_callV C (k := 0) (n := 0) (rest := []) [.int (61 : Int32)] cl_X8_187 (mt_X8_isHere  hw_2 f) rfl (by decide) kd_105 (wf_lt hw_2 kd_105 rfl) ⟨rfl, rfl, Nat.le_trans (Nat.le_of_ble_eq_true rfl) (Nat.le_add_left 7 (d + 1)), Nat.le_trans (Nat.le_of_ble_eq_true rfl) (Nat.le_add_left 400 (64 * (d + 1))), Nat.zero_le _, Nat.zero_le _⟩ rfl rfl (Nat.le_of_ble_eq_true rfl) dX8_readsComparison_16 (ab_kp (k := 0) (n := 0) (fun v_30 f => ?_))
    refine ab_if_ne C (tgt := 31) dX8_readsComparison_19 (by decide) (fun c_31 => ?_) (fun c_31 => ?_)
    · have f := f.2 c_31
      exact bt_X8_readsComparison_b31 C ih0     h_1  hw_2 f
    · have f := f.1 c_31
      refine ab_aload_n C 0 dX8_readsComparison_22 rfl rfl ?_
      refine ab_bipush C (v := (62 : Int32)) dX8_readsComparison_23 (by decide) ?_
      refine ab_callV C (k := 0) (n := 0) (rest := []) [.int (62 : Int32)] cl_X8_187 (mt_X8_isHere  hw_2 f) rfl (by decide) kd_105 (wf_lt hw_2 kd_105 rfl) ⟨rfl, rfl, Nat.le_trans (Nat.le_of_ble_eq_true rfl) (Nat.le_add_left 7 (d + 1)), Nat.le_trans (Nat.le_of_ble_eq_true rfl) (Nat.le_add_left 400 (64 * (d + 1))), Nat.zero_le _, Nat.zero_le _⟩ rfl rfl (Nat.le_of_ble_eq_true rfl) dX8_readsComparison_25 (ab_kp (k := 0) (n := 0) (fun v_32 f => ?_))
      refine ab_if_eq C (tgt := 81) dX8_readsComparison_28 (by decide) (fun c_33 => ?_) (fun c_33 => ?_)
      · have f := f.1 c_33
        exact ab_vret C dX8_readsComparison_81 ⟨hw_2, rfl, f⟩
      · have f := f.2 c_33
        exact bt_X8_readsComparison_b31 C ih0     h_1  hw_2 f
/-! X8_readsSum -/
def wp_X8_readsSum_L4 (rc : rt_X8) (Q : hp_T → Prop) : Nat → hp_T → Prop
  | 0 => fun _ => False
  | nn + 1 => fun h => wp_X8_isHere (43 : Int32) h (fun v_3 => ((v_3 = 0 → wp_X8_isHere (45 : Int32) h (fun v_21 => ((v_21 = 0 → (Q h)) ∧ (¬ (v_21 = 0) → wp_X8_isHere (43 : Int32) h (fun v_23 => ((v_23 = 0 → (∀ h_25, h_25 = hp_si h 105 6 ((hp_i h 105 6) + (1 : Int32)) → rc.2.2.2.2.1 h_25 (fun h_28 => wp_X8_writes (-17 : Int32) h_28 (fun h_30 => (wp_X8_readsSum_L4 rc Q nn) h_30)))) ∧ (¬ (v_23 = 0) → (∀ h_32, h_32 = hp_si h 105 6 ((hp_i h 105 6) + (1 : Int32)) → rc.2.2.2.2.1 h_32 (fun h_35 => wp_X8_writes (-16 : Int32) h_35 (fun h_37 => (wp_X8_readsSum_L4 rc Q nn) h_37)))))))))) ∧ (¬ (v_3 = 0) → wp_X8_isHere (43 : Int32) h (fun v_5 => ((v_5 = 0 → (∀ h_7, h_7 = hp_si h 105 6 ((hp_i h 105 6) + (1 : Int32)) → rc.2.2.2.2.1 h_7 (fun h_10 => wp_X8_writes (-17 : Int32) h_10 (fun h_12 => (wp_X8_readsSum_L4 rc Q nn) h_12)))) ∧ (¬ (v_5 = 0) → (∀ h_14, h_14 = hp_si h 105 6 ((hp_i h 105 6) + (1 : Int32)) → rc.2.2.2.2.1 h_14 (fun h_17 => wp_X8_writes (-16 : Int32) h_17 (fun h_19 => (wp_X8_readsSum_L4 rc Q nn) h_19)))))))))
set_option maxRecDepth 100000 in
set_option maxHeartbeats 4000000 in
theorem bt_X8_readsSum_L4 {l : Launch} {G : ab_G} {rc : rt_X8} {d : Nat} {F : ab_F}  {Q : hp_T → Prop}  (C : ab_C G F (rr_X8 (d + 1)) cX8_readsSum 2 RX8 none "readsSum") (ih0 : ih_X8 l G rc d)   : ∀ (nn : Nat) (h : hp_T), wf h → wp_X8_readsSum_L4 rc Q nn h → ab_W l G F 2 (ab_MQ G F (po_v Q) 0 0) 0 0 h [(0, .ref (G.1 + 105))] [] 4 := by
  intro nn
  induction nn with
  | zero =>
    intro h hw f
    exact absurd f id
  | succ nn ih =>
    intro h hw f
    unfold wp_X8_readsSum_L4 at f
    refine ab_aload_n C 0 dX8_readsSum_4 rfl rfl ?_
    refine ab_bipush C (v := (43 : Int32)) dX8_readsSum_5 (by decide) ?_
    refine ab_callV C (k := 0) (n := 0) (rest := []) [.int (43 : Int32)] cl_X8_187 (mt_X8_isHere  hw f) rfl (by decide) kd_105 (wf_lt hw kd_105 rfl) ⟨rfl, rfl, Nat.le_trans (Nat.le_of_ble_eq_true rfl) (Nat.le_add_left 7 (d + 1)), Nat.le_trans (Nat.le_of_ble_eq_true rfl) (Nat.le_add_left 400 (64 * (d + 1))), Nat.zero_le _, Nat.zero_le _⟩ rfl rfl (Nat.le_of_ble_eq_true rfl) dX8_readsSum_7 (ab_kp (k := 0) (n := 0) (fun v_3 f => ?_))
    refine ab_if_ne C (tgt := 22) dX8_readsSum_10 (by decide) (fun c_4 => ?_) (fun c_4 => ?_)
    · have f := f.2 c_4
      refine ab_aload_n C 0 dX8_readsSum_22 rfl rfl ?_
      refine ab_bipush C (v := (43 : Int32)) dX8_readsSum_23 (by decide) ?_
      refine ab_callV C (k := 0) (n := 0) (rest := []) [.int (43 : Int32)] cl_X8_187 (mt_X8_isHere  hw f) rfl (by decide) kd_105 (wf_lt hw kd_105 rfl) ⟨rfl, rfl, Nat.le_trans (Nat.le_of_ble_eq_true rfl) (Nat.le_add_left 7 (d + 1)), Nat.le_trans (Nat.le_of_ble_eq_true rfl) (Nat.le_add_left 400 (64 * (d + 1))), Nat.zero_le _, Nat.zero_le _⟩ rfl rfl (Nat.le_of_ble_eq_true rfl) dX8_readsSum_25 (ab_kp (k := 0) (n := 0) (fun v_5 f => ?_))
      refine ab_if_eq C (tgt := 36) dX8_readsSum_28 (by decide) (fun c_6 => ?_) (fun c_6 => ?_)
      · have f := f.1 c_6
        refine ab_bipush C (v := (-17 : Int32)) dX8_readsSum_36 (by decide) ?_
        refine ab_istore_n C (lv' := [(1, .int (-17 : Int32)), (0, .ref (G.1 + 105))]) dX8_readsSum_38 rfl (by decide) rfl ?_
        refine ab_aload_n C 1 dX8_readsSum_39 rfl rfl ?_
        refine ab_dup C dX8_readsSum_40 rfl ?_
        refine ab_getI C fl_X8_151 rfl kd_105 (wf_lt hw kd_105 rfl) dX8_readsSum_41 ?_
        refine ab_iconst C (v := (1 : Int32)) dX8_readsSum_44 (by decide) ?_
        refine ab_iadd C dX8_readsSum_45 ?_
        refine ab_putI C fl_X8_151 rfl kd_105 (wf_lt hw kd_105 rfl) rfl rfl dX8_readsSum_46 (fun h_7 e_8 => ?_)
        have f := f h_7 e_8
        have hw_9 := wf_si e_8 hw
        refine ab_aload_n C 1 dX8_readsSum_49 rfl rfl ?_
        refine ab_callV C (k := 0) (n := 0) (rest := []) [] cl_X8_199 (ih0.2.2.2.2.1  h_7 _ hw_9 f) rfl (by decide) kd_105 (wf_lt hw_9 kd_105 rfl) ⟨rfl, rfl, Nat.le_of_eq (Nat.add_right_comm d 7 1), (by show 8 + (2 + 11) + (64 * d + 400) ≤ 64 * (d + 1) + 400; omega), Nat.zero_le _, Nat.zero_le _⟩ rfl rfl (Nat.le_of_ble_eq_true rfl) dX8_readsSum_50 (ab_kv (k := 0) (n := 0) (fun h_10 hw_11 f => ?_))
        refine ab_aload_n C 1 dX8_readsSum_53 rfl rfl ?_
        refine ab_iload_n C 0 dX8_readsSum_54 rfl rfl ?_
        refine ab_callV C (k := 0) (n := 0) (rest := []) [.int (-17 : Int32)] cl_X8_177 (mt_X8_writes  hw_11 f) rfl (by decide) kd_105 (wf_lt hw_11 kd_105 rfl) ⟨rfl, rfl, Nat.le_trans (Nat.le_of_ble_eq_true rfl) (Nat.le_add_left 7 (d + 1)), Nat.le_trans (Nat.le_of_ble_eq_true rfl) (Nat.le_add_left 400 (64 * (d + 1))), Nat.zero_le _, Nat.zero_le _⟩ rfl rfl (Nat.le_of_ble_eq_true rfl) dX8_readsSum_55 (ab_kv (k := 0) (n := 0) (fun h_12 hw_13 f => ?_))
        refine ab_goto C (tgt := 4) dX8_readsSum_58 (by decide) ?_
        refine ab_sub (lv' := [(0, .ref (G.1 + 105))]) [1] rfl ?_
        exact ih h_12  hw_13 f
      · have f := f.2 c_6
        refine ab_bipush C (v := (-16 : Int32)) dX8_readsSum_31 (by decide) ?_
        refine ab_goto C (tgt := 38) dX8_readsSum_33 (by decide) ?_
        refine ab_istore_n C (lv' := [(1, .int (-16 : Int32)), (0, .ref (G.1 + 105))]) dX8_readsSum_38 rfl (by decide) rfl ?_
        refine ab_aload_n C 1 dX8_readsSum_39 rfl rfl ?_
        refine ab_dup C dX8_readsSum_40 rfl ?_
        refine ab_getI C fl_X8_151 rfl kd_105 (wf_lt hw kd_105 rfl) dX8_readsSum_41 ?_
        refine ab_iconst C (v := (1 : Int32)) dX8_readsSum_44 (by decide) ?_
        refine ab_iadd C dX8_readsSum_45 ?_
        refine ab_putI C fl_X8_151 rfl kd_105 (wf_lt hw kd_105 rfl) rfl rfl dX8_readsSum_46 (fun h_14 e_15 => ?_)
        have f := f h_14 e_15
        have hw_16 := wf_si e_15 hw
        refine ab_aload_n C 1 dX8_readsSum_49 rfl rfl ?_
        refine ab_callV C (k := 0) (n := 0) (rest := []) [] cl_X8_199 (ih0.2.2.2.2.1  h_14 _ hw_16 f) rfl (by decide) kd_105 (wf_lt hw_16 kd_105 rfl) ⟨rfl, rfl, Nat.le_of_eq (Nat.add_right_comm d 7 1), (by show 8 + (2 + 11) + (64 * d + 400) ≤ 64 * (d + 1) + 400; omega), Nat.zero_le _, Nat.zero_le _⟩ rfl rfl (Nat.le_of_ble_eq_true rfl) dX8_readsSum_50 (ab_kv (k := 0) (n := 0) (fun h_17 hw_18 f => ?_))
        refine ab_aload_n C 1 dX8_readsSum_53 rfl rfl ?_
        refine ab_iload_n C 0 dX8_readsSum_54 rfl rfl ?_
        refine ab_callV C (k := 0) (n := 0) (rest := []) [.int (-16 : Int32)] cl_X8_177 (mt_X8_writes  hw_18 f) rfl (by decide) kd_105 (wf_lt hw_18 kd_105 rfl) ⟨rfl, rfl, Nat.le_trans (Nat.le_of_ble_eq_true rfl) (Nat.le_add_left 7 (d + 1)), Nat.le_trans (Nat.le_of_ble_eq_true rfl) (Nat.le_add_left 400 (64 * (d + 1))), Nat.zero_le _, Nat.zero_le _⟩ rfl rfl (Nat.le_of_ble_eq_true rfl) dX8_readsSum_55 (ab_kv (k := 0) (n := 0) (fun h_19 hw_20 f => ?_))
        refine ab_goto C (tgt := 4) dX8_readsSum_58 (by decide) ?_
        refine ab_sub (lv' := [(0, .ref (G.1 + 105))]) [1] rfl ?_
        exact ih h_19  hw_20 f
    · have f := f.1 c_4
      refine ab_aload_n C 0 dX8_readsSum_13 rfl rfl ?_
      refine ab_bipush C (v := (45 : Int32)) dX8_readsSum_14 (by decide) ?_
      refine ab_callV C (k := 0) (n := 0) (rest := []) [.int (45 : Int32)] cl_X8_187 (mt_X8_isHere  hw f) rfl (by decide) kd_105 (wf_lt hw kd_105 rfl) ⟨rfl, rfl, Nat.le_trans (Nat.le_of_ble_eq_true rfl) (Nat.le_add_left 7 (d + 1)), Nat.le_trans (Nat.le_of_ble_eq_true rfl) (Nat.le_add_left 400 (64 * (d + 1))), Nat.zero_le _, Nat.zero_le _⟩ rfl rfl (Nat.le_of_ble_eq_true rfl) dX8_readsSum_16 (ab_kp (k := 0) (n := 0) (fun v_21 f => ?_))
      refine ab_if_eq C (tgt := 61) dX8_readsSum_19 (by decide) (fun c_22 => ?_) (fun c_22 => ?_)
      · have f := f.1 c_22
        exact ab_vret C dX8_readsSum_61 ⟨hw, rfl, f⟩
      · have f := f.2 c_22
        refine ab_aload_n C 0 dX8_readsSum_22 rfl rfl ?_
        refine ab_bipush C (v := (43 : Int32)) dX8_readsSum_23 (by decide) ?_
        refine ab_callV C (k := 0) (n := 0) (rest := []) [.int (43 : Int32)] cl_X8_187 (mt_X8_isHere  hw f) rfl (by decide) kd_105 (wf_lt hw kd_105 rfl) ⟨rfl, rfl, Nat.le_trans (Nat.le_of_ble_eq_true rfl) (Nat.le_add_left 7 (d + 1)), Nat.le_trans (Nat.le_of_ble_eq_true rfl) (Nat.le_add_left 400 (64 * (d + 1))), Nat.zero_le _, Nat.zero_le _⟩ rfl rfl (Nat.le_of_ble_eq_true rfl) dX8_readsSum_25 (ab_kp (k := 0) (n := 0) (fun v_23 f => ?_))
        refine ab_if_eq C (tgt := 36) dX8_readsSum_28 (by decide) (fun c_24 => ?_) (fun c_24 => ?_)
        · have f := f.1 c_24
          refine ab_bipush C (v := (-17 : Int32)) dX8_readsSum_36 (by decide) ?_
          refine ab_istore_n C (lv' := [(1, .int (-17 : Int32)), (0, .ref (G.1 + 105))]) dX8_readsSum_38 rfl (by decide) rfl ?_
          refine ab_aload_n C 1 dX8_readsSum_39 rfl rfl ?_
          refine ab_dup C dX8_readsSum_40 rfl ?_
          refine ab_getI C fl_X8_151 rfl kd_105 (wf_lt hw kd_105 rfl) dX8_readsSum_41 ?_
          refine ab_iconst C (v := (1 : Int32)) dX8_readsSum_44 (by decide) ?_
          refine ab_iadd C dX8_readsSum_45 ?_
          refine ab_putI C fl_X8_151 rfl kd_105 (wf_lt hw kd_105 rfl) rfl rfl dX8_readsSum_46 (fun h_25 e_26 => ?_)
          have f := f h_25 e_26
          have hw_27 := wf_si e_26 hw
          refine ab_aload_n C 1 dX8_readsSum_49 rfl rfl ?_
          refine ab_callV C (k := 0) (n := 0) (rest := []) [] cl_X8_199 (ih0.2.2.2.2.1  h_25 _ hw_27 f) rfl (by decide) kd_105 (wf_lt hw_27 kd_105 rfl) ⟨rfl, rfl, Nat.le_of_eq (Nat.add_right_comm d 7 1), (by show 8 + (2 + 11) + (64 * d + 400) ≤ 64 * (d + 1) + 400; omega), Nat.zero_le _, Nat.zero_le _⟩ rfl rfl (Nat.le_of_ble_eq_true rfl) dX8_readsSum_50 (ab_kv (k := 0) (n := 0) (fun h_28 hw_29 f => ?_))
          refine ab_aload_n C 1 dX8_readsSum_53 rfl rfl ?_
          refine ab_iload_n C 0 dX8_readsSum_54 rfl rfl ?_
          refine ab_callV C (k := 0) (n := 0) (rest := []) [.int (-17 : Int32)] cl_X8_177 (mt_X8_writes  hw_29 f) rfl (by decide) kd_105 (wf_lt hw_29 kd_105 rfl) ⟨rfl, rfl, Nat.le_trans (Nat.le_of_ble_eq_true rfl) (Nat.le_add_left 7 (d + 1)), Nat.le_trans (Nat.le_of_ble_eq_true rfl) (Nat.le_add_left 400 (64 * (d + 1))), Nat.zero_le _, Nat.zero_le _⟩ rfl rfl (Nat.le_of_ble_eq_true rfl) dX8_readsSum_55 (ab_kv (k := 0) (n := 0) (fun h_30 hw_31 f => ?_))
          refine ab_goto C (tgt := 4) dX8_readsSum_58 (by decide) ?_
          refine ab_sub (lv' := [(0, .ref (G.1 + 105))]) [1] rfl ?_
          exact ih h_30  hw_31 f
        · have f := f.2 c_24
          refine ab_bipush C (v := (-16 : Int32)) dX8_readsSum_31 (by decide) ?_
          refine ab_goto C (tgt := 38) dX8_readsSum_33 (by decide) ?_
          refine ab_istore_n C (lv' := [(1, .int (-16 : Int32)), (0, .ref (G.1 + 105))]) dX8_readsSum_38 rfl (by decide) rfl ?_
          refine ab_aload_n C 1 dX8_readsSum_39 rfl rfl ?_
          refine ab_dup C dX8_readsSum_40 rfl ?_
          refine ab_getI C fl_X8_151 rfl kd_105 (wf_lt hw kd_105 rfl) dX8_readsSum_41 ?_
          refine ab_iconst C (v := (1 : Int32)) dX8_readsSum_44 (by decide) ?_
          refine ab_iadd C dX8_readsSum_45 ?_
          refine ab_putI C fl_X8_151 rfl kd_105 (wf_lt hw kd_105 rfl) rfl rfl dX8_readsSum_46 (fun h_32 e_33 => ?_)
          have f := f h_32 e_33
          have hw_34 := wf_si e_33 hw
          refine ab_aload_n C 1 dX8_readsSum_49 rfl rfl ?_
          refine ab_callV C (k := 0) (n := 0) (rest := []) [] cl_X8_199 (ih0.2.2.2.2.1  h_32 _ hw_34 f) rfl (by decide) kd_105 (wf_lt hw_34 kd_105 rfl) ⟨rfl, rfl, Nat.le_of_eq (Nat.add_right_comm d 7 1), (by show 8 + (2 + 11) + (64 * d + 400) ≤ 64 * (d + 1) + 400; omega), Nat.zero_le _, Nat.zero_le _⟩ rfl rfl (Nat.le_of_ble_eq_true rfl) dX8_readsSum_50 (ab_kv (k := 0) (n := 0) (fun h_35 hw_36 f => ?_))
          refine ab_aload_n C 1 dX8_readsSum_53 rfl rfl ?_
          refine ab_iload_n C 0 dX8_readsSum_54 rfl rfl ?_
          refine ab_callV C (k := 0) (n := 0) (rest := []) [.int (-16 : Int32)] cl_X8_177 (mt_X8_writes  hw_36 f) rfl (by decide) kd_105 (wf_lt hw_36 kd_105 rfl) ⟨rfl, rfl, Nat.le_trans (Nat.le_of_ble_eq_true rfl) (Nat.le_add_left 7 (d + 1)), Nat.le_trans (Nat.le_of_ble_eq_true rfl) (Nat.le_add_left 400 (64 * (d + 1))), Nat.zero_le _, Nat.zero_le _⟩ rfl rfl (Nat.le_of_ble_eq_true rfl) dX8_readsSum_55 (ab_kv (k := 0) (n := 0) (fun h_37 hw_38 f => ?_))
          refine ab_goto C (tgt := 4) dX8_readsSum_58 (by decide) ?_
          refine ab_sub (lv' := [(0, .ref (G.1 + 105))]) [1] rfl ?_
          exact ih h_37  hw_38 f
def wp_X8_readsSum (rc : rt_X8) (h : hp_T) (Q : hp_T → Prop) : Prop :=
  rc.2.2.2.2.1 h (fun h_1 => (∃ n0, wp_X8_readsSum_L4 rc Q  n0 h_1))
set_option maxRecDepth 100000 in
set_option maxHeartbeats 4000000 in
theorem mt_X8_readsSum {l : Launch} {G : ab_G} {rc : rt_X8} {d : Nat}  {h : hp_T} {Q : hp_T → Prop} (ih0 : ih_X8 l G rc d) (hw : wf h) (f : wp_X8_readsSum rc h Q) : ab_M l G yX8_readsSum cX8_readsSum 2 none (rr_X8 (d + 1)) 0 0 [.ref (G.1 + 105)] h (po_v Q) := by
  refine ab_intro (own := RX8) (nm := "readsSum") rfl rfl rfl (Nat.le_of_ble_eq_true rfl) (fun F C => ?_)
  show ab_W l G F 2 (ab_MQ G F (po_v Q) 0 0) 0 0 h [(0, .ref (G.1 + 105))] [] 0
  unfold wp_X8_readsSum at f
  refine ab_aload_n C 0 dX8_readsSum_0 rfl rfl ?_
  refine ab_callV C (k := 0) (n := 0) (rest := []) [] cl_X8_199 (ih0.2.2.2.2.1  h _ hw f) rfl (by decide) kd_105 (wf_lt hw kd_105 rfl) ⟨rfl, rfl, Nat.le_of_eq (Nat.add_right_comm d 7 1), (by show 8 + (2 + 11) + (64 * d + 400) ≤ 64 * (d + 1) + 400; omega), Nat.zero_le _, Nat.zero_le _⟩ rfl rfl (Nat.le_of_ble_eq_true rfl) dX8_readsSum_1 (ab_kv (k := 0) (n := 0) (fun h_1 hw_2 f => ?_))
  obtain ⟨n0, f⟩ := f
  exact bt_X8_readsSum_L4 C ih0    n0 h_1  hw_2 f
/-! X8_readsProduct -/
def wp_X8_readsProduct_b31 (rc : rt_X8) (Q : hp_T → Prop) (lp_4 : hp_T → Prop) (h : hp_T) : Prop :=
  wp_X8_isHere (42 : Int32) h (fun v_5 => ((v_5 = 0 → wp_X8_isHere (47 : Int32) h (fun v_7 => ((v_7 = 0 → (∀ h_9, h_9 = hp_si h 105 6 ((hp_i h 105 6) + (1 : Int32)) → rc.2.2.2.2.2 h_9 (fun h_12 => wp_X8_writes (-20 : Int32) h_12 (fun h_14 => lp_4 h_14)))) ∧ (¬ (v_7 = 0) → (∀ h_16, h_16 = hp_si h 105 6 ((hp_i h 105 6) + (1 : Int32)) → rc.2.2.2.2.2 h_16 (fun h_19 => wp_X8_writes (-19 : Int32) h_19 (fun h_21 => lp_4 h_21))))))) ∧ (¬ (v_5 = 0) → (∀ h_23, h_23 = hp_si h 105 6 ((hp_i h 105 6) + (1 : Int32)) → rc.2.2.2.2.2 h_23 (fun h_26 => wp_X8_writes (-18 : Int32) h_26 (fun h_28 => lp_4 h_28))))))
set_option maxRecDepth 100000 in
set_option maxHeartbeats 4000000 in
theorem bt_X8_readsProduct_b31 {l : Launch} {G : ab_G} {rc : rt_X8} {d : Nat} {F : ab_F}  {Q : hp_T → Prop} {lp_4 : hp_T → Prop} (C : ab_C G F (rr_X8 (d + 1)) cX8_readsProduct 2 RX8 none "readsProduct") (ih0 : ih_X8 l G rc d)  (il_4 : ∀ (h : hp_T), wf h → lp_4 h → ab_W l G F 2 (ab_MQ G F (po_v Q) 0 0) 0 0 h [(0, .ref (G.1 + 105))] [] 4) : ∀ (h : hp_T), wf h → wp_X8_readsProduct_b31 rc Q lp_4 h → ab_W l G F 2 (ab_MQ G F (po_v Q) 0 0) 0 0 h [(0, .ref (G.1 + 105))] [] 31 := by
  intro h hw f
  unfold wp_X8_readsProduct_b31 at f
  refine ab_aload_n C 0 dX8_readsProduct_31 rfl rfl ?_
  refine ab_bipush C (v := (42 : Int32)) dX8_readsProduct_32 (by decide) ?_
  refine ab_callV C (k := 0) (n := 0) (rest := []) [.int (42 : Int32)] cl_X8_187 (mt_X8_isHere  hw f) rfl (by decide) kd_105 (wf_lt hw kd_105 rfl) ⟨rfl, rfl, Nat.le_trans (Nat.le_of_ble_eq_true rfl) (Nat.le_add_left 7 (d + 1)), Nat.le_trans (Nat.le_of_ble_eq_true rfl) (Nat.le_add_left 400 (64 * (d + 1))), Nat.zero_le _, Nat.zero_le _⟩ rfl rfl (Nat.le_of_ble_eq_true rfl) dX8_readsProduct_34 (ab_kp (k := 0) (n := 0) (fun v_5 f => ?_))
  refine ab_if_eq C (tgt := 45) dX8_readsProduct_37 (by decide) (fun c_6 => ?_) (fun c_6 => ?_)
  · have f := f.1 c_6
    refine ab_aload_n C 0 dX8_readsProduct_45 rfl rfl ?_
    refine ab_bipush C (v := (47 : Int32)) dX8_readsProduct_46 (by decide) ?_
    refine ab_callV C (k := 0) (n := 0) (rest := []) [.int (47 : Int32)] cl_X8_187 (mt_X8_isHere  hw f) rfl (by decide) kd_105 (wf_lt hw kd_105 rfl) ⟨rfl, rfl, Nat.le_trans (Nat.le_of_ble_eq_true rfl) (Nat.le_add_left 7 (d + 1)), Nat.le_trans (Nat.le_of_ble_eq_true rfl) (Nat.le_add_left 400 (64 * (d + 1))), Nat.zero_le _, Nat.zero_le _⟩ rfl rfl (Nat.le_of_ble_eq_true rfl) dX8_readsProduct_48 (ab_kp (k := 0) (n := 0) (fun v_7 f => ?_))
    refine ab_if_eq C (tgt := 59) dX8_readsProduct_51 (by decide) (fun c_8 => ?_) (fun c_8 => ?_)
    · have f := f.1 c_8
      refine ab_bipush C (v := (-20 : Int32)) dX8_readsProduct_59 (by decide) ?_
      refine ab_istore_n C (lv' := [(1, .int (-20 : Int32)), (0, .ref (G.1 + 105))]) dX8_readsProduct_61 rfl (by decide) rfl ?_
      refine ab_aload_n C 1 dX8_readsProduct_62 rfl rfl ?_
      refine ab_dup C dX8_readsProduct_63 rfl ?_
      refine ab_getI C fl_X8_151 rfl kd_105 (wf_lt hw kd_105 rfl) dX8_readsProduct_64 ?_
      refine ab_iconst C (v := (1 : Int32)) dX8_readsProduct_67 (by decide) ?_
      refine ab_iadd C dX8_readsProduct_68 ?_
      refine ab_putI C fl_X8_151 rfl kd_105 (wf_lt hw kd_105 rfl) rfl rfl dX8_readsProduct_69 (fun h_9 e_10 => ?_)
      have f := f h_9 e_10
      have hw_11 := wf_si e_10 hw
      refine ab_aload_n C 1 dX8_readsProduct_72 rfl rfl ?_
      refine ab_callV C (k := 0) (n := 0) (rest := []) [] cl_X8_193 (ih0.2.2.2.2.2  h_9 _ hw_11 f) rfl (by decide) kd_105 (wf_lt hw_11 kd_105 rfl) ⟨rfl, rfl, Nat.le_of_eq (Nat.add_right_comm d 7 1), (by show 8 + (3 + 11) + (64 * d + 400) ≤ 64 * (d + 1) + 400; omega), Nat.zero_le _, Nat.zero_le _⟩ rfl rfl (Nat.le_of_ble_eq_true rfl) dX8_readsProduct_73 (ab_kv (k := 0) (n := 0) (fun h_12 hw_13 f => ?_))
      refine ab_aload_n C 1 dX8_readsProduct_76 rfl rfl ?_
      refine ab_iload_n C 0 dX8_readsProduct_77 rfl rfl ?_
      refine ab_callV C (k := 0) (n := 0) (rest := []) [.int (-20 : Int32)] cl_X8_177 (mt_X8_writes  hw_13 f) rfl (by decide) kd_105 (wf_lt hw_13 kd_105 rfl) ⟨rfl, rfl, Nat.le_trans (Nat.le_of_ble_eq_true rfl) (Nat.le_add_left 7 (d + 1)), Nat.le_trans (Nat.le_of_ble_eq_true rfl) (Nat.le_add_left 400 (64 * (d + 1))), Nat.zero_le _, Nat.zero_le _⟩ rfl rfl (Nat.le_of_ble_eq_true rfl) dX8_readsProduct_78 (ab_kv (k := 0) (n := 0) (fun h_14 hw_15 f => ?_))
      refine ab_goto C (tgt := 4) dX8_readsProduct_81 (by decide) ?_
      refine ab_sub (lv' := [(0, .ref (G.1 + 105))]) [1] rfl ?_
      exact il_4 h_14  hw_15 f
    · have f := f.2 c_8
      refine ab_bipush C (v := (-19 : Int32)) dX8_readsProduct_54 (by decide) ?_
      refine ab_goto C (tgt := 61) dX8_readsProduct_56 (by decide) ?_
      refine ab_istore_n C (lv' := [(1, .int (-19 : Int32)), (0, .ref (G.1 + 105))]) dX8_readsProduct_61 rfl (by decide) rfl ?_
      refine ab_aload_n C 1 dX8_readsProduct_62 rfl rfl ?_
      refine ab_dup C dX8_readsProduct_63 rfl ?_
      refine ab_getI C fl_X8_151 rfl kd_105 (wf_lt hw kd_105 rfl) dX8_readsProduct_64 ?_
      refine ab_iconst C (v := (1 : Int32)) dX8_readsProduct_67 (by decide) ?_
      refine ab_iadd C dX8_readsProduct_68 ?_
      refine ab_putI C fl_X8_151 rfl kd_105 (wf_lt hw kd_105 rfl) rfl rfl dX8_readsProduct_69 (fun h_16 e_17 => ?_)
      have f := f h_16 e_17
      have hw_18 := wf_si e_17 hw
      refine ab_aload_n C 1 dX8_readsProduct_72 rfl rfl ?_
      refine ab_callV C (k := 0) (n := 0) (rest := []) [] cl_X8_193 (ih0.2.2.2.2.2  h_16 _ hw_18 f) rfl (by decide) kd_105 (wf_lt hw_18 kd_105 rfl) ⟨rfl, rfl, Nat.le_of_eq (Nat.add_right_comm d 7 1), (by show 8 + (3 + 11) + (64 * d + 400) ≤ 64 * (d + 1) + 400; omega), Nat.zero_le _, Nat.zero_le _⟩ rfl rfl (Nat.le_of_ble_eq_true rfl) dX8_readsProduct_73 (ab_kv (k := 0) (n := 0) (fun h_19 hw_20 f => ?_))
      refine ab_aload_n C 1 dX8_readsProduct_76 rfl rfl ?_
      refine ab_iload_n C 0 dX8_readsProduct_77 rfl rfl ?_
      refine ab_callV C (k := 0) (n := 0) (rest := []) [.int (-19 : Int32)] cl_X8_177 (mt_X8_writes  hw_20 f) rfl (by decide) kd_105 (wf_lt hw_20 kd_105 rfl) ⟨rfl, rfl, Nat.le_trans (Nat.le_of_ble_eq_true rfl) (Nat.le_add_left 7 (d + 1)), Nat.le_trans (Nat.le_of_ble_eq_true rfl) (Nat.le_add_left 400 (64 * (d + 1))), Nat.zero_le _, Nat.zero_le _⟩ rfl rfl (Nat.le_of_ble_eq_true rfl) dX8_readsProduct_78 (ab_kv (k := 0) (n := 0) (fun h_21 hw_22 f => ?_))
      refine ab_goto C (tgt := 4) dX8_readsProduct_81 (by decide) ?_
      refine ab_sub (lv' := [(0, .ref (G.1 + 105))]) [1] rfl ?_
      exact il_4 h_21  hw_22 f
  · have f := f.2 c_6
    refine ab_bipush C (v := (-18 : Int32)) dX8_readsProduct_40 (by decide) ?_
    refine ab_goto C (tgt := 61) dX8_readsProduct_42 (by decide) ?_
    refine ab_istore_n C (lv' := [(1, .int (-18 : Int32)), (0, .ref (G.1 + 105))]) dX8_readsProduct_61 rfl (by decide) rfl ?_
    refine ab_aload_n C 1 dX8_readsProduct_62 rfl rfl ?_
    refine ab_dup C dX8_readsProduct_63 rfl ?_
    refine ab_getI C fl_X8_151 rfl kd_105 (wf_lt hw kd_105 rfl) dX8_readsProduct_64 ?_
    refine ab_iconst C (v := (1 : Int32)) dX8_readsProduct_67 (by decide) ?_
    refine ab_iadd C dX8_readsProduct_68 ?_
    refine ab_putI C fl_X8_151 rfl kd_105 (wf_lt hw kd_105 rfl) rfl rfl dX8_readsProduct_69 (fun h_23 e_24 => ?_)
    have f := f h_23 e_24
    have hw_25 := wf_si e_24 hw
    refine ab_aload_n C 1 dX8_readsProduct_72 rfl rfl ?_
    refine ab_callV C (k := 0) (n := 0) (rest := []) [] cl_X8_193 (ih0.2.2.2.2.2  h_23 _ hw_25 f) rfl (by decide) kd_105 (wf_lt hw_25 kd_105 rfl) ⟨rfl, rfl, Nat.le_of_eq (Nat.add_right_comm d 7 1), (by show 8 + (3 + 11) + (64 * d + 400) ≤ 64 * (d + 1) + 400; omega), Nat.zero_le _, Nat.zero_le _⟩ rfl rfl (Nat.le_of_ble_eq_true rfl) dX8_readsProduct_73 (ab_kv (k := 0) (n := 0) (fun h_26 hw_27 f => ?_))
    refine ab_aload_n C 1 dX8_readsProduct_76 rfl rfl ?_
    refine ab_iload_n C 0 dX8_readsProduct_77 rfl rfl ?_
    refine ab_callV C (k := 0) (n := 0) (rest := []) [.int (-18 : Int32)] cl_X8_177 (mt_X8_writes  hw_27 f) rfl (by decide) kd_105 (wf_lt hw_27 kd_105 rfl) ⟨rfl, rfl, Nat.le_trans (Nat.le_of_ble_eq_true rfl) (Nat.le_add_left 7 (d + 1)), Nat.le_trans (Nat.le_of_ble_eq_true rfl) (Nat.le_add_left 400 (64 * (d + 1))), Nat.zero_le _, Nat.zero_le _⟩ rfl rfl (Nat.le_of_ble_eq_true rfl) dX8_readsProduct_78 (ab_kv (k := 0) (n := 0) (fun h_28 hw_29 f => ?_))
    refine ab_goto C (tgt := 4) dX8_readsProduct_81 (by decide) ?_
    refine ab_sub (lv' := [(0, .ref (G.1 + 105))]) [1] rfl ?_
    exact il_4 h_28  hw_29 f
def wp_X8_readsProduct_L4 (rc : rt_X8) (Q : hp_T → Prop) : Nat → hp_T → Prop
  | 0 => fun _ => False
  | nn + 1 => fun h => wp_X8_isHere (42 : Int32) h (fun v_3 => ((v_3 = 0 → wp_X8_isHere (47 : Int32) h (fun v_30 => ((v_30 = 0 → wp_X8_isHere (37 : Int32) h (fun v_32 => ((v_32 = 0 → (Q h)) ∧ (¬ (v_32 = 0) → (wp_X8_readsProduct_b31 rc Q (wp_X8_readsProduct_L4 rc Q nn) h))))) ∧ (¬ (v_30 = 0) → (wp_X8_readsProduct_b31 rc Q (wp_X8_readsProduct_L4 rc Q nn) h))))) ∧ (¬ (v_3 = 0) → (wp_X8_readsProduct_b31 rc Q (wp_X8_readsProduct_L4 rc Q nn) h))))
set_option maxRecDepth 100000 in
set_option maxHeartbeats 4000000 in
theorem bt_X8_readsProduct_L4 {l : Launch} {G : ab_G} {rc : rt_X8} {d : Nat} {F : ab_F}  {Q : hp_T → Prop}  (C : ab_C G F (rr_X8 (d + 1)) cX8_readsProduct 2 RX8 none "readsProduct") (ih0 : ih_X8 l G rc d)   : ∀ (nn : Nat) (h : hp_T), wf h → wp_X8_readsProduct_L4 rc Q nn h → ab_W l G F 2 (ab_MQ G F (po_v Q) 0 0) 0 0 h [(0, .ref (G.1 + 105))] [] 4 := by
  intro nn
  induction nn with
  | zero =>
    intro h hw f
    exact absurd f id
  | succ nn ih =>
    intro h hw f
    unfold wp_X8_readsProduct_L4 at f
    refine ab_aload_n C 0 dX8_readsProduct_4 rfl rfl ?_
    refine ab_bipush C (v := (42 : Int32)) dX8_readsProduct_5 (by decide) ?_
    refine ab_callV C (k := 0) (n := 0) (rest := []) [.int (42 : Int32)] cl_X8_187 (mt_X8_isHere  hw f) rfl (by decide) kd_105 (wf_lt hw kd_105 rfl) ⟨rfl, rfl, Nat.le_trans (Nat.le_of_ble_eq_true rfl) (Nat.le_add_left 7 (d + 1)), Nat.le_trans (Nat.le_of_ble_eq_true rfl) (Nat.le_add_left 400 (64 * (d + 1))), Nat.zero_le _, Nat.zero_le _⟩ rfl rfl (Nat.le_of_ble_eq_true rfl) dX8_readsProduct_7 (ab_kp (k := 0) (n := 0) (fun v_3 f => ?_))
    refine ab_if_ne C (tgt := 31) dX8_readsProduct_10 (by decide) (fun c_4 => ?_) (fun c_4 => ?_)
    · have f := f.2 c_4
      exact bt_X8_readsProduct_b31 C ih0   ih  h  hw f
    · have f := f.1 c_4
      refine ab_aload_n C 0 dX8_readsProduct_13 rfl rfl ?_
      refine ab_bipush C (v := (47 : Int32)) dX8_readsProduct_14 (by decide) ?_
      refine ab_callV C (k := 0) (n := 0) (rest := []) [.int (47 : Int32)] cl_X8_187 (mt_X8_isHere  hw f) rfl (by decide) kd_105 (wf_lt hw kd_105 rfl) ⟨rfl, rfl, Nat.le_trans (Nat.le_of_ble_eq_true rfl) (Nat.le_add_left 7 (d + 1)), Nat.le_trans (Nat.le_of_ble_eq_true rfl) (Nat.le_add_left 400 (64 * (d + 1))), Nat.zero_le _, Nat.zero_le _⟩ rfl rfl (Nat.le_of_ble_eq_true rfl) dX8_readsProduct_16 (ab_kp (k := 0) (n := 0) (fun v_30 f => ?_))
      refine ab_if_ne C (tgt := 31) dX8_readsProduct_19 (by decide) (fun c_31 => ?_) (fun c_31 => ?_)
      · have f := f.2 c_31
        exact bt_X8_readsProduct_b31 C ih0   ih  h  hw f
      · have f := f.1 c_31
        refine ab_aload_n C 0 dX8_readsProduct_22 rfl rfl ?_
        refine ab_bipush C (v := (37 : Int32)) dX8_readsProduct_23 (by decide) ?_
        refine ab_callV C (k := 0) (n := 0) (rest := []) [.int (37 : Int32)] cl_X8_187 (mt_X8_isHere  hw f) rfl (by decide) kd_105 (wf_lt hw kd_105 rfl) ⟨rfl, rfl, Nat.le_trans (Nat.le_of_ble_eq_true rfl) (Nat.le_add_left 7 (d + 1)), Nat.le_trans (Nat.le_of_ble_eq_true rfl) (Nat.le_add_left 400 (64 * (d + 1))), Nat.zero_le _, Nat.zero_le _⟩ rfl rfl (Nat.le_of_ble_eq_true rfl) dX8_readsProduct_25 (ab_kp (k := 0) (n := 0) (fun v_32 f => ?_))
        refine ab_if_eq C (tgt := 84) dX8_readsProduct_28 (by decide) (fun c_33 => ?_) (fun c_33 => ?_)
        · have f := f.1 c_33
          exact ab_vret C dX8_readsProduct_84 ⟨hw, rfl, f⟩
        · have f := f.2 c_33
          exact bt_X8_readsProduct_b31 C ih0   ih  h  hw f
def wp_X8_readsProduct (rc : rt_X8) (h : hp_T) (Q : hp_T → Prop) : Prop :=
  rc.2.2.2.2.2 h (fun h_1 => (∃ n0, wp_X8_readsProduct_L4 rc Q  n0 h_1))
set_option maxRecDepth 100000 in
set_option maxHeartbeats 4000000 in
theorem mt_X8_readsProduct {l : Launch} {G : ab_G} {rc : rt_X8} {d : Nat}  {h : hp_T} {Q : hp_T → Prop} (ih0 : ih_X8 l G rc d) (hw : wf h) (f : wp_X8_readsProduct rc h Q) : ab_M l G yX8_readsProduct cX8_readsProduct 2 none (rr_X8 (d + 1)) 0 0 [.ref (G.1 + 105)] h (po_v Q) := by
  refine ab_intro (own := RX8) (nm := "readsProduct") rfl rfl rfl (Nat.le_of_ble_eq_true rfl) (fun F C => ?_)
  show ab_W l G F 2 (ab_MQ G F (po_v Q) 0 0) 0 0 h [(0, .ref (G.1 + 105))] [] 0
  unfold wp_X8_readsProduct at f
  refine ab_aload_n C 0 dX8_readsProduct_0 rfl rfl ?_
  refine ab_callV C (k := 0) (n := 0) (rest := []) [] cl_X8_193 (ih0.2.2.2.2.2  h _ hw f) rfl (by decide) kd_105 (wf_lt hw kd_105 rfl) ⟨rfl, rfl, Nat.le_of_eq (Nat.add_right_comm d 7 1), (by show 8 + (3 + 11) + (64 * d + 400) ≤ 64 * (d + 1) + 400; omega), Nat.zero_le _, Nat.zero_le _⟩ rfl rfl (Nat.le_of_ble_eq_true rfl) dX8_readsProduct_1 (ab_kv (k := 0) (n := 0) (fun h_1 hw_2 f => ?_))
  obtain ⟨n0, f⟩ := f
  exact bt_X8_readsProduct_L4 C ih0    n0 h_1  hw_2 f
/-! X8_readsOne -/
def wp_X8_readsOne_b70 (rc : rt_X8) (Q : hp_T → Prop) (h : hp_T) : Prop :=
  (((5 : Int32) ≤ (hp_i h 105 7) → (∀ h_9, h_9 = hp_si h 105 10 (1 : Int32) → (Q h_9))) ∧ (¬ ((5 : Int32) ≤ (hp_i h 105 7)) → wp_X8_isHere (33 : Int32) h (fun v_12 => (∀ h_13, h_13 = hp_si h 105 6 ((hp_i h 105 6) + (1 : Int32)) → (∀ h_16, h_16 = hp_si h_13 105 7 ((hp_i h_13 105 7) + (1 : Int32)) → ((v_12 = 0 → rc.1 h_16 (fun h_20 => (((hp_i h_20 105 10) = 0 → wp_X8_isHere (41 : Int32) h_20 (fun v_39 => ((v_39 = 0 → (∀ h_57, h_57 = hp_si h_20 105 10 (1 : Int32) → (((hp_i h_57 105 10) = 0 → (∀ h_61, h_61 = hp_si h_57 105 6 ((hp_i h_57 105 6) + (1 : Int32)) → (∀ h_64, h_64 = hp_si h_61 105 7 ((hp_i h_61 105 7) - (1 : Int32)) → (Q h_64)))) ∧ (¬ ((hp_i h_57 105 10) = 0) → (∀ h_67, h_67 = hp_si h_57 105 6 ((hp_i h_57 105 6) + (0 : Int32)) → (∀ h_70, h_70 = hp_si h_67 105 7 ((hp_i h_67 105 7) - (1 : Int32)) → (Q h_70))))))) ∧ (¬ (v_39 = 0) → (∀ h_41, h_41 = hp_si h_20 105 10 (0 : Int32) → (((hp_i h_41 105 10) = 0 → (∀ h_45, h_45 = hp_si h_41 105 6 ((hp_i h_41 105 6) + (1 : Int32)) → (∀ h_48, h_48 = hp_si h_45 105 7 ((hp_i h_45 105 7) - (1 : Int32)) → (Q h_48)))) ∧ (¬ ((hp_i h_41 105 10) = 0) → (∀ h_51, h_51 = hp_si h_41 105 6 ((hp_i h_41 105 6) + (0 : Int32)) → (∀ h_54, h_54 = hp_si h_51 105 7 ((hp_i h_51 105 7) - (1 : Int32)) → (Q h_54)))))))))) ∧ (¬ ((hp_i h_20 105 10) = 0) → (∀ h_23, h_23 = hp_si h_20 105 10 (1 : Int32) → (((hp_i h_23 105 10) = 0 → (∀ h_27, h_27 = hp_si h_23 105 6 ((hp_i h_23 105 6) + (1 : Int32)) → (∀ h_30, h_30 = hp_si h_27 105 7 ((hp_i h_27 105 7) - (1 : Int32)) → (Q h_30)))) ∧ (¬ ((hp_i h_23 105 10) = 0) → (∀ h_33, h_33 = hp_si h_23 105 6 ((hp_i h_23 105 6) + (0 : Int32)) → (∀ h_36, h_36 = hp_si h_33 105 7 ((hp_i h_33 105 7) - (1 : Int32)) → (Q h_36)))))))))) ∧ (¬ (v_12 = 0) → rc.2.2.2.2.2 h_16 (fun h_73 => wp_X8_writes (-21 : Int32) h_73 (fun h_75 => (∀ h_77, h_77 = hp_si h_75 105 7 ((hp_i h_75 105 7) - (1 : Int32)) → (Q h_77)))))))))))
set_option maxRecDepth 100000 in
set_option maxHeartbeats 4000000 in
theorem bt_X8_readsOne_b70 {l : Launch} {G : ab_G} {rc : rt_X8} {d : Nat} {F : ab_F}  {Q : hp_T → Prop}  (C : ab_C G F (rr_X8 (d + 1)) cX8_readsOne 3 RX8 none "readsOne") (ih0 : ih_X8 l G rc d)   : ∀ (h : hp_T), wf h → wp_X8_readsOne_b70 rc Q h → ab_W l G F 3 (ab_MQ G F (po_v Q) 0 0) 0 0 h [(0, .ref (G.1 + 105))] [] 70 := by
  intro h hw f
  unfold wp_X8_readsOne_b70 at f
  refine ab_aload_n C 0 dX8_readsOne_70 rfl rfl ?_
  refine ab_getI C fl_X8_190 rfl kd_105 (wf_lt hw kd_105 rfl) dX8_readsOne_71 ?_
  refine ab_iconst C (v := (5 : Int32)) dX8_readsOne_74 (by decide) ?_
  refine ab_icmp_ge C (tgt := 185) dX8_readsOne_75 (by decide) (fun c_8 => ?_) (fun c_8 => ?_)
  · have f := f.1 c_8
    refine ab_aload_n C 0 dX8_readsOne_185 rfl rfl ?_
    refine ab_iconst C (v := (1 : Int32)) dX8_readsOne_186 (by decide) ?_
    refine ab_putI C fl_X8_155 rfl kd_105 (wf_lt hw kd_105 rfl) rfl rfl dX8_readsOne_187 (fun h_9 e_10 => ?_)
    have f := f h_9 e_10
    have hw_11 := wf_si e_10 hw
    exact ab_vret C dX8_readsOne_190 ⟨hw_11, rfl, f⟩
  · have f := f.2 c_8
    refine ab_aload_n C 0 dX8_readsOne_78 rfl rfl ?_
    refine ab_bipush C (v := (33 : Int32)) dX8_readsOne_79 (by decide) ?_
    refine ab_callV C (k := 0) (n := 0) (rest := []) [.int (33 : Int32)] cl_X8_187 (mt_X8_isHere  hw f) rfl (by decide) kd_105 (wf_lt hw kd_105 rfl) ⟨rfl, rfl, Nat.le_trans (Nat.le_of_ble_eq_true rfl) (Nat.le_add_left 7 (d + 1)), Nat.le_trans (Nat.le_of_ble_eq_true rfl) (Nat.le_add_left 400 (64 * (d + 1))), Nat.zero_le _, Nat.zero_le _⟩ rfl rfl (Nat.le_of_ble_eq_true rfl) dX8_readsOne_81 (ab_kp (k := 0) (n := 0) (fun v_12 f => ?_))
    refine ab_istore_n C (lv' := [(2, .int v_12), (0, .ref (G.1 + 105))]) dX8_readsOne_84 rfl (by decide) rfl ?_
    refine ab_aload_n C 1 dX8_readsOne_85 rfl rfl ?_
    refine ab_dup C dX8_readsOne_86 rfl ?_
    refine ab_getI C fl_X8_151 rfl kd_105 (wf_lt hw kd_105 rfl) dX8_readsOne_87 ?_
    refine ab_iconst C (v := (1 : Int32)) dX8_readsOne_90 (by decide) ?_
    refine ab_iadd C dX8_readsOne_91 ?_
    refine ab_putI C fl_X8_151 rfl kd_105 (wf_lt hw kd_105 rfl) rfl rfl dX8_readsOne_92 (fun h_13 e_14 => ?_)
    have f := f h_13 e_14
    have hw_15 := wf_si e_14 hw
    refine ab_aload_n C 1 dX8_readsOne_95 rfl rfl ?_
    refine ab_dup C dX8_readsOne_96 rfl ?_
    refine ab_getI C fl_X8_190 rfl kd_105 (wf_lt hw_15 kd_105 rfl) dX8_readsOne_97 ?_
    refine ab_iconst C (v := (1 : Int32)) dX8_readsOne_100 (by decide) ?_
    refine ab_iadd C dX8_readsOne_101 ?_
    refine ab_putI C fl_X8_190 rfl kd_105 (wf_lt hw_15 kd_105 rfl) rfl rfl dX8_readsOne_102 (fun h_16 e_17 => ?_)
    have f := f h_16 e_17
    have hw_18 := wf_si e_17 hw_15
    refine ab_iload_n C 0 dX8_readsOne_105 rfl rfl ?_
    refine ab_if_eq C (tgt := 122) dX8_readsOne_106 (by decide) (fun c_19 => ?_) (fun c_19 => ?_)
    · have f := f.1 c_19
      refine ab_aload_n C 1 dX8_readsOne_122 rfl rfl ?_
      refine ab_callV C (k := 0) (n := 0) (rest := []) [] cl_X8_196 (ih0.1  h_16 _ hw_18 f) rfl (by decide) kd_105 (wf_lt hw_18 kd_105 rfl) ⟨rfl, rfl, Nat.le_of_eq (Nat.add_right_comm d 7 1), (by show 8 + (1 + 11) + (64 * d + 400) ≤ 64 * (d + 1) + 400; omega), Nat.zero_le _, Nat.zero_le _⟩ rfl rfl (Nat.le_of_ble_eq_true rfl) dX8_readsOne_123 (ab_kv (k := 0) (n := 0) (fun h_20 hw_21 f => ?_))
      refine ab_aload_n C 1 dX8_readsOne_126 rfl rfl ?_
      refine ab_aload_n C 1 dX8_readsOne_127 rfl rfl ?_
      refine ab_getI C fl_X8_155 rfl kd_105 (wf_lt hw_21 kd_105 rfl) dX8_readsOne_128 ?_
      refine ab_if_ne C (tgt := 143) dX8_readsOne_131 (by decide) (fun c_22 => ?_) (fun c_22 => ?_)
      · have f := f.2 c_22
        refine ab_iconst C (v := (1 : Int32)) dX8_readsOne_143 (by decide) ?_
        refine ab_goto C (tgt := 148) dX8_readsOne_144 (by decide) ?_
        refine ab_putI C fl_X8_155 rfl kd_105 (wf_lt hw_21 kd_105 rfl) rfl rfl dX8_readsOne_148 (fun h_23 e_24 => ?_)
        have f := f h_23 e_24
        have hw_25 := wf_si e_24 hw_21
        refine ab_aload_n C 1 dX8_readsOne_151 rfl rfl ?_
        refine ab_dup C dX8_readsOne_152 rfl ?_
        refine ab_getI C fl_X8_151 rfl kd_105 (wf_lt hw_25 kd_105 rfl) dX8_readsOne_153 ?_
        refine ab_aload_n C 1 dX8_readsOne_156 rfl rfl ?_
        refine ab_getI C fl_X8_155 rfl kd_105 (wf_lt hw_25 kd_105 rfl) dX8_readsOne_157 ?_
        refine ab_if_eq C (tgt := 167) dX8_readsOne_160 (by decide) (fun c_26 => ?_) (fun c_26 => ?_)
        · have f := f.1 c_26
          refine ab_iconst C (v := (1 : Int32)) dX8_readsOne_167 (by decide) ?_
          refine ab_iadd C dX8_readsOne_168 ?_
          refine ab_putI C fl_X8_151 rfl kd_105 (wf_lt hw_25 kd_105 rfl) rfl rfl dX8_readsOne_169 (fun h_27 e_28 => ?_)
          have f := f h_27 e_28
          have hw_29 := wf_si e_28 hw_25
          refine ab_aload_n C 1 dX8_readsOne_172 rfl rfl ?_
          refine ab_dup C dX8_readsOne_173 rfl ?_
          refine ab_getI C fl_X8_190 rfl kd_105 (wf_lt hw_29 kd_105 rfl) dX8_readsOne_174 ?_
          refine ab_iconst C (v := (1 : Int32)) dX8_readsOne_177 (by decide) ?_
          refine ab_isub C dX8_readsOne_178 ?_
          refine ab_putI C fl_X8_190 rfl kd_105 (wf_lt hw_29 kd_105 rfl) rfl rfl dX8_readsOne_179 (fun h_30 e_31 => ?_)
          have f := f h_30 e_31
          have hw_32 := wf_si e_31 hw_29
          refine ab_goto C (tgt := 190) dX8_readsOne_182 (by decide) ?_
          exact ab_vret C dX8_readsOne_190 ⟨hw_32, rfl, f⟩
        · have f := f.2 c_26
          refine ab_iconst C (v := (0 : Int32)) dX8_readsOne_163 (by decide) ?_
          refine ab_goto C (tgt := 168) dX8_readsOne_164 (by decide) ?_
          refine ab_iadd C dX8_readsOne_168 ?_
          refine ab_putI C fl_X8_151 rfl kd_105 (wf_lt hw_25 kd_105 rfl) rfl rfl dX8_readsOne_169 (fun h_33 e_34 => ?_)
          have f := f h_33 e_34
          have hw_35 := wf_si e_34 hw_25
          refine ab_aload_n C 1 dX8_readsOne_172 rfl rfl ?_
          refine ab_dup C dX8_readsOne_173 rfl ?_
          refine ab_getI C fl_X8_190 rfl kd_105 (wf_lt hw_35 kd_105 rfl) dX8_readsOne_174 ?_
          refine ab_iconst C (v := (1 : Int32)) dX8_readsOne_177 (by decide) ?_
          refine ab_isub C dX8_readsOne_178 ?_
          refine ab_putI C fl_X8_190 rfl kd_105 (wf_lt hw_35 kd_105 rfl) rfl rfl dX8_readsOne_179 (fun h_36 e_37 => ?_)
          have f := f h_36 e_37
          have hw_38 := wf_si e_37 hw_35
          refine ab_goto C (tgt := 190) dX8_readsOne_182 (by decide) ?_
          exact ab_vret C dX8_readsOne_190 ⟨hw_38, rfl, f⟩
      · have f := f.1 c_22
        refine ab_aload_n C 1 dX8_readsOne_134 rfl rfl ?_
        refine ab_bipush C (v := (41 : Int32)) dX8_readsOne_135 (by decide) ?_
        refine ab_callV C (k := 0) (n := 0) (rest := [.ref (G.1 + 105)]) [.int (41 : Int32)] cl_X8_187 (mt_X8_isHere  hw_21 f) rfl (by decide) kd_105 (wf_lt hw_21 kd_105 rfl) ⟨rfl, rfl, Nat.le_trans (Nat.le_of_ble_eq_true rfl) (Nat.le_add_left 7 (d + 1)), Nat.le_trans (Nat.le_of_ble_eq_true rfl) (Nat.le_add_left 400 (64 * (d + 1))), Nat.zero_le _, Nat.zero_le _⟩ rfl rfl (Nat.le_of_ble_eq_true rfl) dX8_readsOne_137 (ab_kp (k := 0) (n := 0) (fun v_39 f => ?_))
        refine ab_if_ne C (tgt := 147) dX8_readsOne_140 (by decide) (fun c_40 => ?_) (fun c_40 => ?_)
        · have f := f.2 c_40
          refine ab_iconst C (v := (0 : Int32)) dX8_readsOne_147 (by decide) ?_
          refine ab_putI C fl_X8_155 rfl kd_105 (wf_lt hw_21 kd_105 rfl) rfl rfl dX8_readsOne_148 (fun h_41 e_42 => ?_)
          have f := f h_41 e_42
          have hw_43 := wf_si e_42 hw_21
          refine ab_aload_n C 1 dX8_readsOne_151 rfl rfl ?_
          refine ab_dup C dX8_readsOne_152 rfl ?_
          refine ab_getI C fl_X8_151 rfl kd_105 (wf_lt hw_43 kd_105 rfl) dX8_readsOne_153 ?_
          refine ab_aload_n C 1 dX8_readsOne_156 rfl rfl ?_
          refine ab_getI C fl_X8_155 rfl kd_105 (wf_lt hw_43 kd_105 rfl) dX8_readsOne_157 ?_
          refine ab_if_eq C (tgt := 167) dX8_readsOne_160 (by decide) (fun c_44 => ?_) (fun c_44 => ?_)
          · have f := f.1 c_44
            refine ab_iconst C (v := (1 : Int32)) dX8_readsOne_167 (by decide) ?_
            refine ab_iadd C dX8_readsOne_168 ?_
            refine ab_putI C fl_X8_151 rfl kd_105 (wf_lt hw_43 kd_105 rfl) rfl rfl dX8_readsOne_169 (fun h_45 e_46 => ?_)
            have f := f h_45 e_46
            have hw_47 := wf_si e_46 hw_43
            refine ab_aload_n C 1 dX8_readsOne_172 rfl rfl ?_
            refine ab_dup C dX8_readsOne_173 rfl ?_
            refine ab_getI C fl_X8_190 rfl kd_105 (wf_lt hw_47 kd_105 rfl) dX8_readsOne_174 ?_
            refine ab_iconst C (v := (1 : Int32)) dX8_readsOne_177 (by decide) ?_
            refine ab_isub C dX8_readsOne_178 ?_
            refine ab_putI C fl_X8_190 rfl kd_105 (wf_lt hw_47 kd_105 rfl) rfl rfl dX8_readsOne_179 (fun h_48 e_49 => ?_)
            have f := f h_48 e_49
            have hw_50 := wf_si e_49 hw_47
            refine ab_goto C (tgt := 190) dX8_readsOne_182 (by decide) ?_
            exact ab_vret C dX8_readsOne_190 ⟨hw_50, rfl, f⟩
          · have f := f.2 c_44
            refine ab_iconst C (v := (0 : Int32)) dX8_readsOne_163 (by decide) ?_
            refine ab_goto C (tgt := 168) dX8_readsOne_164 (by decide) ?_
            refine ab_iadd C dX8_readsOne_168 ?_
            refine ab_putI C fl_X8_151 rfl kd_105 (wf_lt hw_43 kd_105 rfl) rfl rfl dX8_readsOne_169 (fun h_51 e_52 => ?_)
            have f := f h_51 e_52
            have hw_53 := wf_si e_52 hw_43
            refine ab_aload_n C 1 dX8_readsOne_172 rfl rfl ?_
            refine ab_dup C dX8_readsOne_173 rfl ?_
            refine ab_getI C fl_X8_190 rfl kd_105 (wf_lt hw_53 kd_105 rfl) dX8_readsOne_174 ?_
            refine ab_iconst C (v := (1 : Int32)) dX8_readsOne_177 (by decide) ?_
            refine ab_isub C dX8_readsOne_178 ?_
            refine ab_putI C fl_X8_190 rfl kd_105 (wf_lt hw_53 kd_105 rfl) rfl rfl dX8_readsOne_179 (fun h_54 e_55 => ?_)
            have f := f h_54 e_55
            have hw_56 := wf_si e_55 hw_53
            refine ab_goto C (tgt := 190) dX8_readsOne_182 (by decide) ?_
            exact ab_vret C dX8_readsOne_190 ⟨hw_56, rfl, f⟩
        · have f := f.1 c_40
          refine ab_iconst C (v := (1 : Int32)) dX8_readsOne_143 (by decide) ?_
          refine ab_goto C (tgt := 148) dX8_readsOne_144 (by decide) ?_
          refine ab_putI C fl_X8_155 rfl kd_105 (wf_lt hw_21 kd_105 rfl) rfl rfl dX8_readsOne_148 (fun h_57 e_58 => ?_)
          have f := f h_57 e_58
          have hw_59 := wf_si e_58 hw_21
          refine ab_aload_n C 1 dX8_readsOne_151 rfl rfl ?_
          refine ab_dup C dX8_readsOne_152 rfl ?_
          refine ab_getI C fl_X8_151 rfl kd_105 (wf_lt hw_59 kd_105 rfl) dX8_readsOne_153 ?_
          refine ab_aload_n C 1 dX8_readsOne_156 rfl rfl ?_
          refine ab_getI C fl_X8_155 rfl kd_105 (wf_lt hw_59 kd_105 rfl) dX8_readsOne_157 ?_
          refine ab_if_eq C (tgt := 167) dX8_readsOne_160 (by decide) (fun c_60 => ?_) (fun c_60 => ?_)
          · have f := f.1 c_60
            refine ab_iconst C (v := (1 : Int32)) dX8_readsOne_167 (by decide) ?_
            refine ab_iadd C dX8_readsOne_168 ?_
            refine ab_putI C fl_X8_151 rfl kd_105 (wf_lt hw_59 kd_105 rfl) rfl rfl dX8_readsOne_169 (fun h_61 e_62 => ?_)
            have f := f h_61 e_62
            have hw_63 := wf_si e_62 hw_59
            refine ab_aload_n C 1 dX8_readsOne_172 rfl rfl ?_
            refine ab_dup C dX8_readsOne_173 rfl ?_
            refine ab_getI C fl_X8_190 rfl kd_105 (wf_lt hw_63 kd_105 rfl) dX8_readsOne_174 ?_
            refine ab_iconst C (v := (1 : Int32)) dX8_readsOne_177 (by decide) ?_
            refine ab_isub C dX8_readsOne_178 ?_
            refine ab_putI C fl_X8_190 rfl kd_105 (wf_lt hw_63 kd_105 rfl) rfl rfl dX8_readsOne_179 (fun h_64 e_65 => ?_)
            have f := f h_64 e_65
            have hw_66 := wf_si e_65 hw_63
            refine ab_goto C (tgt := 190) dX8_readsOne_182 (by decide) ?_
            exact ab_vret C dX8_readsOne_190 ⟨hw_66, rfl, f⟩
          · have f := f.2 c_60
            refine ab_iconst C (v := (0 : Int32)) dX8_readsOne_163 (by decide) ?_
            refine ab_goto C (tgt := 168) dX8_readsOne_164 (by decide) ?_
            refine ab_iadd C dX8_readsOne_168 ?_
            refine ab_putI C fl_X8_151 rfl kd_105 (wf_lt hw_59 kd_105 rfl) rfl rfl dX8_readsOne_169 (fun h_67 e_68 => ?_)
            have f := f h_67 e_68
            have hw_69 := wf_si e_68 hw_59
            refine ab_aload_n C 1 dX8_readsOne_172 rfl rfl ?_
            refine ab_dup C dX8_readsOne_173 rfl ?_
            refine ab_getI C fl_X8_190 rfl kd_105 (wf_lt hw_69 kd_105 rfl) dX8_readsOne_174 ?_
            refine ab_iconst C (v := (1 : Int32)) dX8_readsOne_177 (by decide) ?_
            refine ab_isub C dX8_readsOne_178 ?_
            refine ab_putI C fl_X8_190 rfl kd_105 (wf_lt hw_69 kd_105 rfl) rfl rfl dX8_readsOne_179 (fun h_70 e_71 => ?_)
            have f := f h_70 e_71
            have hw_72 := wf_si e_71 hw_69
            refine ab_goto C (tgt := 190) dX8_readsOne_182 (by decide) ?_
            exact ab_vret C dX8_readsOne_190 ⟨hw_72, rfl, f⟩
    · have f := f.2 c_19
      refine ab_aload_n C 1 dX8_readsOne_109 rfl rfl ?_
      refine ab_callV C (k := 0) (n := 0) (rest := []) [] cl_X8_193 (ih0.2.2.2.2.2  h_16 _ hw_18 f) rfl (by decide) kd_105 (wf_lt hw_18 kd_105 rfl) ⟨rfl, rfl, Nat.le_of_eq (Nat.add_right_comm d 7 1), (by show 8 + (3 + 11) + (64 * d + 400) ≤ 64 * (d + 1) + 400; omega), Nat.zero_le _, Nat.zero_le _⟩ rfl rfl (Nat.le_of_ble_eq_true rfl) dX8_readsOne_110 (ab_kv (k := 0) (n := 0) (fun h_73 hw_74 f => ?_))
      refine ab_aload_n C 1 dX8_readsOne_113 rfl rfl ?_
      refine ab_bipush C (v := (-21 : Int32)) dX8_readsOne_114 (by decide) ?_
      refine ab_callV C (k := 0) (n := 0) (rest := []) [.int (-21 : Int32)] cl_X8_177 (mt_X8_writes  hw_74 f) rfl (by decide) kd_105 (wf_lt hw_74 kd_105 rfl) ⟨rfl, rfl, Nat.le_trans (Nat.le_of_ble_eq_true rfl) (Nat.le_add_left 7 (d + 1)), Nat.le_trans (Nat.le_of_ble_eq_true rfl) (Nat.le_add_left 400 (64 * (d + 1))), Nat.zero_le _, Nat.zero_le _⟩ rfl rfl (Nat.le_of_ble_eq_true rfl) dX8_readsOne_116 (ab_kv (k := 0) (n := 0) (fun h_75 hw_76 f => ?_))
      refine ab_goto C (tgt := 172) dX8_readsOne_119 (by decide) ?_
      refine ab_aload_n C 1 dX8_readsOne_172 rfl rfl ?_
      refine ab_dup C dX8_readsOne_173 rfl ?_
      refine ab_getI C fl_X8_190 rfl kd_105 (wf_lt hw_76 kd_105 rfl) dX8_readsOne_174 ?_
      refine ab_iconst C (v := (1 : Int32)) dX8_readsOne_177 (by decide) ?_
      refine ab_isub C dX8_readsOne_178 ?_
      refine ab_putI C fl_X8_190 rfl kd_105 (wf_lt hw_76 kd_105 rfl) rfl rfl dX8_readsOne_179 (fun h_77 e_78 => ?_)
      have f := f h_77 e_78
      have hw_79 := wf_si e_78 hw_76
      refine ab_goto C (tgt := 190) dX8_readsOne_182 (by decide) ?_
      exact ab_vret C dX8_readsOne_190 ⟨hw_79, rfl, f⟩
def wp_X8_readsOne (rc : rt_X8) (h : hp_T) (Q : hp_T → Prop) : Prop :=
  (((hp_i h 105 10) = 0 → wp_X8_nameHere h (fun v_2 => wp_X8_isDigitHere h (fun v_3 => ((v_3 = 0 → ((0 ≤ v_2 → wp_X8_isHere (33 : Int32) h (fun v_6 => ((v_6 = 0 → wp_X8_isHere (40 : Int32) h (fun v_80 => ((v_80 = 0 → (∀ h_82, h_82 = hp_si h 105 10 (1 : Int32) → (Q h_82))) ∧ (¬ (v_80 = 0) → (wp_X8_readsOne_b70 rc Q  h))))) ∧ (¬ (v_6 = 0) → (wp_X8_readsOne_b70 rc Q  h))))) ∧ (¬ (0 ≤ v_2) → (∀ h_85, h_85 = hp_si h 105 6 ((hp_i h 105 6) + (1 : Int32)) → wp_X8_writes v_2 h_85 (fun h_88 => (Q h_88)))))) ∧ (¬ (v_3 = 0) → wp_X8_readsNumber h (fun h_90 => (Q h_90))))))) ∧ (¬ ((hp_i h 105 10) = 0) → wp_X8_isDigitHere h (fun v_92 => ((v_92 = 0 → wp_X8_isHere (33 : Int32) h (fun v_94 => ((v_94 = 0 → wp_X8_isHere (40 : Int32) h (fun v_96 => ((v_96 = 0 → (∀ h_98, h_98 = hp_si h 105 10 (1 : Int32) → (Q h_98))) ∧ (¬ (v_96 = 0) → (wp_X8_readsOne_b70 rc Q  h))))) ∧ (¬ (v_94 = 0) → (wp_X8_readsOne_b70 rc Q  h))))) ∧ (¬ (v_92 = 0) → wp_X8_readsNumber h (fun h_101 => (Q h_101)))))))
set_option maxRecDepth 100000 in
set_option maxHeartbeats 4000000 in
theorem mt_X8_readsOne {l : Launch} {G : ab_G} {rc : rt_X8} {d : Nat}  {h : hp_T} {Q : hp_T → Prop} (ih0 : ih_X8 l G rc d) (hw : wf h) (f : wp_X8_readsOne rc h Q) : ab_M l G yX8_readsOne cX8_readsOne 3 none (rr_X8 (d + 1)) 0 0 [.ref (G.1 + 105)] h (po_v Q) := by
  refine ab_intro (own := RX8) (nm := "readsOne") rfl rfl rfl (Nat.le_of_ble_eq_true rfl) (fun F C => ?_)
  show ab_W l G F 3 (ab_MQ G F (po_v Q) 0 0) 0 0 h [(0, .ref (G.1 + 105))] [] 0
  unfold wp_X8_readsOne at f
  refine ab_aload_n C 0 dX8_readsOne_0 rfl rfl ?_
  refine ab_getI C fl_X8_155 rfl kd_105 (wf_lt hw kd_105 rfl) dX8_readsOne_1 ?_
  refine ab_if_eq C (tgt := 11) dX8_readsOne_4 (by decide) (fun c_1 => ?_) (fun c_1 => ?_)
  · have f := f.1 c_1
    refine ab_aload_n C 0 dX8_readsOne_11 rfl rfl ?_
    refine ab_callV C (k := 0) (n := 0) (rest := []) [] cl_X8_181 (mt_X8_nameHere  hw f) rfl (by decide) kd_105 (wf_lt hw kd_105 rfl) ⟨rfl, rfl, Nat.le_trans (Nat.le_of_ble_eq_true rfl) (Nat.le_add_left 7 (d + 1)), Nat.le_trans (Nat.le_of_ble_eq_true rfl) (Nat.le_add_left 400 (64 * (d + 1))), Nat.zero_le _, Nat.zero_le _⟩ rfl rfl (Nat.le_of_ble_eq_true rfl) dX8_readsOne_12 (ab_kp (k := 0) (n := 0) (fun v_2 f => ?_))
    refine ab_istore_n C (lv' := [(1, .int v_2), (0, .ref (G.1 + 105))]) dX8_readsOne_15 rfl (by decide) rfl ?_
    refine ab_aload_n C 1 dX8_readsOne_16 rfl rfl ?_
    refine ab_callV C (k := 0) (n := 0) (rest := []) [] cl_X8_173 (mt_X8_isDigitHere  hw f) rfl (by decide) kd_105 (wf_lt hw kd_105 rfl) ⟨rfl, rfl, Nat.le_trans (Nat.le_of_ble_eq_true rfl) (Nat.le_add_left 7 (d + 1)), Nat.le_trans (Nat.le_of_ble_eq_true rfl) (Nat.le_add_left 400 (64 * (d + 1))), Nat.zero_le _, Nat.zero_le _⟩ rfl rfl (Nat.le_of_ble_eq_true rfl) dX8_readsOne_17 (ab_kp (k := 0) (n := 0) (fun v_3 f => ?_))
    refine ab_if_eq C (tgt := 30) dX8_readsOne_20 (by decide) (fun c_4 => ?_) (fun c_4 => ?_)
    · have f := f.1 c_4
      refine ab_iload_n C 0 dX8_readsOne_30 rfl rfl ?_
      refine ab_if_ge C (tgt := 52) dX8_readsOne_31 (by decide) (fun c_5 => ?_) (fun c_5 => ?_)
      · have f := f.1 c_5
        refine ab_aload_n C 1 dX8_readsOne_52 rfl rfl ?_
        refine ab_bipush C (v := (33 : Int32)) dX8_readsOne_53 (by decide) ?_
        refine ab_callV C (k := 0) (n := 0) (rest := []) [.int (33 : Int32)] cl_X8_187 (mt_X8_isHere  hw f) rfl (by decide) kd_105 (wf_lt hw kd_105 rfl) ⟨rfl, rfl, Nat.le_trans (Nat.le_of_ble_eq_true rfl) (Nat.le_add_left 7 (d + 1)), Nat.le_trans (Nat.le_of_ble_eq_true rfl) (Nat.le_add_left 400 (64 * (d + 1))), Nat.zero_le _, Nat.zero_le _⟩ rfl rfl (Nat.le_of_ble_eq_true rfl) dX8_readsOne_55 (ab_kp (k := 0) (n := 0) (fun v_6 f => ?_))
        refine ab_if_ne C (tgt := 70) dX8_readsOne_58 (by decide) (fun c_7 => ?_) (fun c_7 => ?_)
        · have f := f.2 c_7
          refine ab_sub (lv' := [(0, .ref (G.1 + 105))]) [1] rfl ?_
          exact bt_X8_readsOne_b70 C ih0     h  hw f
        · have f := f.1 c_7
          refine ab_aload_n C 1 dX8_readsOne_61 rfl rfl ?_
          refine ab_bipush C (v := (40 : Int32)) dX8_readsOne_62 (by decide) ?_
          refine ab_callV C (k := 0) (n := 0) (rest := []) [.int (40 : Int32)] cl_X8_187 (mt_X8_isHere  hw f) rfl (by decide) kd_105 (wf_lt hw kd_105 rfl) ⟨rfl, rfl, Nat.le_trans (Nat.le_of_ble_eq_true rfl) (Nat.le_add_left 7 (d + 1)), Nat.le_trans (Nat.le_of_ble_eq_true rfl) (Nat.le_add_left 400 (64 * (d + 1))), Nat.zero_le _, Nat.zero_le _⟩ rfl rfl (Nat.le_of_ble_eq_true rfl) dX8_readsOne_64 (ab_kp (k := 0) (n := 0) (fun v_80 f => ?_))
          refine ab_if_eq C (tgt := 185) dX8_readsOne_67 (by decide) (fun c_81 => ?_) (fun c_81 => ?_)
          · have f := f.1 c_81
            refine ab_aload_n C 1 dX8_readsOne_185 rfl rfl ?_
            refine ab_iconst C (v := (1 : Int32)) dX8_readsOne_186 (by decide) ?_
            refine ab_putI C fl_X8_155 rfl kd_105 (wf_lt hw kd_105 rfl) rfl rfl dX8_readsOne_187 (fun h_82 e_83 => ?_)
            have f := f h_82 e_83
            have hw_84 := wf_si e_83 hw
            exact ab_vret C dX8_readsOne_190 ⟨hw_84, rfl, f⟩
          · have f := f.2 c_81
            refine ab_sub (lv' := [(0, .ref (G.1 + 105))]) [1] rfl ?_
            exact bt_X8_readsOne_b70 C ih0     h  hw f
      · have f := f.2 c_5
        refine ab_aload_n C 1 dX8_readsOne_34 rfl rfl ?_
        refine ab_dup C dX8_readsOne_35 rfl ?_
        refine ab_getI C fl_X8_151 rfl kd_105 (wf_lt hw kd_105 rfl) dX8_readsOne_36 ?_
        refine ab_iconst C (v := (1 : Int32)) dX8_readsOne_39 (by decide) ?_
        refine ab_iadd C dX8_readsOne_40 ?_
        refine ab_putI C fl_X8_151 rfl kd_105 (wf_lt hw kd_105 rfl) rfl rfl dX8_readsOne_41 (fun h_85 e_86 => ?_)
        have f := f h_85 e_86
        have hw_87 := wf_si e_86 hw
        refine ab_aload_n C 1 dX8_readsOne_44 rfl rfl ?_
        refine ab_iload_n C 0 dX8_readsOne_45 rfl rfl ?_
        refine ab_callV C (k := 0) (n := 0) (rest := []) [.int v_2] cl_X8_177 (mt_X8_writes  hw_87 f) rfl (by decide) kd_105 (wf_lt hw_87 kd_105 rfl) ⟨rfl, rfl, Nat.le_trans (Nat.le_of_ble_eq_true rfl) (Nat.le_add_left 7 (d + 1)), Nat.le_trans (Nat.le_of_ble_eq_true rfl) (Nat.le_add_left 400 (64 * (d + 1))), Nat.zero_le _, Nat.zero_le _⟩ rfl rfl (Nat.le_of_ble_eq_true rfl) dX8_readsOne_46 (ab_kv (k := 0) (n := 0) (fun h_88 hw_89 f => ?_))
        refine ab_goto C (tgt := 190) dX8_readsOne_49 (by decide) ?_
        exact ab_vret C dX8_readsOne_190 ⟨hw_89, rfl, f⟩
    · have f := f.2 c_4
      refine ab_aload_n C 1 dX8_readsOne_23 rfl rfl ?_
      refine ab_callV C (k := 0) (n := 0) (rest := []) [] cl_X8_184 (mt_X8_readsNumber  hw f) rfl (by decide) kd_105 (wf_lt hw kd_105 rfl) ⟨rfl, rfl, Nat.le_trans (Nat.le_of_ble_eq_true rfl) (Nat.le_add_left 7 (d + 1)), Nat.le_trans (Nat.le_of_ble_eq_true rfl) (Nat.le_add_left 400 (64 * (d + 1))), Nat.zero_le _, Nat.zero_le _⟩ rfl rfl (Nat.le_of_ble_eq_true rfl) dX8_readsOne_24 (ab_kv (k := 0) (n := 0) (fun h_90 hw_91 f => ?_))
      refine ab_goto C (tgt := 190) dX8_readsOne_27 (by decide) ?_
      exact ab_vret C dX8_readsOne_190 ⟨hw_91, rfl, f⟩
  · have f := f.2 c_1
    refine ab_iconst C (v := (0 : Int32)) dX8_readsOne_7 (by decide) ?_
    refine ab_goto C (tgt := 15) dX8_readsOne_8 (by decide) ?_
    refine ab_istore_n C (lv' := [(1, .int (0 : Int32)), (0, .ref (G.1 + 105))]) dX8_readsOne_15 rfl (by decide) rfl ?_
    refine ab_aload_n C 1 dX8_readsOne_16 rfl rfl ?_
    refine ab_callV C (k := 0) (n := 0) (rest := []) [] cl_X8_173 (mt_X8_isDigitHere  hw f) rfl (by decide) kd_105 (wf_lt hw kd_105 rfl) ⟨rfl, rfl, Nat.le_trans (Nat.le_of_ble_eq_true rfl) (Nat.le_add_left 7 (d + 1)), Nat.le_trans (Nat.le_of_ble_eq_true rfl) (Nat.le_add_left 400 (64 * (d + 1))), Nat.zero_le _, Nat.zero_le _⟩ rfl rfl (Nat.le_of_ble_eq_true rfl) dX8_readsOne_17 (ab_kp (k := 0) (n := 0) (fun v_92 f => ?_))
    refine ab_if_eq C (tgt := 30) dX8_readsOne_20 (by decide) (fun c_93 => ?_) (fun c_93 => ?_)
    · have f := f.1 c_93
      refine ab_iload_n C 0 dX8_readsOne_30 rfl rfl ?_
      refine ab_if_ge C (tgt := 52) dX8_readsOne_31 (by decide) (fun _ => ?_) (fun z => absurd z (by decide))
      refine ab_aload_n C 1 dX8_readsOne_52 rfl rfl ?_
      refine ab_bipush C (v := (33 : Int32)) dX8_readsOne_53 (by decide) ?_
      refine ab_callV C (k := 0) (n := 0) (rest := []) [.int (33 : Int32)] cl_X8_187 (mt_X8_isHere  hw f) rfl (by decide) kd_105 (wf_lt hw kd_105 rfl) ⟨rfl, rfl, Nat.le_trans (Nat.le_of_ble_eq_true rfl) (Nat.le_add_left 7 (d + 1)), Nat.le_trans (Nat.le_of_ble_eq_true rfl) (Nat.le_add_left 400 (64 * (d + 1))), Nat.zero_le _, Nat.zero_le _⟩ rfl rfl (Nat.le_of_ble_eq_true rfl) dX8_readsOne_55 (ab_kp (k := 0) (n := 0) (fun v_94 f => ?_))
      refine ab_if_ne C (tgt := 70) dX8_readsOne_58 (by decide) (fun c_95 => ?_) (fun c_95 => ?_)
      · have f := f.2 c_95
        refine ab_sub (lv' := [(0, .ref (G.1 + 105))]) [1] rfl ?_
        exact bt_X8_readsOne_b70 C ih0     h  hw f
      · have f := f.1 c_95
        refine ab_aload_n C 1 dX8_readsOne_61 rfl rfl ?_
        refine ab_bipush C (v := (40 : Int32)) dX8_readsOne_62 (by decide) ?_
        refine ab_callV C (k := 0) (n := 0) (rest := []) [.int (40 : Int32)] cl_X8_187 (mt_X8_isHere  hw f) rfl (by decide) kd_105 (wf_lt hw kd_105 rfl) ⟨rfl, rfl, Nat.le_trans (Nat.le_of_ble_eq_true rfl) (Nat.le_add_left 7 (d + 1)), Nat.le_trans (Nat.le_of_ble_eq_true rfl) (Nat.le_add_left 400 (64 * (d + 1))), Nat.zero_le _, Nat.zero_le _⟩ rfl rfl (Nat.le_of_ble_eq_true rfl) dX8_readsOne_64 (ab_kp (k := 0) (n := 0) (fun v_96 f => ?_))
        refine ab_if_eq C (tgt := 185) dX8_readsOne_67 (by decide) (fun c_97 => ?_) (fun c_97 => ?_)
        · have f := f.1 c_97
          refine ab_aload_n C 1 dX8_readsOne_185 rfl rfl ?_
          refine ab_iconst C (v := (1 : Int32)) dX8_readsOne_186 (by decide) ?_
          refine ab_putI C fl_X8_155 rfl kd_105 (wf_lt hw kd_105 rfl) rfl rfl dX8_readsOne_187 (fun h_98 e_99 => ?_)
          have f := f h_98 e_99
          have hw_100 := wf_si e_99 hw
          exact ab_vret C dX8_readsOne_190 ⟨hw_100, rfl, f⟩
        · have f := f.2 c_97
          refine ab_sub (lv' := [(0, .ref (G.1 + 105))]) [1] rfl ?_
          exact bt_X8_readsOne_b70 C ih0     h  hw f
    · have f := f.2 c_93
      refine ab_aload_n C 1 dX8_readsOne_23 rfl rfl ?_
      refine ab_callV C (k := 0) (n := 0) (rest := []) [] cl_X8_184 (mt_X8_readsNumber  hw f) rfl (by decide) kd_105 (wf_lt hw kd_105 rfl) ⟨rfl, rfl, Nat.le_trans (Nat.le_of_ble_eq_true rfl) (Nat.le_add_left 7 (d + 1)), Nat.le_trans (Nat.le_of_ble_eq_true rfl) (Nat.le_add_left 400 (64 * (d + 1))), Nat.zero_le _, Nat.zero_le _⟩ rfl rfl (Nat.le_of_ble_eq_true rfl) dX8_readsOne_24 (ab_kv (k := 0) (n := 0) (fun h_101 hw_102 f => ?_))
      refine ab_goto C (tgt := 190) dX8_readsOne_27 (by decide) ?_
      exact ab_vret C dX8_readsOne_190 ⟨hw_102, rfl, f⟩
def wr_X8 : Nat → rt_X8
  | 0 => (fun _ _ => False, fun _ _ => False, fun _ _ => False, fun _ _ => False, fun _ _ => False, fun _ _ => False)
  | d + 1 => (fun h Q => wp_X8_readsText (wr_X8 d) h Q, fun h Q => wp_X8_readsAll (wr_X8 d) h Q, fun h Q => wp_X8_readsComparison (wr_X8 d) h Q, fun h Q => wp_X8_readsSum (wr_X8 d) h Q, fun h Q => wp_X8_readsProduct (wr_X8 d) h Q, fun h Q => wp_X8_readsOne (wr_X8 d) h Q)
theorem mr_X8 (l : Launch) (G : ab_G) : ∀ d, ih_X8 l G (wr_X8 d) d := by
  intro d
  induction d with
  | zero => exact ⟨fun _ _ _ f => absurd f id, fun _ _ _ f => absurd f id, fun _ _ _ f => absurd f id, fun _ _ _ f => absurd f id, fun _ _ _ f => absurd f id, fun _ _ _ f => absurd f id⟩
  | succ d ih => exact ⟨fun _ _ hw f => mt_X8_readsText (rc := wr_X8 d) ih hw f, fun _ _ hw f => mt_X8_readsAll (rc := wr_X8 d) ih hw f, fun _ _ hw f => mt_X8_readsComparison (rc := wr_X8 d) ih hw f, fun _ _ hw f => mt_X8_readsSum (rc := wr_X8 d) ih hw f, fun _ _ hw f => mt_X8_readsProduct (rc := wr_X8 d) ih hw f, fun _ _ hw f => mt_X8_readsOne (rc := wr_X8 d) ih hw f⟩
/-! X8_restore -/
def rm_X8_restore : Room := { frames := 3, cells := 0, slots := 0, locals := 121 }
def wp_X8_restore_L17 (Q : Int32 → hp_T → Prop) : Nat → Int32 → hp_T → Prop
  | 0 => fun _ _ => False
  | nn + 1 => fun y1 h => (((357 : Int32) ≤ y1 → (Q (hp_i h 106 3) h)) ∧ (¬ ((357 : Int32) ≤ y1) → (vp_in y1 357) ∧ (vp_in y1 357) ∧ (∀ h_5, h_5 = hp_si h 106 y1.toNatClampNeg (hp_i h 107 y1.toNatClampNeg) → (wp_X8_restore_L17 Q nn) (y1 + (1 : Int32)) h_5)))
set_option maxRecDepth 100000 in
set_option maxHeartbeats 4000000 in
theorem bt_X8_restore_L17 {l : Launch} {G : ab_G} {F : ab_F}  {Q : Int32 → hp_T → Prop}  (C : ab_C G F rm_X8_restore cX8_restore 2 RX8 (some .int) "restore")   : ∀ (nn : Nat) (y1 : Int32) (h : hp_T), wf h → wp_X8_restore_L17 Q nn y1 h → ab_W l G F 2 (ab_MQ G F (po_h Q) 0 0) 0 0 h [(0, .ref (G.1 + 105)), (1, .int y1)] [] 17 := by
  intro nn
  induction nn with
  | zero =>
    intro y1 h hw f
    exact absurd f id
  | succ nn ih =>
    intro y1 h hw f
    unfold wp_X8_restore_L17 at f
    refine ab_iload_n C 1 dX8_restore_17 rfl rfl ?_
    refine ab_sipush C (v := (357 : Int32)) dX8_restore_18 (by decide) ?_
    refine ab_icmp_ge C (tgt := 42) dX8_restore_21 (by decide) (fun c_2 => ?_) (fun c_2 => ?_)
    · have f := f.1 c_2
      refine ab_aload_n C 0 dX8_restore_42 rfl rfl ?_
      refine ab_getR C (q := 106) fl_X8_7 rfl kd_105 (wf_lt hw kd_105 rfl) (wr_8_0 hw) dX8_restore_43 ?_
      refine ab_iconst C (v := (3 : Int32)) dX8_restore_46 (by decide) ?_
      refine ab_iald C (by rw [kd_106]; decide) (wf_lt hw kd_106 rfl) (wf_len hw kd_106 rfl rfl (by decide)) (vp_lit (by decide)) (j := 3) (by decide) dX8_restore_47 ?_
      exact ab_iret C dX8_restore_48 ⟨hw, _, rfl, f⟩
    · have f := f.2 c_2
      refine ab_aload_n C 0 dX8_restore_24 rfl rfl ?_
      refine ab_getR C (q := 106) fl_X8_7 rfl kd_105 (wf_lt hw kd_105 rfl) (wr_8_0 hw) dX8_restore_25 ?_
      refine ab_iload_n C 1 dX8_restore_28 rfl rfl ?_
      refine ab_aload_n C 0 dX8_restore_29 rfl rfl ?_
      refine ab_getR C (q := 107) fl_X8_13 rfl kd_105 (wf_lt hw kd_105 rfl) (wr_8_1 hw) dX8_restore_30 ?_
      refine ab_iload_n C 1 dX8_restore_33 rfl rfl ?_
      obtain ⟨c_3, f⟩ := f
      refine ab_iald C (by rw [kd_107]; decide) (wf_lt hw kd_107 rfl) (wf_len hw kd_107 rfl rfl (by decide)) c_3 (j := y1.toNatClampNeg) rfl dX8_restore_34 ?_
      obtain ⟨c_4, f⟩ := f
      refine ab_iast C (by rw [kd_106]; decide) (wf_lt hw kd_106 rfl) (wf_len hw kd_106 rfl rfl (by decide)) c_4 (j := y1.toNatClampNeg) rfl dX8_restore_35 (fun h_5 e_6 => ?_)
      have f := f h_5 e_6
      have hw_7 := wf_si e_6 hw
      refine ab_iinc C (lv' := [(1, .int (y1 + (1 : Int32))), (0, .ref (G.1 + 105))]) 1 (v := (y1 + (1 : Int32))) dX8_restore_36 rfl rfl (by decide) rfl ?_
      refine ab_goto C (tgt := 17) dX8_restore_39 (by decide) ?_
      refine ab_sub (lv' := [(0, .ref (G.1 + 105)), (1, .int (y1 + (1 : Int32)))]) [1, 0] rfl ?_
      exact ih (y1 + (1 : Int32)) h_5  hw_7 f
def wp_X8_restore (h : hp_T) (Q : Int32 → hp_T → Prop) : Prop :=
  (((hp_i h 105 4) = 0 → wp_X8_errs (-1000000002 : Int32) h (fun v_8 h_9 => (Q v_8 h_9))) ∧ (¬ ((hp_i h 105 4) = 0) → (∃ n0, wp_X8_restore_L17 Q  n0 (0 : Int32) h)))
set_option maxRecDepth 100000 in
set_option maxHeartbeats 4000000 in
theorem mt_X8_restore {l : Launch} {G : ab_G}  {h : hp_T} {Q : Int32 → hp_T → Prop} (hw : wf h) (f : wp_X8_restore h Q) : ab_M l G yX8_restore cX8_restore 2 (some .int) rm_X8_restore 0 0 [.ref (G.1 + 105)] h (po_h Q) := by
  refine ab_intro (own := RX8) (nm := "restore") rfl rfl rfl (Nat.le_of_ble_eq_true rfl) (fun F C => ?_)
  show ab_W l G F 2 (ab_MQ G F (po_h Q) 0 0) 0 0 h [(0, .ref (G.1 + 105))] [] 0
  unfold wp_X8_restore at f
  refine ab_aload_n C 0 dX8_restore_0 rfl rfl ?_
  refine ab_getI C fl_X8_312 rfl kd_105 (wf_lt hw kd_105 rfl) dX8_restore_1 ?_
  refine ab_if_ne C (tgt := 15) dX8_restore_4 (by decide) (fun c_1 => ?_) (fun c_1 => ?_)
  · have f := f.2 c_1
    refine ab_iconst C (v := (0 : Int32)) dX8_restore_15 (by decide) ?_
    refine ab_istore_n C (lv' := [(1, .int (0 : Int32)), (0, .ref (G.1 + 105))]) dX8_restore_16 rfl (by decide) rfl ?_
    obtain ⟨n0, f⟩ := f
    refine ab_sub (lv' := [(0, .ref (G.1 + 105)), (1, .int (0 : Int32))]) [1, 0] rfl ?_
    exact bt_X8_restore_L17 C    n0 (0 : Int32) h  hw f
  · have f := f.1 c_1
    refine ab_aload_n C 0 dX8_restore_7 rfl rfl ?_
    refine ab_ldcw C kw_t1089 dX8_restore_8 ?_
    refine ab_callV C (k := 0) (n := 0) (rest := []) [.int (-1000000002 : Int32)] cl_X8_84 (mt_X8_errs  hw f) rfl (by decide) kd_105 (wf_lt hw kd_105 rfl) ⟨rfl, rfl, Nat.le_of_ble_eq_true rfl, Nat.le_of_ble_eq_true rfl, Nat.zero_le _, Nat.zero_le _⟩ rfl rfl (Nat.le_of_ble_eq_true rfl) dX8_restore_11 (ab_kh (k := 0) (n := 0) (fun v_8 h_9 hw_10 f => ?_))
    exact ab_iret C dX8_restore_14 ⟨hw_10, _, rfl, f⟩
/-! X8_rosterWrong -/
def rm_X8_rosterWrong : Room := { frames := 4, cells := 0, slots := 0, locals := 145 }
def wp_X8_rosterWrong (x1 : Int32) (x2 : Int32) (h : hp_T) (Q : Int32 → Prop) : Prop :=
  wp_X8_isMan x1 h (fun v_1 => ((v_1 = 0 → (Q (-1000000001 : Int32))) ∧ (¬ (v_1 = 0) → wp_X8_isBits x2 h (fun v_3 => ((v_3 = 0 → (Q (-1000000001 : Int32))) ∧ (¬ (v_3 = 0) → (((hp_i h 106 1) = (12 : Int32) → (Q (-1000000004 : Int32))) ∧ (¬ ((hp_i h 106 1) = (12 : Int32)) → (Q (0 : Int32))))))))))
set_option maxRecDepth 100000 in
set_option maxHeartbeats 4000000 in
theorem mt_X8_rosterWrong {l : Launch} {G : ab_G} {x1 : Int32} {x2 : Int32} {h : hp_T} {Q : Int32 → Prop} (hw : wf h) (f : wp_X8_rosterWrong x1 x2 h Q) : ab_M l G yX8_rosterWrong cX8_rosterWrong 3 (some .int) rm_X8_rosterWrong 0 0 [.ref (G.1 + 105), .int x1, .int x2] h (po_p h Q) := by
  refine ab_intro (own := RX8) (nm := "rosterWrong") rfl rfl rfl (Nat.le_of_ble_eq_true rfl) (fun F C => ?_)
  show ab_W l G F 3 (ab_MQ G F (po_p h Q) 0 0) 0 0 h [(0, .ref (G.1 + 105)), (1, .int x1), (2, .int x2)] [] 0
  unfold wp_X8_rosterWrong at f
  refine ab_iload_n C 1 dX8_rosterWrong_0 rfl rfl ?_
  refine ab_callS C (k := 0) (n := 0) (rest := []) [.int x1] cl_X8_80 (mt_X8_isMan  hw f) ⟨rfl, rfl, Nat.le_of_ble_eq_true rfl, Nat.le_of_ble_eq_true rfl, Nat.zero_le _, Nat.zero_le _⟩ rfl rfl (Nat.le_of_ble_eq_true rfl) dX8_rosterWrong_1 (ab_kp (k := 0) (n := 0) (fun v_1 f => ?_))
  refine ab_if_eq C (tgt := 14) dX8_rosterWrong_4 (by decide) (fun c_2 => ?_) (fun c_2 => ?_)
  · have f := f.1 c_2
    refine ab_ldc C kw_t821 dX8_rosterWrong_14 ?_
    refine ab_goto C (tgt := 36) dX8_rosterWrong_16 (by decide) ?_
    exact ab_iret C dX8_rosterWrong_36 ⟨rfl, _, rfl, f⟩
  · have f := f.2 c_2
    refine ab_iload_n C 2 dX8_rosterWrong_7 rfl rfl ?_
    refine ab_callS C (k := 0) (n := 0) (rest := []) [.int x2] cl_X8_121 (mt_X8_isBits  hw f) ⟨rfl, rfl, Nat.le_of_ble_eq_true rfl, Nat.le_of_ble_eq_true rfl, Nat.zero_le _, Nat.zero_le _⟩ rfl rfl (Nat.le_of_ble_eq_true rfl) dX8_rosterWrong_8 (ab_kp (k := 0) (n := 0) (fun v_3 f => ?_))
    refine ab_if_ne C (tgt := 19) dX8_rosterWrong_11 (by decide) (fun c_4 => ?_) (fun c_4 => ?_)
    · have f := f.2 c_4
      refine ab_aload_n C 0 dX8_rosterWrong_19 rfl rfl ?_
      refine ab_getR C (q := 106) fl_X8_7 rfl kd_105 (wf_lt hw kd_105 rfl) (wr_8_0 hw) dX8_rosterWrong_20 ?_
      refine ab_iconst C (v := (1 : Int32)) dX8_rosterWrong_23 (by decide) ?_
      refine ab_iald C (by rw [kd_106]; decide) (wf_lt hw kd_106 rfl) (wf_len hw kd_106 rfl rfl (by decide)) (vp_lit (by decide)) (j := 1) (by decide) dX8_rosterWrong_24 ?_
      refine ab_bipush C (v := (12 : Int32)) dX8_rosterWrong_25 (by decide) ?_
      refine ab_icmp_ne C (tgt := 35) dX8_rosterWrong_27 (by decide) (fun c_5 => ?_) (fun c_5 => ?_)
      · have f := f.2 c_5
        refine ab_iconst C (v := (0 : Int32)) dX8_rosterWrong_35 (by decide) ?_
        exact ab_iret C dX8_rosterWrong_36 ⟨rfl, _, rfl, f⟩
      · have f := f.1 c_5
        refine ab_ldc C kw_t826 dX8_rosterWrong_30 ?_
        refine ab_goto C (tgt := 36) dX8_rosterWrong_32 (by decide) ?_
        exact ab_iret C dX8_rosterWrong_36 ⟨rfl, _, rfl, f⟩
    · have f := f.1 c_4
      refine ab_ldc C kw_t821 dX8_rosterWrong_14 ?_
      refine ab_goto C (tgt := 36) dX8_rosterWrong_16 (by decide) ?_
      exact ab_iret C dX8_rosterWrong_36 ⟨rfl, _, rfl, f⟩
/-! X8_rostered -/
def rm_X8_rostered : Room := { frames := 2, cells := 0, slots := 0, locals := 100 }
def wp_X8_rostered (x1 : Int32) (x2 : Int32) (h : hp_T) (Q : hp_T → Prop) : Prop :=
  (vp_in ((113 : Int32) + ((2 : Int32) * (hp_i h 106 1))) 357) ∧ (∀ h_2, h_2 = hp_si h 106 (((113 : Int32) + ((2 : Int32) * (hp_i h 106 1))).toNatClampNeg) x1 → (vp_in (((113 : Int32) + ((2 : Int32) * (hp_i h_2 106 1))) + (1 : Int32)) 357) ∧ (∀ h_6, h_6 = hp_si h_2 106 ((((113 : Int32) + ((2 : Int32) * (hp_i h_2 106 1))) + (1 : Int32)).toNatClampNeg) x2 → (∀ h_9, h_9 = hp_si h_6 106 1 ((hp_i h_6 106 1) + (1 : Int32)) → (Q h_9))))
set_option maxRecDepth 100000 in
set_option maxHeartbeats 4000000 in
theorem mt_X8_rostered {l : Launch} {G : ab_G} {x1 : Int32} {x2 : Int32} {h : hp_T} {Q : hp_T → Prop} (hw : wf h) (f : wp_X8_rostered x1 x2 h Q) : ab_M l G yX8_rostered cX8_rostered 3 none rm_X8_rostered 0 0 [.ref (G.1 + 105), .int x1, .int x2] h (po_v Q) := by
  refine ab_intro (own := RX8) (nm := "rostered") rfl rfl rfl (Nat.le_of_ble_eq_true rfl) (fun F C => ?_)
  show ab_W l G F 3 (ab_MQ G F (po_v Q) 0 0) 0 0 h [(0, .ref (G.1 + 105)), (1, .int x1), (2, .int x2)] [] 0
  unfold wp_X8_rostered at f
  refine ab_aload_n C 0 dX8_rostered_0 rfl rfl ?_
  refine ab_getR C (q := 106) fl_X8_7 rfl kd_105 (wf_lt hw kd_105 rfl) (wr_8_0 hw) dX8_rostered_1 ?_
  refine ab_bipush C (v := (113 : Int32)) dX8_rostered_4 (by decide) ?_
  refine ab_iconst C (v := (2 : Int32)) dX8_rostered_6 (by decide) ?_
  refine ab_aload_n C 0 dX8_rostered_7 rfl rfl ?_
  refine ab_getR C (q := 106) fl_X8_7 rfl kd_105 (wf_lt hw kd_105 rfl) (wr_8_0 hw) dX8_rostered_8 ?_
  refine ab_iconst C (v := (1 : Int32)) dX8_rostered_11 (by decide) ?_
  refine ab_iald C (by rw [kd_106]; decide) (wf_lt hw kd_106 rfl) (wf_len hw kd_106 rfl rfl (by decide)) (vp_lit (by decide)) (j := 1) (by decide) dX8_rostered_12 ?_
  refine ab_imul C dX8_rostered_13 ?_
  refine ab_iadd C dX8_rostered_14 ?_
  refine ab_iload_n C 1 dX8_rostered_15 rfl rfl ?_
  obtain ⟨c_1, f⟩ := f
  refine ab_iast C (by rw [kd_106]; decide) (wf_lt hw kd_106 rfl) (wf_len hw kd_106 rfl rfl (by decide)) c_1 (j := ((113 : Int32) + ((2 : Int32) * (hp_i h 106 1))).toNatClampNeg) rfl dX8_rostered_16 (fun h_2 e_3 => ?_)
  have f := f h_2 e_3
  have hw_4 := wf_si e_3 hw
  refine ab_aload_n C 0 dX8_rostered_17 rfl rfl ?_
  refine ab_getR C (q := 106) fl_X8_7 rfl kd_105 (wf_lt hw_4 kd_105 rfl) (wr_8_0 hw_4) dX8_rostered_18 ?_
  refine ab_bipush C (v := (113 : Int32)) dX8_rostered_21 (by decide) ?_
  refine ab_iconst C (v := (2 : Int32)) dX8_rostered_23 (by decide) ?_
  refine ab_aload_n C 0 dX8_rostered_24 rfl rfl ?_
  refine ab_getR C (q := 106) fl_X8_7 rfl kd_105 (wf_lt hw_4 kd_105 rfl) (wr_8_0 hw_4) dX8_rostered_25 ?_
  refine ab_iconst C (v := (1 : Int32)) dX8_rostered_28 (by decide) ?_
  refine ab_iald C (by rw [kd_106]; decide) (wf_lt hw_4 kd_106 rfl) (wf_len hw_4 kd_106 rfl rfl (by decide)) (vp_lit (by decide)) (j := 1) (by decide) dX8_rostered_29 ?_
  refine ab_imul C dX8_rostered_30 ?_
  refine ab_iadd C dX8_rostered_31 ?_
  refine ab_iconst C (v := (1 : Int32)) dX8_rostered_32 (by decide) ?_
  refine ab_iadd C dX8_rostered_33 ?_
  refine ab_iload_n C 2 dX8_rostered_34 rfl rfl ?_
  obtain ⟨c_5, f⟩ := f
  refine ab_iast C (by rw [kd_106]; decide) (wf_lt hw_4 kd_106 rfl) (wf_len hw_4 kd_106 rfl rfl (by decide)) c_5 (j := (((113 : Int32) + ((2 : Int32) * (hp_i h_2 106 1))) + (1 : Int32)).toNatClampNeg) rfl dX8_rostered_35 (fun h_6 e_7 => ?_)
  have f := f h_6 e_7
  have hw_8 := wf_si e_7 hw_4
  refine ab_aload_n C 0 dX8_rostered_36 rfl rfl ?_
  refine ab_getR C (q := 106) fl_X8_7 rfl kd_105 (wf_lt hw_8 kd_105 rfl) (wr_8_0 hw_8) dX8_rostered_37 ?_
  refine ab_iconst C (v := (1 : Int32)) dX8_rostered_40 (by decide) ?_
  refine ab_dup2 C dX8_rostered_41 rfl rfl ?_
  refine ab_iald C (by rw [kd_106]; decide) (wf_lt hw_8 kd_106 rfl) (wf_len hw_8 kd_106 rfl rfl (by decide)) (vp_lit (by decide)) (j := 1) (by decide) dX8_rostered_42 ?_
  refine ab_iconst C (v := (1 : Int32)) dX8_rostered_43 (by decide) ?_
  refine ab_iadd C dX8_rostered_44 ?_
  refine ab_iast C (by rw [kd_106]; decide) (wf_lt hw_8 kd_106 rfl) (wf_len hw_8 kd_106 rfl rfl (by decide)) (vp_lit (by decide)) (j := 1) (by decide) dX8_rostered_45 (fun h_9 e_10 => ?_)
  have f := f h_9 e_10
  have hw_11 := wf_si e_10 hw_8
  exact ab_vret C dX8_rostered_46 ⟨hw_11, rfl, f⟩
/-! X8_roster -/
def rm_X8_roster : Room := { frames := 5, cells := 0, slots := 0, locals := 167 }
def wp_X8_roster (x1 : Int32) (x2 : Int32) (h : hp_T) (Q : Int32 → hp_T → Prop) : Prop :=
  wp_X8_rosterWrong x1 x2 h (fun v_1 => ((v_1 = 0 → wp_X8_rostered x1 x2 h (fun h_3 => (Q (hp_i h_3 106 1) h_3))) ∧ (¬ (v_1 = 0) → wp_X8_errs v_1 h (fun v_5 h_6 => (Q v_5 h_6)))))
set_option maxRecDepth 100000 in
set_option maxHeartbeats 4000000 in
theorem mt_X8_roster {l : Launch} {G : ab_G} {x1 : Int32} {x2 : Int32} {h : hp_T} {Q : Int32 → hp_T → Prop} (hw : wf h) (f : wp_X8_roster x1 x2 h Q) : ab_M l G yX8_roster cX8_roster 4 (some .int) rm_X8_roster 0 0 [.ref (G.1 + 105), .int x1, .int x2] h (po_h Q) := by
  refine ab_intro (own := RX8) (nm := "roster") rfl rfl rfl (Nat.le_of_ble_eq_true rfl) (fun F C => ?_)
  show ab_W l G F 4 (ab_MQ G F (po_h Q) 0 0) 0 0 h [(0, .ref (G.1 + 105)), (1, .int x1), (2, .int x2)] [] 0
  unfold wp_X8_roster at f
  refine ab_aload_n C 0 dX8_roster_0 rfl rfl ?_
  refine ab_iload_n C 1 dX8_roster_1 rfl rfl ?_
  refine ab_iload_n C 2 dX8_roster_2 rfl rfl ?_
  refine ab_callV C (k := 0) (n := 0) (rest := []) [.int x1, .int x2] cl_X8_124 (mt_X8_rosterWrong  hw f) rfl (by decide) kd_105 (wf_lt hw kd_105 rfl) ⟨rfl, rfl, Nat.le_of_ble_eq_true rfl, Nat.le_of_ble_eq_true rfl, Nat.zero_le _, Nat.zero_le _⟩ rfl rfl (Nat.le_of_ble_eq_true rfl) dX8_roster_3 (ab_kp (k := 0) (n := 0) (fun v_1 f => ?_))
  refine ab_istore_n C (lv' := [(3, .int v_1), (0, .ref (G.1 + 105)), (1, .int x1), (2, .int x2)]) dX8_roster_6 rfl (by decide) rfl ?_
  refine ab_iload_n C 0 dX8_roster_7 rfl rfl ?_
  refine ab_if_eq C (tgt := 17) dX8_roster_8 (by decide) (fun c_2 => ?_) (fun c_2 => ?_)
  · have f := f.1 c_2
    refine ab_aload_n C 1 dX8_roster_17 rfl rfl ?_
    refine ab_iload_n C 2 dX8_roster_18 rfl rfl ?_
    refine ab_iload_n C 3 dX8_roster_19 rfl rfl ?_
    refine ab_callV C (k := 0) (n := 0) (rest := []) [.int x1, .int x2] cl_X8_127 (mt_X8_rostered  hw f) rfl (by decide) kd_105 (wf_lt hw kd_105 rfl) ⟨rfl, rfl, Nat.le_of_ble_eq_true rfl, Nat.le_of_ble_eq_true rfl, Nat.zero_le _, Nat.zero_le _⟩ rfl rfl (Nat.le_of_ble_eq_true rfl) dX8_roster_20 (ab_kv (k := 0) (n := 0) (fun h_3 hw_4 f => ?_))
    refine ab_aload_n C 1 dX8_roster_23 rfl rfl ?_
    refine ab_getR C (q := 106) fl_X8_7 rfl kd_105 (wf_lt hw_4 kd_105 rfl) (wr_8_0 hw_4) dX8_roster_24 ?_
    refine ab_iconst C (v := (1 : Int32)) dX8_roster_27 (by decide) ?_
    refine ab_iald C (by rw [kd_106]; decide) (wf_lt hw_4 kd_106 rfl) (wf_len hw_4 kd_106 rfl rfl (by decide)) (vp_lit (by decide)) (j := 1) (by decide) dX8_roster_28 ?_
    exact ab_iret C dX8_roster_29 ⟨hw_4, _, rfl, f⟩
  · have f := f.2 c_2
    refine ab_aload_n C 1 dX8_roster_11 rfl rfl ?_
    refine ab_iload_n C 0 dX8_roster_12 rfl rfl ?_
    refine ab_callV C (k := 0) (n := 0) (rest := []) [.int v_1] cl_X8_84 (mt_X8_errs  hw f) rfl (by decide) kd_105 (wf_lt hw kd_105 rfl) ⟨rfl, rfl, Nat.le_of_ble_eq_true rfl, Nat.le_of_ble_eq_true rfl, Nat.zero_le _, Nat.zero_le _⟩ rfl rfl (Nat.le_of_ble_eq_true rfl) dX8_roster_13 (ab_kh (k := 0) (n := 0) (fun v_5 h_6 hw_7 f => ?_))
    exact ab_iret C dX8_roster_16 ⟨hw_7, _, rfl, f⟩
/-! X8_rosters -/
def rm_X8_rosters : Room := { frames := 5, cells := 0, slots := 0, locals := 167 }
def wp_X8_rosters_L18 (x1 : Int32) (Q : Int32 → hp_T → Prop) : Nat → Int32 → hp_T → Prop
  | 0 => fun _ _ => False
  | nn + 1 => fun y3 h => (vp_in x1 4) ∧ (((hp_i h 114 x1.toNatClampNeg) ≤ (((2 : Int32) * y3) + (1 : Int32)) → (Q y3 h)) ∧ (¬ ((hp_i h 114 x1.toNatClampNeg) ≤ (((2 : Int32) * y3) + (1 : Int32))) → (vp_in (((24 : Int32) * x1) + ((2 : Int32) * y3)) 96) ∧ (vp_in ((((24 : Int32) * x1) + ((2 : Int32) * y3)) + (1 : Int32)) 96) ∧ wp_X8_rosterWrong (hp_i h 115 ((((24 : Int32) * x1) + ((2 : Int32) * y3)).toNatClampNeg)) (hp_i h 115 (((((24 : Int32) * x1) + ((2 : Int32) * y3)) + (1 : Int32)).toNatClampNeg)) h (fun v_7 => ((v_7 = 0 → (vp_in (((24 : Int32) * x1) + ((2 : Int32) * y3)) 96) ∧ (vp_in ((((24 : Int32) * x1) + ((2 : Int32) * y3)) + (1 : Int32)) 96) ∧ wp_X8_rostered (hp_i h 115 ((((24 : Int32) * x1) + ((2 : Int32) * y3)).toNatClampNeg)) (hp_i h 115 (((((24 : Int32) * x1) + ((2 : Int32) * y3)) + (1 : Int32)).toNatClampNeg)) h (fun h_11 => (wp_X8_rosters_L18 x1 Q nn) (y3 + (1 : Int32)) h_11)) ∧ (¬ (v_7 = 0) → (Q y3 h))))))
set_option maxRecDepth 100000 in
set_option maxHeartbeats 4000000 in
theorem bt_X8_rosters_L18 {l : Launch} {G : ab_G} {F : ab_F} {x1 : Int32} {Q : Int32 → hp_T → Prop}  (C : ab_C G F rm_X8_rosters cX8_rosters 4 RX8 (some .int) "rosters")   : ∀ (nn : Nat) (y3 : Int32) (h : hp_T), wf h → wp_X8_rosters_L18 x1 Q nn y3 h → ab_W l G F 4 (ab_MQ G F (po_h Q) 0 0) 0 0 h [(0, .ref (G.1 + 105)), (1, .int x1), (3, .int y3)] [] 18 := by
  intro nn
  induction nn with
  | zero =>
    intro y3 h hw f
    exact absurd f id
  | succ nn ih =>
    intro y3 h hw f
    unfold wp_X8_rosters_L18 at f
    refine ab_iconst C (v := (2 : Int32)) dX8_rosters_18 (by decide) ?_
    refine ab_iload_n C 2 dX8_rosters_19 rfl rfl ?_
    refine ab_imul C dX8_rosters_20 ?_
    refine ab_iconst C (v := (1 : Int32)) dX8_rosters_21 (by decide) ?_
    refine ab_iadd C dX8_rosters_22 ?_
    refine ab_aload_n C 0 dX8_rosters_23 rfl rfl ?_
    refine ab_getR C (q := 114) fl_X8_34 rfl kd_105 (wf_lt hw kd_105 rfl) (wr_8_19 hw) dX8_rosters_24 ?_
    refine ab_iload_n C 1 dX8_rosters_27 rfl rfl ?_
    obtain ⟨c_3, f⟩ := f
    refine ab_iald C (by rw [kd_114]; decide) (wf_lt hw kd_114 rfl) (wf_len hw kd_114 rfl rfl (by decide)) c_3 (j := x1.toNatClampNeg) rfl dX8_rosters_28 ?_
    refine ab_icmp_ge C (tgt := 105) dX8_rosters_29 (by decide) (fun c_4 => ?_) (fun c_4 => ?_)
    · have f := f.1 c_4
      refine ab_iload_n C 2 dX8_rosters_105 rfl rfl ?_
      exact ab_iret C dX8_rosters_106 ⟨hw, _, rfl, f⟩
    · have f := f.2 c_4
      refine ab_aload_n C 0 dX8_rosters_32 rfl rfl ?_
      refine ab_aload_n C 0 dX8_rosters_33 rfl rfl ?_
      refine ab_getR C (q := 115) fl_X8_37 rfl kd_105 (wf_lt hw kd_105 rfl) (wr_8_20 hw) dX8_rosters_34 ?_
      refine ab_bipush C (v := (24 : Int32)) dX8_rosters_37 (by decide) ?_
      refine ab_iload_n C 1 dX8_rosters_39 rfl rfl ?_
      refine ab_imul C dX8_rosters_40 ?_
      refine ab_iconst C (v := (2 : Int32)) dX8_rosters_41 (by decide) ?_
      refine ab_iload_n C 2 dX8_rosters_42 rfl rfl ?_
      refine ab_imul C dX8_rosters_43 ?_
      refine ab_iadd C dX8_rosters_44 ?_
      obtain ⟨c_5, f⟩ := f
      refine ab_iald C (by rw [kd_115]; decide) (wf_lt hw kd_115 rfl) (wf_len hw kd_115 rfl rfl (by decide)) c_5 (j := (((24 : Int32) * x1) + ((2 : Int32) * y3)).toNatClampNeg) rfl dX8_rosters_45 ?_
      refine ab_aload_n C 0 dX8_rosters_46 rfl rfl ?_
      refine ab_getR C (q := 115) fl_X8_37 rfl kd_105 (wf_lt hw kd_105 rfl) (wr_8_20 hw) dX8_rosters_47 ?_
      refine ab_bipush C (v := (24 : Int32)) dX8_rosters_50 (by decide) ?_
      refine ab_iload_n C 1 dX8_rosters_52 rfl rfl ?_
      refine ab_imul C dX8_rosters_53 ?_
      refine ab_iconst C (v := (2 : Int32)) dX8_rosters_54 (by decide) ?_
      refine ab_iload_n C 2 dX8_rosters_55 rfl rfl ?_
      refine ab_imul C dX8_rosters_56 ?_
      refine ab_iadd C dX8_rosters_57 ?_
      refine ab_iconst C (v := (1 : Int32)) dX8_rosters_58 (by decide) ?_
      refine ab_iadd C dX8_rosters_59 ?_
      obtain ⟨c_6, f⟩ := f
      refine ab_iald C (by rw [kd_115]; decide) (wf_lt hw kd_115 rfl) (wf_len hw kd_115 rfl rfl (by decide)) c_6 (j := ((((24 : Int32) * x1) + ((2 : Int32) * y3)) + (1 : Int32)).toNatClampNeg) rfl dX8_rosters_60 ?_
      refine ab_callV C (k := 0) (n := 0) (rest := []) [.int (hp_i h 115 ((((24 : Int32) * x1) + ((2 : Int32) * y3)).toNatClampNeg)), .int (hp_i h 115 (((((24 : Int32) * x1) + ((2 : Int32) * y3)) + (1 : Int32)).toNatClampNeg))] cl_X8_124 (mt_X8_rosterWrong  hw f) rfl (by decide) kd_105 (wf_lt hw kd_105 rfl) ⟨rfl, rfl, Nat.le_of_ble_eq_true rfl, Nat.le_of_ble_eq_true rfl, Nat.zero_le _, Nat.zero_le _⟩ rfl rfl (Nat.le_of_ble_eq_true rfl) dX8_rosters_61 (ab_kp (k := 0) (n := 0) (fun v_7 f => ?_))
      refine ab_if_ne C (tgt := 105) dX8_rosters_64 (by decide) (fun c_8 => ?_) (fun c_8 => ?_)
      · have f := f.2 c_8
        refine ab_iload_n C 2 dX8_rosters_105 rfl rfl ?_
        exact ab_iret C dX8_rosters_106 ⟨hw, _, rfl, f⟩
      · have f := f.1 c_8
        refine ab_aload_n C 0 dX8_rosters_67 rfl rfl ?_
        refine ab_aload_n C 0 dX8_rosters_68 rfl rfl ?_
        refine ab_getR C (q := 115) fl_X8_37 rfl kd_105 (wf_lt hw kd_105 rfl) (wr_8_20 hw) dX8_rosters_69 ?_
        refine ab_bipush C (v := (24 : Int32)) dX8_rosters_72 (by decide) ?_
        refine ab_iload_n C 1 dX8_rosters_74 rfl rfl ?_
        refine ab_imul C dX8_rosters_75 ?_
        refine ab_iconst C (v := (2 : Int32)) dX8_rosters_76 (by decide) ?_
        refine ab_iload_n C 2 dX8_rosters_77 rfl rfl ?_
        refine ab_imul C dX8_rosters_78 ?_
        refine ab_iadd C dX8_rosters_79 ?_
        obtain ⟨c_9, f⟩ := f
        refine ab_iald C (by rw [kd_115]; decide) (wf_lt hw kd_115 rfl) (wf_len hw kd_115 rfl rfl (by decide)) c_9 (j := (((24 : Int32) * x1) + ((2 : Int32) * y3)).toNatClampNeg) rfl dX8_rosters_80 ?_
        refine ab_aload_n C 0 dX8_rosters_81 rfl rfl ?_
        refine ab_getR C (q := 115) fl_X8_37 rfl kd_105 (wf_lt hw kd_105 rfl) (wr_8_20 hw) dX8_rosters_82 ?_
        refine ab_bipush C (v := (24 : Int32)) dX8_rosters_85 (by decide) ?_
        refine ab_iload_n C 1 dX8_rosters_87 rfl rfl ?_
        refine ab_imul C dX8_rosters_88 ?_
        refine ab_iconst C (v := (2 : Int32)) dX8_rosters_89 (by decide) ?_
        refine ab_iload_n C 2 dX8_rosters_90 rfl rfl ?_
        refine ab_imul C dX8_rosters_91 ?_
        refine ab_iadd C dX8_rosters_92 ?_
        refine ab_iconst C (v := (1 : Int32)) dX8_rosters_93 (by decide) ?_
        refine ab_iadd C dX8_rosters_94 ?_
        obtain ⟨c_10, f⟩ := f
        refine ab_iald C (by rw [kd_115]; decide) (wf_lt hw kd_115 rfl) (wf_len hw kd_115 rfl rfl (by decide)) c_10 (j := ((((24 : Int32) * x1) + ((2 : Int32) * y3)) + (1 : Int32)).toNatClampNeg) rfl dX8_rosters_95 ?_
        refine ab_callV C (k := 0) (n := 0) (rest := []) [.int (hp_i h 115 ((((24 : Int32) * x1) + ((2 : Int32) * y3)).toNatClampNeg)), .int (hp_i h 115 (((((24 : Int32) * x1) + ((2 : Int32) * y3)) + (1 : Int32)).toNatClampNeg))] cl_X8_127 (mt_X8_rostered  hw f) rfl (by decide) kd_105 (wf_lt hw kd_105 rfl) ⟨rfl, rfl, Nat.le_of_ble_eq_true rfl, Nat.le_of_ble_eq_true rfl, Nat.zero_le _, Nat.zero_le _⟩ rfl rfl (Nat.le_of_ble_eq_true rfl) dX8_rosters_96 (ab_kv (k := 0) (n := 0) (fun h_11 hw_12 f => ?_))
        refine ab_iinc C (lv' := [(3, .int (y3 + (1 : Int32))), (0, .ref (G.1 + 105)), (1, .int x1)]) 2 (v := (y3 + (1 : Int32))) dX8_rosters_99 rfl rfl (by decide) rfl ?_
        refine ab_goto C (tgt := 18) dX8_rosters_102 (by decide) ?_
        refine ab_sub (lv' := [(0, .ref (G.1 + 105)), (1, .int x1), (3, .int (y3 + (1 : Int32)))]) [1, 2, 0] rfl ?_
        exact ih (y3 + (1 : Int32)) h_11  hw_12 f
def wp_X8_rosters (x1 : Int32) (h : hp_T) (Q : Int32 → hp_T → Prop) : Prop :=
  wp_X8_wrong x1 h (fun v_1 => ((v_1 = 0 → (∃ n0, wp_X8_rosters_L18 x1 Q  n0 (0 : Int32) h)) ∧ (¬ (v_1 = 0) → wp_X8_errs v_1 h (fun v_13 h_14 => (Q v_13 h_14)))))
set_option maxRecDepth 100000 in
set_option maxHeartbeats 4000000 in
theorem mt_X8_rosters {l : Launch} {G : ab_G} {x1 : Int32} {h : hp_T} {Q : Int32 → hp_T → Prop} (hw : wf h) (f : wp_X8_rosters x1 h Q) : ab_M l G yX8_rosters cX8_rosters 4 (some .int) rm_X8_rosters 0 0 [.ref (G.1 + 105), .int x1] h (po_h Q) := by
  refine ab_intro (own := RX8) (nm := "rosters") rfl rfl rfl (Nat.le_of_ble_eq_true rfl) (fun F C => ?_)
  show ab_W l G F 4 (ab_MQ G F (po_h Q) 0 0) 0 0 h [(0, .ref (G.1 + 105)), (1, .int x1)] [] 0
  unfold wp_X8_rosters at f
  refine ab_aload_n C 0 dX8_rosters_0 rfl rfl ?_
  refine ab_iload_n C 1 dX8_rosters_1 rfl rfl ?_
  refine ab_callV C (k := 0) (n := 0) (rest := []) [.int x1] cl_X8_306 (mt_X8_wrong  hw f) rfl (by decide) kd_105 (wf_lt hw kd_105 rfl) ⟨rfl, rfl, Nat.le_of_ble_eq_true rfl, Nat.le_of_ble_eq_true rfl, Nat.zero_le _, Nat.zero_le _⟩ rfl rfl (Nat.le_of_ble_eq_true rfl) dX8_rosters_2 (ab_kp (k := 0) (n := 0) (fun v_1 f => ?_))
  refine ab_istore_n C (lv' := [(2, .int v_1), (0, .ref (G.1 + 105)), (1, .int x1)]) dX8_rosters_5 rfl (by decide) rfl ?_
  refine ab_iload_n C 0 dX8_rosters_6 rfl rfl ?_
  refine ab_if_eq C (tgt := 16) dX8_rosters_7 (by decide) (fun c_2 => ?_) (fun c_2 => ?_)
  · have f := f.1 c_2
    refine ab_iconst C (v := (0 : Int32)) dX8_rosters_16 (by decide) ?_
    refine ab_istore_n C (lv' := [(3, .int (0 : Int32)), (2, .int v_1), (0, .ref (G.1 + 105)), (1, .int x1)]) dX8_rosters_17 rfl (by decide) rfl ?_
    obtain ⟨n0, f⟩ := f
    refine ab_sub (lv' := [(0, .ref (G.1 + 105)), (1, .int x1), (3, .int (0 : Int32))]) [2, 3, 0] rfl ?_
    exact bt_X8_rosters_L18 C    n0 (0 : Int32) h  hw f
  · have f := f.2 c_2
    refine ab_aload_n C 1 dX8_rosters_10 rfl rfl ?_
    refine ab_iload_n C 0 dX8_rosters_11 rfl rfl ?_
    refine ab_callV C (k := 0) (n := 0) (rest := []) [.int v_1] cl_X8_84 (mt_X8_errs  hw f) rfl (by decide) kd_105 (wf_lt hw kd_105 rfl) ⟨rfl, rfl, Nat.le_of_ble_eq_true rfl, Nat.le_of_ble_eq_true rfl, Nat.zero_le _, Nat.zero_le _⟩ rfl rfl (Nat.le_of_ble_eq_true rfl) dX8_rosters_12 (ab_kh (k := 0) (n := 0) (fun v_13 h_14 hw_15 f => ?_))
    exact ab_iret C dX8_rosters_15 ⟨hw_15, _, rfl, f⟩
/-! X8_saves -/
def rm_X8_saves : Room := { frames := 9, cells := 0, slots := 0, locals := 269 }
def wp_X8_saves (x1 : Int32) (x2 : Int32) (h : hp_T) (Q : Int32 → hp_T → Prop) : Prop :=
  wp_X8_isKnack x1 h (fun v_1 => ((v_1 = 0 → wp_X8_errs (-1000000001 : Int32) h (fun v_3 h_4 => (Q v_3 h_4))) ∧ (¬ (v_1 = 0) → wp_X8_in x2.toInt64 (0 : Int64) (90 : Int64) h (fun v_6 => ((v_6 = 0 → wp_X8_errs (-1000000001 : Int32) h (fun v_16 h_17 => (Q v_16 h_17))) ∧ (¬ (v_6 = 0) → wp_X8_keepsAside h (fun h_8 => wp_X8_doneIn x2 ((hp_i h_8 106 4) ||| ((1 : Int32) <<< (x1 &&& 31))) h_8 (fun v_10 h_11 => wp_X8_doneIn x2 ((hp_i h_11 106 4) &&& (((1 : Int32) <<< (x1 &&& 31)) ^^^ (-1 : Int32))) h_11 (fun v_13 h_14 => (Q (v_10 - v_13) h_14))))))))))
set_option maxRecDepth 100000 in
set_option maxHeartbeats 4000000 in
theorem mt_X8_saves {l : Launch} {G : ab_G} {x1 : Int32} {x2 : Int32} {h : hp_T} {Q : Int32 → hp_T → Prop} (hw : wf h) (f : wp_X8_saves x1 x2 h Q) : ab_M l G yX8_saves cX8_saves 4 (some .int) rm_X8_saves 0 0 [.ref (G.1 + 105), .int x1, .int x2] h (po_h Q) := by
  refine ab_intro (own := RX8) (nm := "saves") rfl rfl rfl (Nat.le_of_ble_eq_true rfl) (fun F C => ?_)
  show ab_W l G F 4 (ab_MQ G F (po_h Q) 0 0) 0 0 h [(0, .ref (G.1 + 105)), (1, .int x1), (2, .int x2)] [] 0
  unfold wp_X8_saves at f
  refine ab_iload_n C 1 dX8_saves_0 rfl rfl ?_
  refine ab_callS C (k := 0) (n := 0) (rest := []) [.int x1] cl_X8_113 (mt_X8_isKnack  hw f) ⟨rfl, rfl, Nat.le_of_ble_eq_true rfl, Nat.le_of_ble_eq_true rfl, Nat.zero_le _, Nat.zero_le _⟩ rfl rfl (Nat.le_of_ble_eq_true rfl) dX8_saves_1 (ab_kp (k := 0) (n := 0) (fun v_1 f => ?_))
  refine ab_if_eq C (tgt := 19) dX8_saves_4 (by decide) (fun c_2 => ?_) (fun c_2 => ?_)
  · have f := f.1 c_2
    refine ab_aload_n C 0 dX8_saves_19 rfl rfl ?_
    refine ab_ldc C kw_t821 dX8_saves_20 ?_
    refine ab_callV C (k := 0) (n := 0) (rest := []) [.int (-1000000001 : Int32)] cl_X8_84 (mt_X8_errs  hw f) rfl (by decide) kd_105 (wf_lt hw kd_105 rfl) ⟨rfl, rfl, Nat.le_of_ble_eq_true rfl, Nat.le_of_ble_eq_true rfl, Nat.zero_le _, Nat.zero_le _⟩ rfl rfl (Nat.le_of_ble_eq_true rfl) dX8_saves_22 (ab_kh (k := 0) (n := 0) (fun v_3 h_4 hw_5 f => ?_))
    exact ab_iret C dX8_saves_25 ⟨hw_5, _, rfl, f⟩
  · have f := f.2 c_2
    refine ab_iload_n C 2 dX8_saves_7 rfl rfl ?_
    refine ab_i2l C dX8_saves_8 ?_
    refine ab_lconst C (v := (0 : Int64)) dX8_saves_9 (by decide) ?_
    refine ab_ldc2 C kw_t1020 dX8_saves_10 ?_
    refine ab_callS C (k := 0) (n := 0) (rest := []) [.long x2.toInt64, .long (0 : Int64), .long (90 : Int64)] cl_X8_44 (mt_X8_in  hw f) ⟨rfl, rfl, Nat.le_of_ble_eq_true rfl, Nat.le_of_ble_eq_true rfl, Nat.zero_le _, Nat.zero_le _⟩ rfl rfl (Nat.le_of_ble_eq_true rfl) dX8_saves_13 (ab_kp (k := 0) (n := 0) (fun v_6 f => ?_))
    refine ab_if_ne C (tgt := 26) dX8_saves_16 (by decide) (fun c_7 => ?_) (fun c_7 => ?_)
    · have f := f.2 c_7
      refine ab_aload_n C 0 dX8_saves_26 rfl rfl ?_
      refine ab_callV C (k := 0) (n := 0) (rest := []) [] cl_X8_256 (mt_X8_keepsAside  hw f) rfl (by decide) kd_105 (wf_lt hw kd_105 rfl) ⟨rfl, rfl, Nat.le_of_ble_eq_true rfl, Nat.le_of_ble_eq_true rfl, Nat.zero_le _, Nat.zero_le _⟩ rfl rfl (Nat.le_of_ble_eq_true rfl) dX8_saves_27 (ab_kv (k := 0) (n := 0) (fun h_8 hw_9 f => ?_))
      refine ab_aload_n C 0 dX8_saves_30 rfl rfl ?_
      refine ab_iload_n C 2 dX8_saves_31 rfl rfl ?_
      refine ab_aload_n C 0 dX8_saves_32 rfl rfl ?_
      refine ab_getR C (q := 106) fl_X8_7 rfl kd_105 (wf_lt hw_9 kd_105 rfl) (wr_8_0 hw_9) dX8_saves_33 ?_
      refine ab_iconst C (v := (4 : Int32)) dX8_saves_36 (by decide) ?_
      refine ab_iald C (by rw [kd_106]; decide) (wf_lt hw_9 kd_106 rfl) (wf_len hw_9 kd_106 rfl rfl (by decide)) (vp_lit (by decide)) (j := 4) (by decide) dX8_saves_37 ?_
      refine ab_iconst C (v := (1 : Int32)) dX8_saves_38 (by decide) ?_
      refine ab_iload_n C 1 dX8_saves_39 rfl rfl ?_
      refine ab_ishl C dX8_saves_40 ?_
      refine ab_ior C dX8_saves_41 ?_
      refine ab_callV C (k := 0) (n := 0) (rest := []) [.int x2, .int ((hp_i h_8 106 4) ||| ((1 : Int32) <<< (x1 &&& 31)))] cl_X8_272 (mt_X8_doneIn  hw_9 f) rfl (by decide) kd_105 (wf_lt hw_9 kd_105 rfl) ⟨rfl, rfl, Nat.le_of_ble_eq_true rfl, Nat.le_of_ble_eq_true rfl, Nat.zero_le _, Nat.zero_le _⟩ rfl rfl (Nat.le_of_ble_eq_true rfl) dX8_saves_42 (ab_kh (k := 0) (n := 0) (fun v_10 h_11 hw_12 f => ?_))
      refine ab_istore_n C (lv' := [(3, .int v_10), (0, .ref (G.1 + 105)), (1, .int x1), (2, .int x2)]) dX8_saves_45 rfl (by decide) rfl ?_
      refine ab_iload_n C 0 dX8_saves_46 rfl rfl ?_
      refine ab_aload_n C 1 dX8_saves_47 rfl rfl ?_
      refine ab_iload_n C 3 dX8_saves_48 rfl rfl ?_
      refine ab_aload_n C 1 dX8_saves_49 rfl rfl ?_
      refine ab_getR C (q := 106) fl_X8_7 rfl kd_105 (wf_lt hw_12 kd_105 rfl) (wr_8_0 hw_12) dX8_saves_50 ?_
      refine ab_iconst C (v := (4 : Int32)) dX8_saves_53 (by decide) ?_
      refine ab_iald C (by rw [kd_106]; decide) (wf_lt hw_12 kd_106 rfl) (wf_len hw_12 kd_106 rfl rfl (by decide)) (vp_lit (by decide)) (j := 4) (by decide) dX8_saves_54 ?_
      refine ab_iconst C (v := (1 : Int32)) dX8_saves_55 (by decide) ?_
      refine ab_iload_n C 2 dX8_saves_56 rfl rfl ?_
      refine ab_ishl C dX8_saves_57 ?_
      refine ab_iconst C (v := (-1 : Int32)) dX8_saves_58 (by decide) ?_
      refine ab_ixor C dX8_saves_59 ?_
      refine ab_iand C dX8_saves_60 ?_
      refine ab_callV C (k := 0) (n := 0) (rest := [.int v_10]) [.int x2, .int ((hp_i h_11 106 4) &&& (((1 : Int32) <<< (x1 &&& 31)) ^^^ (-1 : Int32)))] cl_X8_272 (mt_X8_doneIn  hw_12 f) rfl (by decide) kd_105 (wf_lt hw_12 kd_105 rfl) ⟨rfl, rfl, Nat.le_of_ble_eq_true rfl, Nat.le_of_ble_eq_true rfl, Nat.zero_le _, Nat.zero_le _⟩ rfl rfl (Nat.le_of_ble_eq_true rfl) dX8_saves_61 (ab_kh (k := 0) (n := 0) (fun v_13 h_14 hw_15 f => ?_))
      refine ab_isub C dX8_saves_64 ?_
      exact ab_iret C dX8_saves_65 ⟨hw_15, _, rfl, f⟩
    · have f := f.1 c_7
      refine ab_aload_n C 0 dX8_saves_19 rfl rfl ?_
      refine ab_ldc C kw_t821 dX8_saves_20 ?_
      refine ab_callV C (k := 0) (n := 0) (rest := []) [.int (-1000000001 : Int32)] cl_X8_84 (mt_X8_errs  hw f) rfl (by decide) kd_105 (wf_lt hw kd_105 rfl) ⟨rfl, rfl, Nat.le_of_ble_eq_true rfl, Nat.le_of_ble_eq_true rfl, Nat.zero_le _, Nat.zero_le _⟩ rfl rfl (Nat.le_of_ble_eq_true rfl) dX8_saves_22 (ab_kh (k := 0) (n := 0) (fun v_16 h_17 hw_18 f => ?_))
      exact ab_iret C dX8_saves_25 ⟨hw_18, _, rfl, f⟩
/-! X8_seed -/
def rm_X8_seed : Room := { frames := 2, cells := 0, slots := 0, locals := 100 }
def wp_X8_seed (x1 : Int32) (h : hp_T) (Q : Int32 → hp_T → Prop) : Prop :=
  (∀ h_1, h_1 = hp_si h 106 6 x1 → (Q (hp_i h 106 6) h_1))
set_option maxRecDepth 100000 in
set_option maxHeartbeats 4000000 in
theorem mt_X8_seed {l : Launch} {G : ab_G} {x1 : Int32} {h : hp_T} {Q : Int32 → hp_T → Prop} (hw : wf h) (f : wp_X8_seed x1 h Q) : ab_M l G yX8_seed cX8_seed 3 (some .int) rm_X8_seed 0 0 [.ref (G.1 + 105), .int x1] h (po_h Q) := by
  refine ab_intro (own := RX8) (nm := "seed") rfl rfl rfl (Nat.le_of_ble_eq_true rfl) (fun F C => ?_)
  show ab_W l G F 3 (ab_MQ G F (po_h Q) 0 0) 0 0 h [(0, .ref (G.1 + 105)), (1, .int x1)] [] 0
  unfold wp_X8_seed at f
  refine ab_aload_n C 0 dX8_seed_0 rfl rfl ?_
  refine ab_getR C (q := 106) fl_X8_7 rfl kd_105 (wf_lt hw kd_105 rfl) (wr_8_0 hw) dX8_seed_1 ?_
  refine ab_bipush C (v := (6 : Int32)) dX8_seed_4 (by decide) ?_
  refine ab_iald C (by rw [kd_106]; decide) (wf_lt hw kd_106 rfl) (wf_len hw kd_106 rfl rfl (by decide)) (vp_lit (by decide)) (j := 6) (by decide) dX8_seed_6 ?_
  refine ab_istore_n C (lv' := [(2, .int (hp_i h 106 6)), (0, .ref (G.1 + 105)), (1, .int x1)]) dX8_seed_7 rfl (by decide) rfl ?_
  refine ab_aload_n C 1 dX8_seed_8 rfl rfl ?_
  refine ab_getR C (q := 106) fl_X8_7 rfl kd_105 (wf_lt hw kd_105 rfl) (wr_8_0 hw) dX8_seed_9 ?_
  refine ab_bipush C (v := (6 : Int32)) dX8_seed_12 (by decide) ?_
  refine ab_iload_n C 2 dX8_seed_14 rfl rfl ?_
  refine ab_iast C (by rw [kd_106]; decide) (wf_lt hw kd_106 rfl) (wf_len hw kd_106 rfl rfl (by decide)) (vp_lit (by decide)) (j := 6) (by decide) dX8_seed_15 (fun h_1 e_2 => ?_)
  have f := f h_1 e_2
  have hw_3 := wf_si e_2 hw
  refine ab_iload_n C 0 dX8_seed_16 rfl rfl ?_
  exact ab_iret C dX8_seed_17 ⟨hw_3, _, rfl, f⟩
/-! X8_set -/
def rm_X8_set : Room := { frames := 4, cells := 0, slots := 0, locals := 146 }
def wp_X8_set (x1 : Int32) (x2 : Int32) (x3 : Int32) (h : hp_T) (Q : Int32 → hp_T → Prop) : Prop :=
  ((x2 = 0 → wp_X8_in x3.toInt64 (0 : Int64) (6 : Int64) h (fun v_49 => wp_X8_isBunk x1 h (fun v_50 => ((v_50 = 0 → wp_X8_errs (-1000000001 : Int32) h (fun v_52 h_53 => (Q v_52 h_53))) ∧ (¬ (v_50 = 0) → ((v_49 = 0 → wp_X8_errs (-1000000001 : Int32) h (fun v_62 h_63 => (Q v_62 h_63))) ∧ (¬ (v_49 = 0) → wp_X8_its x1 x2 h (fun v_56 => wp_X8_at x1 x2 h (fun v_57 => (vp_in v_57 357) ∧ (∀ h_59, h_59 = hp_si h 106 v_57.toNatClampNeg x3 → (Q v_56 h_59))))))))))) ∧ (¬ (x2 = 0) → ((x2 = (1 : Int32) → wp_X8_in x3.toInt64 (0 : Int64) (9 : Int64) h (fun v_33 => wp_X8_isBunk x1 h (fun v_34 => ((v_34 = 0 → wp_X8_errs (-1000000001 : Int32) h (fun v_36 h_37 => (Q v_36 h_37))) ∧ (¬ (v_34 = 0) → ((v_33 = 0 → wp_X8_errs (-1000000001 : Int32) h (fun v_46 h_47 => (Q v_46 h_47))) ∧ (¬ (v_33 = 0) → wp_X8_its x1 x2 h (fun v_40 => wp_X8_at x1 x2 h (fun v_41 => (vp_in v_41 357) ∧ (∀ h_43, h_43 = hp_si h 106 v_41.toNatClampNeg x3 → (Q v_40 h_43))))))))))) ∧ (¬ (x2 = (1 : Int32)) → ((x2 = (4 : Int32) → wp_X8_in x3.toInt64 (-1 : Int64) (5 : Int64) h (fun v_12 => ((v_12 = 0 → wp_X8_isBunk x1 h (fun v_14 => ((v_14 = 0 → wp_X8_errs (-1000000001 : Int32) h (fun v_16 h_17 => (Q v_16 h_17))) ∧ (¬ (v_14 = 0) → wp_X8_errs (-1000000001 : Int32) h (fun v_19 h_20 => (Q v_19 h_20)))))) ∧ (¬ (v_12 = 0) → wp_X8_isBunk x1 h (fun v_22 => ((v_22 = 0 → wp_X8_errs (-1000000001 : Int32) h (fun v_24 h_25 => (Q v_24 h_25))) ∧ (¬ (v_22 = 0) → wp_X8_its x1 x2 h (fun v_27 => wp_X8_at x1 x2 h (fun v_28 => (vp_in v_28 357) ∧ (∀ h_30, h_30 = hp_si h 106 v_28.toNatClampNeg x3 → (Q v_27 h_30))))))))))) ∧ (¬ (x2 = (4 : Int32)) → wp_X8_isBunk x1 h (fun v_4 => ((v_4 = 0 → wp_X8_errs (-1000000001 : Int32) h (fun v_6 h_7 => (Q v_6 h_7))) ∧ (¬ (v_4 = 0) → wp_X8_errs (-1000000001 : Int32) h (fun v_9 h_10 => (Q v_9 h_10)))))))))))
set_option maxRecDepth 100000 in
set_option maxHeartbeats 4000000 in
theorem mt_X8_set {l : Launch} {G : ab_G} {x1 : Int32} {x2 : Int32} {x3 : Int32} {h : hp_T} {Q : Int32 → hp_T → Prop} (hw : wf h) (f : wp_X8_set x1 x2 x3 h Q) : ab_M l G yX8_set cX8_set 6 (some .int) rm_X8_set 0 0 [.ref (G.1 + 105), .int x1, .int x2, .int x3] h (po_h Q) := by
  refine ab_intro (own := RX8) (nm := "set") rfl rfl rfl (Nat.le_of_ble_eq_true rfl) (fun F C => ?_)
  show ab_W l G F 6 (ab_MQ G F (po_h Q) 0 0) 0 0 h [(0, .ref (G.1 + 105)), (1, .int x1), (2, .int x2), (3, .int x3)] [] 0
  unfold wp_X8_set at f
  refine ab_iload_n C 2 dX8_set_0 rfl rfl ?_
  refine ab_if_ne C (tgt := 16) dX8_set_1 (by decide) (fun c_1 => ?_) (fun c_1 => ?_)
  · have f := f.2 c_1
    refine ab_iload_n C 2 dX8_set_16 rfl rfl ?_
    refine ab_iconst C (v := (1 : Int32)) dX8_set_17 (by decide) ?_
    refine ab_icmp_ne C (tgt := 33) dX8_set_18 (by decide) (fun c_2 => ?_) (fun c_2 => ?_)
    · have f := f.2 c_2
      refine ab_iload_n C 2 dX8_set_33 rfl rfl ?_
      refine ab_iconst C (v := (4 : Int32)) dX8_set_34 (by decide) ?_
      refine ab_icmp_ne C (tgt := 56) dX8_set_35 (by decide) (fun c_3 => ?_) (fun c_3 => ?_)
      · have f := f.2 c_3
        refine ab_iconst C (v := (0 : Int32)) dX8_set_56 (by decide) ?_
        refine ab_istore C (lv' := [(4, .int (0 : Int32)), (0, .ref (G.1 + 105)), (1, .int x1), (2, .int x2), (3, .int x3)]) dX8_set_57 (by decide) rfl ?_
        refine ab_aload_n C 1 dX8_set_59 rfl rfl ?_
        refine ab_iload_n C 2 dX8_set_60 rfl rfl ?_
        refine ab_callV C (k := 0) (n := 0) (rest := []) [.int x1] cl_X8_98 (mt_X8_isBunk  hw f) rfl (by decide) kd_105 (wf_lt hw kd_105 rfl) ⟨rfl, rfl, Nat.le_of_ble_eq_true rfl, Nat.le_of_ble_eq_true rfl, Nat.zero_le _, Nat.zero_le _⟩ rfl rfl (Nat.le_of_ble_eq_true rfl) dX8_set_61 (ab_kp (k := 0) (n := 0) (fun v_4 f => ?_))
        refine ab_if_eq C (tgt := 72) dX8_set_64 (by decide) (fun c_5 => ?_) (fun c_5 => ?_)
        · have f := f.1 c_5
          refine ab_aload_n C 1 dX8_set_72 rfl rfl ?_
          refine ab_ldc C kw_t821 dX8_set_73 ?_
          refine ab_callV C (k := 0) (n := 0) (rest := []) [.int (-1000000001 : Int32)] cl_X8_84 (mt_X8_errs  hw f) rfl (by decide) kd_105 (wf_lt hw kd_105 rfl) ⟨rfl, rfl, Nat.le_of_ble_eq_true rfl, Nat.le_of_ble_eq_true rfl, Nat.zero_le _, Nat.zero_le _⟩ rfl rfl (Nat.le_of_ble_eq_true rfl) dX8_set_75 (ab_kh (k := 0) (n := 0) (fun v_6 h_7 hw_8 f => ?_))
          exact ab_iret C dX8_set_78 ⟨hw_8, _, rfl, f⟩
        · have f := f.2 c_5
          refine ab_iload C 0 dX8_set_67 rfl ?_
          refine ab_if_ne C (tgt := 79) dX8_set_69 (by decide) (fun z => absurd z (by decide)) (fun _ => ?_)
          refine ab_aload_n C 1 dX8_set_72 rfl rfl ?_
          refine ab_ldc C kw_t821 dX8_set_73 ?_
          refine ab_callV C (k := 0) (n := 0) (rest := []) [.int (-1000000001 : Int32)] cl_X8_84 (mt_X8_errs  hw f) rfl (by decide) kd_105 (wf_lt hw kd_105 rfl) ⟨rfl, rfl, Nat.le_of_ble_eq_true rfl, Nat.le_of_ble_eq_true rfl, Nat.zero_le _, Nat.zero_le _⟩ rfl rfl (Nat.le_of_ble_eq_true rfl) dX8_set_75 (ab_kh (k := 0) (n := 0) (fun v_9 h_10 hw_11 f => ?_))
          exact ab_iret C dX8_set_78 ⟨hw_11, _, rfl, f⟩
      · have f := f.1 c_3
        refine ab_iload_n C 3 dX8_set_38 rfl rfl ?_
        refine ab_i2l C dX8_set_39 ?_
        refine ab_ldc2 C kw_t886 dX8_set_40 ?_
        refine ab_ldc2 C kw_t887 dX8_set_43 ?_
        refine ab_callS C (k := 0) (n := 0) (rest := []) [.long x3.toInt64, .long (-1 : Int64), .long (5 : Int64)] cl_X8_44 (mt_X8_in  hw f) ⟨rfl, rfl, Nat.le_of_ble_eq_true rfl, Nat.le_of_ble_eq_true rfl, Nat.zero_le _, Nat.zero_le _⟩ rfl rfl (Nat.le_of_ble_eq_true rfl) dX8_set_46 (ab_kp (k := 0) (n := 0) (fun v_12 f => ?_))
        refine ab_if_eq C (tgt := 56) dX8_set_49 (by decide) (fun c_13 => ?_) (fun c_13 => ?_)
        · have f := f.1 c_13
          refine ab_iconst C (v := (0 : Int32)) dX8_set_56 (by decide) ?_
          refine ab_istore C (lv' := [(4, .int (0 : Int32)), (0, .ref (G.1 + 105)), (1, .int x1), (2, .int x2), (3, .int x3)]) dX8_set_57 (by decide) rfl ?_
          refine ab_aload_n C 1 dX8_set_59 rfl rfl ?_
          refine ab_iload_n C 2 dX8_set_60 rfl rfl ?_
          refine ab_callV C (k := 0) (n := 0) (rest := []) [.int x1] cl_X8_98 (mt_X8_isBunk  hw f) rfl (by decide) kd_105 (wf_lt hw kd_105 rfl) ⟨rfl, rfl, Nat.le_of_ble_eq_true rfl, Nat.le_of_ble_eq_true rfl, Nat.zero_le _, Nat.zero_le _⟩ rfl rfl (Nat.le_of_ble_eq_true rfl) dX8_set_61 (ab_kp (k := 0) (n := 0) (fun v_14 f => ?_))
          refine ab_if_eq C (tgt := 72) dX8_set_64 (by decide) (fun c_15 => ?_) (fun c_15 => ?_)
          · have f := f.1 c_15
            refine ab_aload_n C 1 dX8_set_72 rfl rfl ?_
            refine ab_ldc C kw_t821 dX8_set_73 ?_
            refine ab_callV C (k := 0) (n := 0) (rest := []) [.int (-1000000001 : Int32)] cl_X8_84 (mt_X8_errs  hw f) rfl (by decide) kd_105 (wf_lt hw kd_105 rfl) ⟨rfl, rfl, Nat.le_of_ble_eq_true rfl, Nat.le_of_ble_eq_true rfl, Nat.zero_le _, Nat.zero_le _⟩ rfl rfl (Nat.le_of_ble_eq_true rfl) dX8_set_75 (ab_kh (k := 0) (n := 0) (fun v_16 h_17 hw_18 f => ?_))
            exact ab_iret C dX8_set_78 ⟨hw_18, _, rfl, f⟩
          · have f := f.2 c_15
            refine ab_iload C 0 dX8_set_67 rfl ?_
            refine ab_if_ne C (tgt := 79) dX8_set_69 (by decide) (fun z => absurd z (by decide)) (fun _ => ?_)
            refine ab_aload_n C 1 dX8_set_72 rfl rfl ?_
            refine ab_ldc C kw_t821 dX8_set_73 ?_
            refine ab_callV C (k := 0) (n := 0) (rest := []) [.int (-1000000001 : Int32)] cl_X8_84 (mt_X8_errs  hw f) rfl (by decide) kd_105 (wf_lt hw kd_105 rfl) ⟨rfl, rfl, Nat.le_of_ble_eq_true rfl, Nat.le_of_ble_eq_true rfl, Nat.zero_le _, Nat.zero_le _⟩ rfl rfl (Nat.le_of_ble_eq_true rfl) dX8_set_75 (ab_kh (k := 0) (n := 0) (fun v_19 h_20 hw_21 f => ?_))
            exact ab_iret C dX8_set_78 ⟨hw_21, _, rfl, f⟩
        · have f := f.2 c_13
          refine ab_iconst C (v := (1 : Int32)) dX8_set_52 (by decide) ?_
          refine ab_goto C (tgt := 57) dX8_set_53 (by decide) ?_
          refine ab_istore C (lv' := [(4, .int (1 : Int32)), (0, .ref (G.1 + 105)), (1, .int x1), (2, .int x2), (3, .int x3)]) dX8_set_57 (by decide) rfl ?_
          refine ab_aload_n C 1 dX8_set_59 rfl rfl ?_
          refine ab_iload_n C 2 dX8_set_60 rfl rfl ?_
          refine ab_callV C (k := 0) (n := 0) (rest := []) [.int x1] cl_X8_98 (mt_X8_isBunk  hw f) rfl (by decide) kd_105 (wf_lt hw kd_105 rfl) ⟨rfl, rfl, Nat.le_of_ble_eq_true rfl, Nat.le_of_ble_eq_true rfl, Nat.zero_le _, Nat.zero_le _⟩ rfl rfl (Nat.le_of_ble_eq_true rfl) dX8_set_61 (ab_kp (k := 0) (n := 0) (fun v_22 f => ?_))
          refine ab_if_eq C (tgt := 72) dX8_set_64 (by decide) (fun c_23 => ?_) (fun c_23 => ?_)
          · have f := f.1 c_23
            refine ab_aload_n C 1 dX8_set_72 rfl rfl ?_
            refine ab_ldc C kw_t821 dX8_set_73 ?_
            refine ab_callV C (k := 0) (n := 0) (rest := []) [.int (-1000000001 : Int32)] cl_X8_84 (mt_X8_errs  hw f) rfl (by decide) kd_105 (wf_lt hw kd_105 rfl) ⟨rfl, rfl, Nat.le_of_ble_eq_true rfl, Nat.le_of_ble_eq_true rfl, Nat.zero_le _, Nat.zero_le _⟩ rfl rfl (Nat.le_of_ble_eq_true rfl) dX8_set_75 (ab_kh (k := 0) (n := 0) (fun v_24 h_25 hw_26 f => ?_))
            exact ab_iret C dX8_set_78 ⟨hw_26, _, rfl, f⟩
          · have f := f.2 c_23
            refine ab_iload C 0 dX8_set_67 rfl ?_
            refine ab_if_ne C (tgt := 79) dX8_set_69 (by decide) (fun _ => ?_) (fun z => absurd z (by decide))
            refine ab_aload_n C 1 dX8_set_79 rfl rfl ?_
            refine ab_iload_n C 2 dX8_set_80 rfl rfl ?_
            refine ab_iload_n C 3 dX8_set_81 rfl rfl ?_
            refine ab_callV C (k := 0) (n := 0) (rest := []) [.int x1, .int x2] cl_X8_60 (mt_X8_its  hw f) rfl (by decide) kd_105 (wf_lt hw kd_105 rfl) ⟨rfl, rfl, Nat.le_of_ble_eq_true rfl, Nat.le_of_ble_eq_true rfl, Nat.zero_le _, Nat.zero_le _⟩ rfl rfl (Nat.le_of_ble_eq_true rfl) dX8_set_82 (ab_kp (k := 0) (n := 0) (fun v_27 f => ?_))
            refine ab_istore C (lv' := [(5, .int v_27), (4, .int (1 : Int32)), (0, .ref (G.1 + 105)), (1, .int x1), (2, .int x2), (3, .int x3)]) dX8_set_85 (by decide) rfl ?_
            refine ab_aload_n C 2 dX8_set_87 rfl rfl ?_
            refine ab_getR C (q := 106) fl_X8_7 rfl kd_105 (wf_lt hw kd_105 rfl) (wr_8_0 hw) dX8_set_88 ?_
            refine ab_iload_n C 3 dX8_set_91 rfl rfl ?_
            refine ab_iload_n C 4 dX8_set_92 rfl rfl ?_
            refine ab_callS C (k := 0) (n := 0) (rest := [.ref (G.1 + 106)]) [.int x1, .int x2] cl_X8_56 (mt_X8_at  hw f) ⟨rfl, rfl, Nat.le_of_ble_eq_true rfl, Nat.le_of_ble_eq_true rfl, Nat.zero_le _, Nat.zero_le _⟩ rfl rfl (Nat.le_of_ble_eq_true rfl) dX8_set_93 (ab_kp (k := 0) (n := 0) (fun v_28 f => ?_))
            refine ab_iload_n C 5 dX8_set_96 rfl rfl ?_
            obtain ⟨c_29, f⟩ := f
            refine ab_iast C (by rw [kd_106]; decide) (wf_lt hw kd_106 rfl) (wf_len hw kd_106 rfl rfl (by decide)) c_29 (j := v_28.toNatClampNeg) rfl dX8_set_97 (fun h_30 e_31 => ?_)
            have f := f h_30 e_31
            have hw_32 := wf_si e_31 hw
            refine ab_iload C 0 dX8_set_98 rfl ?_
            exact ab_iret C dX8_set_100 ⟨hw_32, _, rfl, f⟩
    · have f := f.1 c_2
      refine ab_iload_n C 3 dX8_set_21 rfl rfl ?_
      refine ab_i2l C dX8_set_22 ?_
      refine ab_lconst C (v := (0 : Int64)) dX8_set_23 (by decide) ?_
      refine ab_ldc2 C kw_t885 dX8_set_24 ?_
      refine ab_callS C (k := 0) (n := 0) (rest := []) [.long x3.toInt64, .long (0 : Int64), .long (9 : Int64)] cl_X8_44 (mt_X8_in  hw f) ⟨rfl, rfl, Nat.le_of_ble_eq_true rfl, Nat.le_of_ble_eq_true rfl, Nat.zero_le _, Nat.zero_le _⟩ rfl rfl (Nat.le_of_ble_eq_true rfl) dX8_set_27 (ab_kp (k := 0) (n := 0) (fun v_33 f => ?_))
      refine ab_goto C (tgt := 57) dX8_set_30 (by decide) ?_
      refine ab_istore C (lv' := [(4, .int v_33), (0, .ref (G.1 + 105)), (1, .int x1), (2, .int x2), (3, .int x3)]) dX8_set_57 (by decide) rfl ?_
      refine ab_aload_n C 1 dX8_set_59 rfl rfl ?_
      refine ab_iload_n C 2 dX8_set_60 rfl rfl ?_
      refine ab_callV C (k := 0) (n := 0) (rest := []) [.int x1] cl_X8_98 (mt_X8_isBunk  hw f) rfl (by decide) kd_105 (wf_lt hw kd_105 rfl) ⟨rfl, rfl, Nat.le_of_ble_eq_true rfl, Nat.le_of_ble_eq_true rfl, Nat.zero_le _, Nat.zero_le _⟩ rfl rfl (Nat.le_of_ble_eq_true rfl) dX8_set_61 (ab_kp (k := 0) (n := 0) (fun v_34 f => ?_))
      refine ab_if_eq C (tgt := 72) dX8_set_64 (by decide) (fun c_35 => ?_) (fun c_35 => ?_)
      · have f := f.1 c_35
        refine ab_aload_n C 1 dX8_set_72 rfl rfl ?_
        refine ab_ldc C kw_t821 dX8_set_73 ?_
        refine ab_callV C (k := 0) (n := 0) (rest := []) [.int (-1000000001 : Int32)] cl_X8_84 (mt_X8_errs  hw f) rfl (by decide) kd_105 (wf_lt hw kd_105 rfl) ⟨rfl, rfl, Nat.le_of_ble_eq_true rfl, Nat.le_of_ble_eq_true rfl, Nat.zero_le _, Nat.zero_le _⟩ rfl rfl (Nat.le_of_ble_eq_true rfl) dX8_set_75 (ab_kh (k := 0) (n := 0) (fun v_36 h_37 hw_38 f => ?_))
        exact ab_iret C dX8_set_78 ⟨hw_38, _, rfl, f⟩
      · have f := f.2 c_35
        refine ab_iload C 0 dX8_set_67 rfl ?_
        refine ab_if_ne C (tgt := 79) dX8_set_69 (by decide) (fun c_39 => ?_) (fun c_39 => ?_)
        · have f := f.2 c_39
          refine ab_aload_n C 1 dX8_set_79 rfl rfl ?_
          refine ab_iload_n C 2 dX8_set_80 rfl rfl ?_
          refine ab_iload_n C 3 dX8_set_81 rfl rfl ?_
          refine ab_callV C (k := 0) (n := 0) (rest := []) [.int x1, .int x2] cl_X8_60 (mt_X8_its  hw f) rfl (by decide) kd_105 (wf_lt hw kd_105 rfl) ⟨rfl, rfl, Nat.le_of_ble_eq_true rfl, Nat.le_of_ble_eq_true rfl, Nat.zero_le _, Nat.zero_le _⟩ rfl rfl (Nat.le_of_ble_eq_true rfl) dX8_set_82 (ab_kp (k := 0) (n := 0) (fun v_40 f => ?_))
          refine ab_istore C (lv' := [(5, .int v_40), (4, .int v_33), (0, .ref (G.1 + 105)), (1, .int x1), (2, .int x2), (3, .int x3)]) dX8_set_85 (by decide) rfl ?_
          refine ab_aload_n C 2 dX8_set_87 rfl rfl ?_
          refine ab_getR C (q := 106) fl_X8_7 rfl kd_105 (wf_lt hw kd_105 rfl) (wr_8_0 hw) dX8_set_88 ?_
          refine ab_iload_n C 3 dX8_set_91 rfl rfl ?_
          refine ab_iload_n C 4 dX8_set_92 rfl rfl ?_
          refine ab_callS C (k := 0) (n := 0) (rest := [.ref (G.1 + 106)]) [.int x1, .int x2] cl_X8_56 (mt_X8_at  hw f) ⟨rfl, rfl, Nat.le_of_ble_eq_true rfl, Nat.le_of_ble_eq_true rfl, Nat.zero_le _, Nat.zero_le _⟩ rfl rfl (Nat.le_of_ble_eq_true rfl) dX8_set_93 (ab_kp (k := 0) (n := 0) (fun v_41 f => ?_))
          refine ab_iload_n C 5 dX8_set_96 rfl rfl ?_
          obtain ⟨c_42, f⟩ := f
          refine ab_iast C (by rw [kd_106]; decide) (wf_lt hw kd_106 rfl) (wf_len hw kd_106 rfl rfl (by decide)) c_42 (j := v_41.toNatClampNeg) rfl dX8_set_97 (fun h_43 e_44 => ?_)
          have f := f h_43 e_44
          have hw_45 := wf_si e_44 hw
          refine ab_iload C 0 dX8_set_98 rfl ?_
          exact ab_iret C dX8_set_100 ⟨hw_45, _, rfl, f⟩
        · have f := f.1 c_39
          refine ab_aload_n C 1 dX8_set_72 rfl rfl ?_
          refine ab_ldc C kw_t821 dX8_set_73 ?_
          refine ab_callV C (k := 0) (n := 0) (rest := []) [.int (-1000000001 : Int32)] cl_X8_84 (mt_X8_errs  hw f) rfl (by decide) kd_105 (wf_lt hw kd_105 rfl) ⟨rfl, rfl, Nat.le_of_ble_eq_true rfl, Nat.le_of_ble_eq_true rfl, Nat.zero_le _, Nat.zero_le _⟩ rfl rfl (Nat.le_of_ble_eq_true rfl) dX8_set_75 (ab_kh (k := 0) (n := 0) (fun v_46 h_47 hw_48 f => ?_))
          exact ab_iret C dX8_set_78 ⟨hw_48, _, rfl, f⟩
  · have f := f.1 c_1
    refine ab_iload_n C 3 dX8_set_4 rfl rfl ?_
    refine ab_i2l C dX8_set_5 ?_
    refine ab_lconst C (v := (0 : Int64)) dX8_set_6 (by decide) ?_
    refine ab_ldc2 C kw_t879 dX8_set_7 ?_
    refine ab_callS C (k := 0) (n := 0) (rest := []) [.long x3.toInt64, .long (0 : Int64), .long (6 : Int64)] cl_X8_44 (mt_X8_in  hw f) ⟨rfl, rfl, Nat.le_of_ble_eq_true rfl, Nat.le_of_ble_eq_true rfl, Nat.zero_le _, Nat.zero_le _⟩ rfl rfl (Nat.le_of_ble_eq_true rfl) dX8_set_10 (ab_kp (k := 0) (n := 0) (fun v_49 f => ?_))
    refine ab_goto C (tgt := 57) dX8_set_13 (by decide) ?_
    refine ab_istore C (lv' := [(4, .int v_49), (0, .ref (G.1 + 105)), (1, .int x1), (2, .int x2), (3, .int x3)]) dX8_set_57 (by decide) rfl ?_
    refine ab_aload_n C 1 dX8_set_59 rfl rfl ?_
    refine ab_iload_n C 2 dX8_set_60 rfl rfl ?_
    refine ab_callV C (k := 0) (n := 0) (rest := []) [.int x1] cl_X8_98 (mt_X8_isBunk  hw f) rfl (by decide) kd_105 (wf_lt hw kd_105 rfl) ⟨rfl, rfl, Nat.le_of_ble_eq_true rfl, Nat.le_of_ble_eq_true rfl, Nat.zero_le _, Nat.zero_le _⟩ rfl rfl (Nat.le_of_ble_eq_true rfl) dX8_set_61 (ab_kp (k := 0) (n := 0) (fun v_50 f => ?_))
    refine ab_if_eq C (tgt := 72) dX8_set_64 (by decide) (fun c_51 => ?_) (fun c_51 => ?_)
    · have f := f.1 c_51
      refine ab_aload_n C 1 dX8_set_72 rfl rfl ?_
      refine ab_ldc C kw_t821 dX8_set_73 ?_
      refine ab_callV C (k := 0) (n := 0) (rest := []) [.int (-1000000001 : Int32)] cl_X8_84 (mt_X8_errs  hw f) rfl (by decide) kd_105 (wf_lt hw kd_105 rfl) ⟨rfl, rfl, Nat.le_of_ble_eq_true rfl, Nat.le_of_ble_eq_true rfl, Nat.zero_le _, Nat.zero_le _⟩ rfl rfl (Nat.le_of_ble_eq_true rfl) dX8_set_75 (ab_kh (k := 0) (n := 0) (fun v_52 h_53 hw_54 f => ?_))
      exact ab_iret C dX8_set_78 ⟨hw_54, _, rfl, f⟩
    · have f := f.2 c_51
      refine ab_iload C 0 dX8_set_67 rfl ?_
      refine ab_if_ne C (tgt := 79) dX8_set_69 (by decide) (fun c_55 => ?_) (fun c_55 => ?_)
      · have f := f.2 c_55
        refine ab_aload_n C 1 dX8_set_79 rfl rfl ?_
        refine ab_iload_n C 2 dX8_set_80 rfl rfl ?_
        refine ab_iload_n C 3 dX8_set_81 rfl rfl ?_
        refine ab_callV C (k := 0) (n := 0) (rest := []) [.int x1, .int x2] cl_X8_60 (mt_X8_its  hw f) rfl (by decide) kd_105 (wf_lt hw kd_105 rfl) ⟨rfl, rfl, Nat.le_of_ble_eq_true rfl, Nat.le_of_ble_eq_true rfl, Nat.zero_le _, Nat.zero_le _⟩ rfl rfl (Nat.le_of_ble_eq_true rfl) dX8_set_82 (ab_kp (k := 0) (n := 0) (fun v_56 f => ?_))
        refine ab_istore C (lv' := [(5, .int v_56), (4, .int v_49), (0, .ref (G.1 + 105)), (1, .int x1), (2, .int x2), (3, .int x3)]) dX8_set_85 (by decide) rfl ?_
        refine ab_aload_n C 2 dX8_set_87 rfl rfl ?_
        refine ab_getR C (q := 106) fl_X8_7 rfl kd_105 (wf_lt hw kd_105 rfl) (wr_8_0 hw) dX8_set_88 ?_
        refine ab_iload_n C 3 dX8_set_91 rfl rfl ?_
        refine ab_iload_n C 4 dX8_set_92 rfl rfl ?_
        refine ab_callS C (k := 0) (n := 0) (rest := [.ref (G.1 + 106)]) [.int x1, .int x2] cl_X8_56 (mt_X8_at  hw f) ⟨rfl, rfl, Nat.le_of_ble_eq_true rfl, Nat.le_of_ble_eq_true rfl, Nat.zero_le _, Nat.zero_le _⟩ rfl rfl (Nat.le_of_ble_eq_true rfl) dX8_set_93 (ab_kp (k := 0) (n := 0) (fun v_57 f => ?_))
        refine ab_iload_n C 5 dX8_set_96 rfl rfl ?_
        obtain ⟨c_58, f⟩ := f
        refine ab_iast C (by rw [kd_106]; decide) (wf_lt hw kd_106 rfl) (wf_len hw kd_106 rfl rfl (by decide)) c_58 (j := v_57.toNatClampNeg) rfl dX8_set_97 (fun h_59 e_60 => ?_)
        have f := f h_59 e_60
        have hw_61 := wf_si e_60 hw
        refine ab_iload C 0 dX8_set_98 rfl ?_
        exact ab_iret C dX8_set_100 ⟨hw_61, _, rfl, f⟩
      · have f := f.1 c_55
        refine ab_aload_n C 1 dX8_set_72 rfl rfl ?_
        refine ab_ldc C kw_t821 dX8_set_73 ?_
        refine ab_callV C (k := 0) (n := 0) (rest := []) [.int (-1000000001 : Int32)] cl_X8_84 (mt_X8_errs  hw f) rfl (by decide) kd_105 (wf_lt hw kd_105 rfl) ⟨rfl, rfl, Nat.le_of_ble_eq_true rfl, Nat.le_of_ble_eq_true rfl, Nat.zero_le _, Nat.zero_le _⟩ rfl rfl (Nat.le_of_ble_eq_true rfl) dX8_set_75 (ab_kh (k := 0) (n := 0) (fun v_62 h_63 hw_64 f => ?_))
        exact ab_iret C dX8_set_78 ⟨hw_64, _, rfl, f⟩
/-! X8_sheet -/
def rm_X8_sheet : Room := { frames := 4, cells := 0, slots := 0, locals := 145 }
def wp_X8_sheet_L105 (x1 : Int32) (x2 : Int32) (x3 : Int32) (Q : Int32 → hp_T → Prop) : Nat → Int32 → hp_T → Prop
  | 0 => fun _ _ => False
  | nn + 1 => fun y5 h => (((24 : Int32) ≤ y5 → (Q (1 : Int32) h)) ∧ (¬ ((24 : Int32) ≤ y5) → (vp_in (((24 : Int32) * x1) + y5) 96) ∧ (∀ h_20, h_20 = hp_si h 115 ((((24 : Int32) * x1) + y5).toNatClampNeg) (0 : Int32) → (wp_X8_sheet_L105 x1 x2 x3 Q nn) (y5 + (1 : Int32)) h_20)))
set_option maxRecDepth 100000 in
set_option maxHeartbeats 4000000 in
theorem bt_X8_sheet_L105 {l : Launch} {G : ab_G} {F : ab_F} {x1 : Int32} {x2 : Int32} {x3 : Int32} {Q : Int32 → hp_T → Prop}  (C : ab_C G F rm_X8_sheet cX8_sheet 6 RX8 (some .int) "sheet")   : ∀ (nn : Nat) (y5 : Int32) (h : hp_T), wf h → wp_X8_sheet_L105 x1 x2 x3 Q nn y5 h → ab_W l G F 6 (ab_MQ G F (po_h Q) 0 0) 0 0 h [(0, .ref (G.1 + 105)), (1, .int x1), (5, .int y5)] [] 105 := by
  intro nn
  induction nn with
  | zero =>
    intro y5 h hw f
    exact absurd f id
  | succ nn ih =>
    intro y5 h hw f
    unfold wp_X8_sheet_L105 at f
    refine ab_iload C 2 dX8_sheet_105 rfl ?_
    refine ab_bipush C (v := (24 : Int32)) dX8_sheet_107 (by decide) ?_
    refine ab_icmp_ge C (tgt := 131) dX8_sheet_109 (by decide) (fun c_18 => ?_) (fun c_18 => ?_)
    · have f := f.1 c_18
      refine ab_iconst C (v := (1 : Int32)) dX8_sheet_131 (by decide) ?_
      exact ab_iret C dX8_sheet_132 ⟨hw, _, rfl, f⟩
    · have f := f.2 c_18
      refine ab_aload_n C 0 dX8_sheet_112 rfl rfl ?_
      refine ab_getR C (q := 115) fl_X8_37 rfl kd_105 (wf_lt hw kd_105 rfl) (wr_8_20 hw) dX8_sheet_113 ?_
      refine ab_bipush C (v := (24 : Int32)) dX8_sheet_116 (by decide) ?_
      refine ab_iload_n C 1 dX8_sheet_118 rfl rfl ?_
      refine ab_imul C dX8_sheet_119 ?_
      refine ab_iload C 2 dX8_sheet_120 rfl ?_
      refine ab_iadd C dX8_sheet_122 ?_
      refine ab_iconst C (v := (0 : Int32)) dX8_sheet_123 (by decide) ?_
      obtain ⟨c_19, f⟩ := f
      refine ab_iast C (by rw [kd_115]; decide) (wf_lt hw kd_115 rfl) (wf_len hw kd_115 rfl rfl (by decide)) c_19 (j := (((24 : Int32) * x1) + y5).toNatClampNeg) rfl dX8_sheet_124 (fun h_20 e_21 => ?_)
      have f := f h_20 e_21
      have hw_22 := wf_si e_21 hw
      refine ab_iinc C (lv' := [(5, .int (y5 + (1 : Int32))), (0, .ref (G.1 + 105)), (1, .int x1)]) 2 (v := (y5 + (1 : Int32))) dX8_sheet_125 rfl rfl (by decide) rfl ?_
      refine ab_goto C (tgt := 105) dX8_sheet_128 (by decide) ?_
      refine ab_sub (lv' := [(0, .ref (G.1 + 105)), (1, .int x1), (5, .int (y5 + (1 : Int32)))]) [1, 2, 0] rfl ?_
      exact ih (y5 + (1 : Int32)) h_20  hw_22 f
def wp_X8_sheet_b63 (x1 : Int32) (x2 : Int32) (x3 : Int32) (Q : Int32 → hp_T → Prop) (h : hp_T) : Prop :=
  ((x2 = 0 → (vp_in x1 4) ∧ (∀ h_10, h_10 = hp_si h 113 x1.toNatClampNeg x2 → ((x2 = 0 → (vp_in x1 4) ∧ (∀ h_24, h_24 = hp_si h_10 114 x1.toNatClampNeg (0 : Int32) → (∃ n0, wp_X8_sheet_L105 x1 x2 x3 Q  n0 (0 : Int32) h_24))) ∧ (¬ (x2 = 0) → (vp_in x1 4) ∧ (∀ h_15, h_15 = hp_si h_10 114 x1.toNatClampNeg x3 → (∃ n0, wp_X8_sheet_L105 x1 x2 x3 Q  n0 (0 : Int32) h_15)))))) ∧ (¬ (x2 = 0) → ((x3 ≤ (24 : Int32) → (vp_in x1 4) ∧ (∀ h_29, h_29 = hp_si h 113 x1.toNatClampNeg x2 → ((x2 = 0 → (vp_in x1 4) ∧ (∀ h_38, h_38 = hp_si h_29 114 x1.toNatClampNeg (0 : Int32) → (∃ n0, wp_X8_sheet_L105 x1 x2 x3 Q  n0 (0 : Int32) h_38))) ∧ (¬ (x2 = 0) → (vp_in x1 4) ∧ (∀ h_34, h_34 = hp_si h_29 114 x1.toNatClampNeg x3 → (∃ n0, wp_X8_sheet_L105 x1 x2 x3 Q  n0 (0 : Int32) h_34)))))) ∧ (¬ (x3 ≤ (24 : Int32)) → wp_X8_errs (-1000000001 : Int32) h (fun v_41 h_42 => (Q v_41 h_42))))))
set_option maxRecDepth 100000 in
set_option maxHeartbeats 4000000 in
theorem bt_X8_sheet_b63 {l : Launch} {G : ab_G} {F : ab_F} {x1 : Int32} {x2 : Int32} {x3 : Int32} {Q : Int32 → hp_T → Prop}  (C : ab_C G F rm_X8_sheet cX8_sheet 6 RX8 (some .int) "sheet")   : ∀ (h : hp_T), wf h → wp_X8_sheet_b63 x1 x2 x3 Q h → ab_W l G F 6 (ab_MQ G F (po_h Q) 0 0) 0 0 h [(0, .ref (G.1 + 105)), (1, .int x1), (2, .int x2), (3, .int x3)] [] 63 := by
  intro h hw f
  unfold wp_X8_sheet_b63 at f
  refine ab_iload_n C 2 dX8_sheet_63 rfl rfl ?_
  refine ab_if_eq C (tgt := 80) dX8_sheet_64 (by decide) (fun c_8 => ?_) (fun c_8 => ?_)
  · have f := f.1 c_8
    refine ab_aload_n C 0 dX8_sheet_80 rfl rfl ?_
    refine ab_getR C (q := 113) fl_X8_31 rfl kd_105 (wf_lt hw kd_105 rfl) (wr_8_18 hw) dX8_sheet_81 ?_
    refine ab_iload_n C 1 dX8_sheet_84 rfl rfl ?_
    refine ab_iload_n C 2 dX8_sheet_85 rfl rfl ?_
    obtain ⟨c_9, f⟩ := f
    refine ab_iast C (by rw [kd_113]; decide) (wf_lt hw kd_113 rfl) (wf_len hw kd_113 rfl rfl (by decide)) c_9 (j := x1.toNatClampNeg) rfl dX8_sheet_86 (fun h_10 e_11 => ?_)
    have f := f h_10 e_11
    have hw_12 := wf_si e_11 hw
    refine ab_aload_n C 0 dX8_sheet_87 rfl rfl ?_
    refine ab_getR C (q := 114) fl_X8_34 rfl kd_105 (wf_lt hw_12 kd_105 rfl) (wr_8_19 hw_12) dX8_sheet_88 ?_
    refine ab_iload_n C 1 dX8_sheet_91 rfl rfl ?_
    refine ab_iload_n C 2 dX8_sheet_92 rfl rfl ?_
    refine ab_if_ne C (tgt := 100) dX8_sheet_93 (by decide) (fun c_13 => ?_) (fun c_13 => ?_)
    · have f := f.2 c_13
      refine ab_iload_n C 3 dX8_sheet_100 rfl rfl ?_
      obtain ⟨c_14, f⟩ := f
      refine ab_iast C (by rw [kd_114]; decide) (wf_lt hw_12 kd_114 rfl) (wf_len hw_12 kd_114 rfl rfl (by decide)) c_14 (j := x1.toNatClampNeg) rfl dX8_sheet_101 (fun h_15 e_16 => ?_)
      have f := f h_15 e_16
      have hw_17 := wf_si e_16 hw_12
      refine ab_iconst C (v := (0 : Int32)) dX8_sheet_102 (by decide) ?_
      refine ab_istore C (lv' := [(5, .int (0 : Int32)), (0, .ref (G.1 + 105)), (1, .int x1), (2, .int x2), (3, .int x3)]) dX8_sheet_103 (by decide) rfl ?_
      obtain ⟨n0, f⟩ := f
      refine ab_sub (lv' := [(0, .ref (G.1 + 105)), (1, .int x1), (5, .int (0 : Int32))]) [1, 2, 0] rfl ?_
      exact bt_X8_sheet_L105 C    n0 (0 : Int32) h_15  hw_17 f
    · have f := f.1 c_13
      refine ab_iconst C (v := (0 : Int32)) dX8_sheet_96 (by decide) ?_
      refine ab_goto C (tgt := 101) dX8_sheet_97 (by decide) ?_
      obtain ⟨c_23, f⟩ := f
      refine ab_iast C (by rw [kd_114]; decide) (wf_lt hw_12 kd_114 rfl) (wf_len hw_12 kd_114 rfl rfl (by decide)) c_23 (j := x1.toNatClampNeg) rfl dX8_sheet_101 (fun h_24 e_25 => ?_)
      have f := f h_24 e_25
      have hw_26 := wf_si e_25 hw_12
      refine ab_iconst C (v := (0 : Int32)) dX8_sheet_102 (by decide) ?_
      refine ab_istore C (lv' := [(5, .int (0 : Int32)), (0, .ref (G.1 + 105)), (1, .int x1), (2, .int x2), (3, .int x3)]) dX8_sheet_103 (by decide) rfl ?_
      obtain ⟨n0, f⟩ := f
      refine ab_sub (lv' := [(0, .ref (G.1 + 105)), (1, .int x1), (5, .int (0 : Int32))]) [1, 2, 0] rfl ?_
      exact bt_X8_sheet_L105 C    n0 (0 : Int32) h_24  hw_26 f
  · have f := f.2 c_8
    refine ab_iload_n C 3 dX8_sheet_67 rfl rfl ?_
    refine ab_bipush C (v := (24 : Int32)) dX8_sheet_68 (by decide) ?_
    refine ab_icmp_le C (tgt := 80) dX8_sheet_70 (by decide) (fun c_27 => ?_) (fun c_27 => ?_)
    · have f := f.1 c_27
      refine ab_aload_n C 0 dX8_sheet_80 rfl rfl ?_
      refine ab_getR C (q := 113) fl_X8_31 rfl kd_105 (wf_lt hw kd_105 rfl) (wr_8_18 hw) dX8_sheet_81 ?_
      refine ab_iload_n C 1 dX8_sheet_84 rfl rfl ?_
      refine ab_iload_n C 2 dX8_sheet_85 rfl rfl ?_
      obtain ⟨c_28, f⟩ := f
      refine ab_iast C (by rw [kd_113]; decide) (wf_lt hw kd_113 rfl) (wf_len hw kd_113 rfl rfl (by decide)) c_28 (j := x1.toNatClampNeg) rfl dX8_sheet_86 (fun h_29 e_30 => ?_)
      have f := f h_29 e_30
      have hw_31 := wf_si e_30 hw
      refine ab_aload_n C 0 dX8_sheet_87 rfl rfl ?_
      refine ab_getR C (q := 114) fl_X8_34 rfl kd_105 (wf_lt hw_31 kd_105 rfl) (wr_8_19 hw_31) dX8_sheet_88 ?_
      refine ab_iload_n C 1 dX8_sheet_91 rfl rfl ?_
      refine ab_iload_n C 2 dX8_sheet_92 rfl rfl ?_
      refine ab_if_ne C (tgt := 100) dX8_sheet_93 (by decide) (fun c_32 => ?_) (fun c_32 => ?_)
      · have f := f.2 c_32
        refine ab_iload_n C 3 dX8_sheet_100 rfl rfl ?_
        obtain ⟨c_33, f⟩ := f
        refine ab_iast C (by rw [kd_114]; decide) (wf_lt hw_31 kd_114 rfl) (wf_len hw_31 kd_114 rfl rfl (by decide)) c_33 (j := x1.toNatClampNeg) rfl dX8_sheet_101 (fun h_34 e_35 => ?_)
        have f := f h_34 e_35
        have hw_36 := wf_si e_35 hw_31
        refine ab_iconst C (v := (0 : Int32)) dX8_sheet_102 (by decide) ?_
        refine ab_istore C (lv' := [(5, .int (0 : Int32)), (0, .ref (G.1 + 105)), (1, .int x1), (2, .int x2), (3, .int x3)]) dX8_sheet_103 (by decide) rfl ?_
        obtain ⟨n0, f⟩ := f
        refine ab_sub (lv' := [(0, .ref (G.1 + 105)), (1, .int x1), (5, .int (0 : Int32))]) [1, 2, 0] rfl ?_
        exact bt_X8_sheet_L105 C    n0 (0 : Int32) h_34  hw_36 f
      · have f := f.1 c_32
        refine ab_iconst C (v := (0 : Int32)) dX8_sheet_96 (by decide) ?_
        refine ab_goto C (tgt := 101) dX8_sheet_97 (by decide) ?_
        obtain ⟨c_37, f⟩ := f
        refine ab_iast C (by rw [kd_114]; decide) (wf_lt hw_31 kd_114 rfl) (wf_len hw_31 kd_114 rfl rfl (by decide)) c_37 (j := x1.toNatClampNeg) rfl dX8_sheet_101 (fun h_38 e_39 => ?_)
        have f := f h_38 e_39
        have hw_40 := wf_si e_39 hw_31
        refine ab_iconst C (v := (0 : Int32)) dX8_sheet_102 (by decide) ?_
        refine ab_istore C (lv' := [(5, .int (0 : Int32)), (0, .ref (G.1 + 105)), (1, .int x1), (2, .int x2), (3, .int x3)]) dX8_sheet_103 (by decide) rfl ?_
        obtain ⟨n0, f⟩ := f
        refine ab_sub (lv' := [(0, .ref (G.1 + 105)), (1, .int x1), (5, .int (0 : Int32))]) [1, 2, 0] rfl ?_
        exact bt_X8_sheet_L105 C    n0 (0 : Int32) h_38  hw_40 f
    · have f := f.2 c_27
      refine ab_aload_n C 0 dX8_sheet_73 rfl rfl ?_
      refine ab_ldc C kw_t821 dX8_sheet_74 ?_
      refine ab_callV C (k := 0) (n := 0) (rest := []) [.int (-1000000001 : Int32)] cl_X8_84 (mt_X8_errs  hw f) rfl (by decide) kd_105 (wf_lt hw kd_105 rfl) ⟨rfl, rfl, Nat.le_of_ble_eq_true rfl, Nat.le_of_ble_eq_true rfl, Nat.zero_le _, Nat.zero_le _⟩ rfl rfl (Nat.le_of_ble_eq_true rfl) dX8_sheet_76 (ab_kh (k := 0) (n := 0) (fun v_41 h_42 hw_43 f => ?_))
      exact ab_iret C dX8_sheet_79 ⟨hw_43, _, rfl, f⟩
def wp_X8_sheet (x1 : Int32) (x2 : Int32) (x3 : Int32) (h : hp_T) (Q : Int32 → hp_T → Prop) : Prop :=
  wp_X8_isSheet x1 h (fun v_1 => ((v_1 = 0 → wp_X8_errs (-1000000001 : Int32) h (fun v_3 h_4 => (Q v_3 h_4))) ∧ (¬ (v_1 = 0) → ((x2 = 0 → ((x2 = 0 → (wp_X8_sheet_b63 x1 x2 x3 Q  h)) ∧ (¬ (x2 = 0) → ((0 ≤ x3 → (wp_X8_sheet_b63 x1 x2 x3 Q  h)) ∧ (¬ (0 ≤ x3) → wp_X8_errs (-1000000003 : Int32) h (fun v_45 h_46 => (Q v_45 h_46))))))) ∧ (¬ (x2 = 0) → ((x2 = (8 : Int32) → ((x2 = 0 → (wp_X8_sheet_b63 x1 x2 x3 Q  h)) ∧ (¬ (x2 = 0) → ((0 ≤ x3 → (wp_X8_sheet_b63 x1 x2 x3 Q  h)) ∧ (¬ (0 ≤ x3) → wp_X8_errs (-1000000003 : Int32) h (fun v_51 h_52 => (Q v_51 h_52))))))) ∧ (¬ (x2 = (8 : Int32)) → ((x2 = (16 : Int32) → ((x2 = 0 → (wp_X8_sheet_b63 x1 x2 x3 Q  h)) ∧ (¬ (x2 = 0) → ((0 ≤ x3 → (wp_X8_sheet_b63 x1 x2 x3 Q  h)) ∧ (¬ (0 ≤ x3) → wp_X8_errs (-1000000003 : Int32) h (fun v_57 h_58 => (Q v_57 h_58))))))) ∧ (¬ (x2 = (16 : Int32)) → ((x2 = (32 : Int32) → ((x2 = 0 → (wp_X8_sheet_b63 x1 x2 x3 Q  h)) ∧ (¬ (x2 = 0) → ((0 ≤ x3 → (wp_X8_sheet_b63 x1 x2 x3 Q  h)) ∧ (¬ (0 ≤ x3) → wp_X8_errs (-1000000003 : Int32) h (fun v_66 h_67 => (Q v_66 h_67))))))) ∧ (¬ (x2 = (32 : Int32)) → wp_X8_errs (-1000000001 : Int32) h (fun v_61 h_62 => (Q v_61 h_62)))))))))))))
set_option maxRecDepth 100000 in
set_option maxHeartbeats 4000000 in
theorem mt_X8_sheet {l : Launch} {G : ab_G} {x1 : Int32} {x2 : Int32} {x3 : Int32} {h : hp_T} {Q : Int32 → hp_T → Prop} (hw : wf h) (f : wp_X8_sheet x1 x2 x3 h Q) : ab_M l G yX8_sheet cX8_sheet 6 (some .int) rm_X8_sheet 0 0 [.ref (G.1 + 105), .int x1, .int x2, .int x3] h (po_h Q) := by
  refine ab_intro (own := RX8) (nm := "sheet") rfl rfl rfl (Nat.le_of_ble_eq_true rfl) (fun F C => ?_)
  show ab_W l G F 6 (ab_MQ G F (po_h Q) 0 0) 0 0 h [(0, .ref (G.1 + 105)), (1, .int x1), (2, .int x2), (3, .int x3)] [] 0
  unfold wp_X8_sheet at f
  refine ab_iload_n C 1 dX8_sheet_0 rfl rfl ?_
  refine ab_callS C (k := 0) (n := 0) (rest := []) [.int x1] cl_X8_303 (mt_X8_isSheet  hw f) ⟨rfl, rfl, Nat.le_of_ble_eq_true rfl, Nat.le_of_ble_eq_true rfl, Nat.zero_le _, Nat.zero_le _⟩ rfl rfl (Nat.le_of_ble_eq_true rfl) dX8_sheet_1 (ab_kp (k := 0) (n := 0) (fun v_1 f => ?_))
  refine ab_if_eq C (tgt := 33) dX8_sheet_4 (by decide) (fun c_2 => ?_) (fun c_2 => ?_)
  · have f := f.1 c_2
    refine ab_iconst C (v := (0 : Int32)) dX8_sheet_33 (by decide) ?_
    refine ab_istore C (lv' := [(4, .int (0 : Int32)), (0, .ref (G.1 + 105)), (1, .int x1), (2, .int x2), (3, .int x3)]) dX8_sheet_34 (by decide) rfl ?_
    refine ab_iload C 0 dX8_sheet_36 rfl ?_
    refine ab_if_ne C (tgt := 48) dX8_sheet_38 (by decide) (fun z => absurd z (by decide)) (fun _ => ?_)
    refine ab_aload_n C 1 dX8_sheet_41 rfl rfl ?_
    refine ab_ldc C kw_t821 dX8_sheet_42 ?_
    refine ab_callV C (k := 0) (n := 0) (rest := []) [.int (-1000000001 : Int32)] cl_X8_84 (mt_X8_errs  hw f) rfl (by decide) kd_105 (wf_lt hw kd_105 rfl) ⟨rfl, rfl, Nat.le_of_ble_eq_true rfl, Nat.le_of_ble_eq_true rfl, Nat.zero_le _, Nat.zero_le _⟩ rfl rfl (Nat.le_of_ble_eq_true rfl) dX8_sheet_44 (ab_kh (k := 0) (n := 0) (fun v_3 h_4 hw_5 f => ?_))
    exact ab_iret C dX8_sheet_47 ⟨hw_5, _, rfl, f⟩
  · have f := f.2 c_2
    refine ab_iload_n C 2 dX8_sheet_7 rfl rfl ?_
    refine ab_if_eq C (tgt := 29) dX8_sheet_8 (by decide) (fun c_6 => ?_) (fun c_6 => ?_)
    · have f := f.1 c_6
      refine ab_iconst C (v := (1 : Int32)) dX8_sheet_29 (by decide) ?_
      refine ab_goto C (tgt := 34) dX8_sheet_30 (by decide) ?_
      refine ab_istore C (lv' := [(4, .int (1 : Int32)), (0, .ref (G.1 + 105)), (1, .int x1), (2, .int x2), (3, .int x3)]) dX8_sheet_34 (by decide) rfl ?_
      refine ab_iload C 0 dX8_sheet_36 rfl ?_
      refine ab_if_ne C (tgt := 48) dX8_sheet_38 (by decide) (fun _ => ?_) (fun z => absurd z (by decide))
      refine ab_iload_n C 3 dX8_sheet_48 rfl rfl ?_
      refine ab_if_eq C (tgt := 63) dX8_sheet_49 (by decide) (fun c_7 => ?_) (fun c_7 => ?_)
      · have f := f.1 c_7
        refine ab_sub (lv' := [(0, .ref (G.1 + 105)), (1, .int x1), (2, .int x2), (3, .int x3)]) [1, 2, 3, 4] rfl ?_
        exact bt_X8_sheet_b63 C     h  hw f
      · have f := f.2 c_7
        refine ab_iload_n C 4 dX8_sheet_52 rfl rfl ?_
        refine ab_if_ge C (tgt := 63) dX8_sheet_53 (by decide) (fun c_44 => ?_) (fun c_44 => ?_)
        · have f := f.1 c_44
          refine ab_sub (lv' := [(0, .ref (G.1 + 105)), (1, .int x1), (2, .int x2), (3, .int x3)]) [1, 2, 3, 4] rfl ?_
          exact bt_X8_sheet_b63 C     h  hw f
        · have f := f.2 c_44
          refine ab_aload_n C 1 dX8_sheet_56 rfl rfl ?_
          refine ab_ldc C kw_t1021 dX8_sheet_57 ?_
          refine ab_callV C (k := 0) (n := 0) (rest := []) [.int (-1000000003 : Int32)] cl_X8_84 (mt_X8_errs  hw f) rfl (by decide) kd_105 (wf_lt hw kd_105 rfl) ⟨rfl, rfl, Nat.le_of_ble_eq_true rfl, Nat.le_of_ble_eq_true rfl, Nat.zero_le _, Nat.zero_le _⟩ rfl rfl (Nat.le_of_ble_eq_true rfl) dX8_sheet_59 (ab_kh (k := 0) (n := 0) (fun v_45 h_46 hw_47 f => ?_))
          exact ab_iret C dX8_sheet_62 ⟨hw_47, _, rfl, f⟩
    · have f := f.2 c_6
      refine ab_iload_n C 2 dX8_sheet_11 rfl rfl ?_
      refine ab_bipush C (v := (8 : Int32)) dX8_sheet_12 (by decide) ?_
      refine ab_icmp_eq C (tgt := 29) dX8_sheet_14 (by decide) (fun c_48 => ?_) (fun c_48 => ?_)
      · have f := f.1 c_48
        refine ab_iconst C (v := (1 : Int32)) dX8_sheet_29 (by decide) ?_
        refine ab_goto C (tgt := 34) dX8_sheet_30 (by decide) ?_
        refine ab_istore C (lv' := [(4, .int (1 : Int32)), (0, .ref (G.1 + 105)), (1, .int x1), (2, .int x2), (3, .int x3)]) dX8_sheet_34 (by decide) rfl ?_
        refine ab_iload C 0 dX8_sheet_36 rfl ?_
        refine ab_if_ne C (tgt := 48) dX8_sheet_38 (by decide) (fun _ => ?_) (fun z => absurd z (by decide))
        refine ab_iload_n C 3 dX8_sheet_48 rfl rfl ?_
        refine ab_if_eq C (tgt := 63) dX8_sheet_49 (by decide) (fun c_49 => ?_) (fun c_49 => ?_)
        · have f := f.1 c_49
          refine ab_sub (lv' := [(0, .ref (G.1 + 105)), (1, .int x1), (2, .int x2), (3, .int x3)]) [1, 2, 3, 4] rfl ?_
          exact bt_X8_sheet_b63 C     h  hw f
        · have f := f.2 c_49
          refine ab_iload_n C 4 dX8_sheet_52 rfl rfl ?_
          refine ab_if_ge C (tgt := 63) dX8_sheet_53 (by decide) (fun c_50 => ?_) (fun c_50 => ?_)
          · have f := f.1 c_50
            refine ab_sub (lv' := [(0, .ref (G.1 + 105)), (1, .int x1), (2, .int x2), (3, .int x3)]) [1, 2, 3, 4] rfl ?_
            exact bt_X8_sheet_b63 C     h  hw f
          · have f := f.2 c_50
            refine ab_aload_n C 1 dX8_sheet_56 rfl rfl ?_
            refine ab_ldc C kw_t1021 dX8_sheet_57 ?_
            refine ab_callV C (k := 0) (n := 0) (rest := []) [.int (-1000000003 : Int32)] cl_X8_84 (mt_X8_errs  hw f) rfl (by decide) kd_105 (wf_lt hw kd_105 rfl) ⟨rfl, rfl, Nat.le_of_ble_eq_true rfl, Nat.le_of_ble_eq_true rfl, Nat.zero_le _, Nat.zero_le _⟩ rfl rfl (Nat.le_of_ble_eq_true rfl) dX8_sheet_59 (ab_kh (k := 0) (n := 0) (fun v_51 h_52 hw_53 f => ?_))
            exact ab_iret C dX8_sheet_62 ⟨hw_53, _, rfl, f⟩
      · have f := f.2 c_48
        refine ab_iload_n C 2 dX8_sheet_17 rfl rfl ?_
        refine ab_bipush C (v := (16 : Int32)) dX8_sheet_18 (by decide) ?_
        refine ab_icmp_eq C (tgt := 29) dX8_sheet_20 (by decide) (fun c_54 => ?_) (fun c_54 => ?_)
        · have f := f.1 c_54
          refine ab_iconst C (v := (1 : Int32)) dX8_sheet_29 (by decide) ?_
          refine ab_goto C (tgt := 34) dX8_sheet_30 (by decide) ?_
          refine ab_istore C (lv' := [(4, .int (1 : Int32)), (0, .ref (G.1 + 105)), (1, .int x1), (2, .int x2), (3, .int x3)]) dX8_sheet_34 (by decide) rfl ?_
          refine ab_iload C 0 dX8_sheet_36 rfl ?_
          refine ab_if_ne C (tgt := 48) dX8_sheet_38 (by decide) (fun _ => ?_) (fun z => absurd z (by decide))
          refine ab_iload_n C 3 dX8_sheet_48 rfl rfl ?_
          refine ab_if_eq C (tgt := 63) dX8_sheet_49 (by decide) (fun c_55 => ?_) (fun c_55 => ?_)
          · have f := f.1 c_55
            refine ab_sub (lv' := [(0, .ref (G.1 + 105)), (1, .int x1), (2, .int x2), (3, .int x3)]) [1, 2, 3, 4] rfl ?_
            exact bt_X8_sheet_b63 C     h  hw f
          · have f := f.2 c_55
            refine ab_iload_n C 4 dX8_sheet_52 rfl rfl ?_
            refine ab_if_ge C (tgt := 63) dX8_sheet_53 (by decide) (fun c_56 => ?_) (fun c_56 => ?_)
            · have f := f.1 c_56
              refine ab_sub (lv' := [(0, .ref (G.1 + 105)), (1, .int x1), (2, .int x2), (3, .int x3)]) [1, 2, 3, 4] rfl ?_
              exact bt_X8_sheet_b63 C     h  hw f
            · have f := f.2 c_56
              refine ab_aload_n C 1 dX8_sheet_56 rfl rfl ?_
              refine ab_ldc C kw_t1021 dX8_sheet_57 ?_
              refine ab_callV C (k := 0) (n := 0) (rest := []) [.int (-1000000003 : Int32)] cl_X8_84 (mt_X8_errs  hw f) rfl (by decide) kd_105 (wf_lt hw kd_105 rfl) ⟨rfl, rfl, Nat.le_of_ble_eq_true rfl, Nat.le_of_ble_eq_true rfl, Nat.zero_le _, Nat.zero_le _⟩ rfl rfl (Nat.le_of_ble_eq_true rfl) dX8_sheet_59 (ab_kh (k := 0) (n := 0) (fun v_57 h_58 hw_59 f => ?_))
              exact ab_iret C dX8_sheet_62 ⟨hw_59, _, rfl, f⟩
        · have f := f.2 c_54
          refine ab_iload_n C 2 dX8_sheet_23 rfl rfl ?_
          refine ab_bipush C (v := (32 : Int32)) dX8_sheet_24 (by decide) ?_
          refine ab_icmp_ne C (tgt := 33) dX8_sheet_26 (by decide) (fun c_60 => ?_) (fun c_60 => ?_)
          · have f := f.2 c_60
            refine ab_iconst C (v := (0 : Int32)) dX8_sheet_33 (by decide) ?_
            refine ab_istore C (lv' := [(4, .int (0 : Int32)), (0, .ref (G.1 + 105)), (1, .int x1), (2, .int x2), (3, .int x3)]) dX8_sheet_34 (by decide) rfl ?_
            refine ab_iload C 0 dX8_sheet_36 rfl ?_
            refine ab_if_ne C (tgt := 48) dX8_sheet_38 (by decide) (fun z => absurd z (by decide)) (fun _ => ?_)
            refine ab_aload_n C 1 dX8_sheet_41 rfl rfl ?_
            refine ab_ldc C kw_t821 dX8_sheet_42 ?_
            refine ab_callV C (k := 0) (n := 0) (rest := []) [.int (-1000000001 : Int32)] cl_X8_84 (mt_X8_errs  hw f) rfl (by decide) kd_105 (wf_lt hw kd_105 rfl) ⟨rfl, rfl, Nat.le_of_ble_eq_true rfl, Nat.le_of_ble_eq_true rfl, Nat.zero_le _, Nat.zero_le _⟩ rfl rfl (Nat.le_of_ble_eq_true rfl) dX8_sheet_44 (ab_kh (k := 0) (n := 0) (fun v_61 h_62 hw_63 f => ?_))
            exact ab_iret C dX8_sheet_47 ⟨hw_63, _, rfl, f⟩
          · have f := f.1 c_60
            refine ab_iconst C (v := (1 : Int32)) dX8_sheet_29 (by decide) ?_
            refine ab_goto C (tgt := 34) dX8_sheet_30 (by decide) ?_
            refine ab_istore C (lv' := [(4, .int (1 : Int32)), (0, .ref (G.1 + 105)), (1, .int x1), (2, .int x2), (3, .int x3)]) dX8_sheet_34 (by decide) rfl ?_
            refine ab_iload C 0 dX8_sheet_36 rfl ?_
            refine ab_if_ne C (tgt := 48) dX8_sheet_38 (by decide) (fun _ => ?_) (fun z => absurd z (by decide))
            refine ab_iload_n C 3 dX8_sheet_48 rfl rfl ?_
            refine ab_if_eq C (tgt := 63) dX8_sheet_49 (by decide) (fun c_64 => ?_) (fun c_64 => ?_)
            · have f := f.1 c_64
              refine ab_sub (lv' := [(0, .ref (G.1 + 105)), (1, .int x1), (2, .int x2), (3, .int x3)]) [1, 2, 3, 4] rfl ?_
              exact bt_X8_sheet_b63 C     h  hw f
            · have f := f.2 c_64
              refine ab_iload_n C 4 dX8_sheet_52 rfl rfl ?_
              refine ab_if_ge C (tgt := 63) dX8_sheet_53 (by decide) (fun c_65 => ?_) (fun c_65 => ?_)
              · have f := f.1 c_65
                refine ab_sub (lv' := [(0, .ref (G.1 + 105)), (1, .int x1), (2, .int x2), (3, .int x3)]) [1, 2, 3, 4] rfl ?_
                exact bt_X8_sheet_b63 C     h  hw f
              · have f := f.2 c_65
                refine ab_aload_n C 1 dX8_sheet_56 rfl rfl ?_
                refine ab_ldc C kw_t1021 dX8_sheet_57 ?_
                refine ab_callV C (k := 0) (n := 0) (rest := []) [.int (-1000000003 : Int32)] cl_X8_84 (mt_X8_errs  hw f) rfl (by decide) kd_105 (wf_lt hw kd_105 rfl) ⟨rfl, rfl, Nat.le_of_ble_eq_true rfl, Nat.le_of_ble_eq_true rfl, Nat.zero_le _, Nat.zero_le _⟩ rfl rfl (Nat.le_of_ble_eq_true rfl) dX8_sheet_59 (ab_kh (k := 0) (n := 0) (fun v_66 h_67 hw_68 f => ?_))
                exact ab_iret C dX8_sheet_62 ⟨hw_68, _, rfl, f⟩
/-! X8_storm -/
def rm_X8_storm : Room := { frames := 7, cells := 0, slots := 0, locals := 214 }
def wp_X8_storm_L41 (x1 : Int32) (Q : Int32 → hp_T → Prop) (lp_24 : Int32 → Int32 → Int32 → hp_T → Prop) : Nat → Int32 → Int32 → Int32 → Int32 → hp_T → Prop
  | 0 => fun _ _ _ _ _ => False
  | nn + 1 => fun y2 y3 y4 y5 h => (((hp_i h 106 0) ≤ y5 → lp_24 y2 y3 (y4 + (1 : Int32)) h) ∧ (¬ ((hp_i h 106 0) ≤ y5) → wp_X8_isDoneWithout y4 y5 h (fun v_10 => ((v_10 = 0 → (wp_X8_storm_L41 x1 Q lp_24 nn) y2 y3 y4 (y5 + (1 : Int32)) h) ∧ (¬ (v_10 = 0) → ((0 ≤ y3 → (wp_X8_storm_L41 x1 Q lp_24 nn) (y2 + (1 : Int32)) y3 y4 (y5 + (1 : Int32)) h) ∧ (¬ (0 ≤ y3) → (wp_X8_storm_L41 x1 Q lp_24 nn) (y2 + (1 : Int32)) (((10 : Int32) * y4) + y5) y4 (y5 + (1 : Int32)) h)))))))
set_option maxRecDepth 100000 in
set_option maxHeartbeats 4000000 in
theorem bt_X8_storm_L41 {l : Launch} {G : ab_G} {F : ab_F} {x1 : Int32} {Q : Int32 → hp_T → Prop} {lp_24 : Int32 → Int32 → Int32 → hp_T → Prop} (C : ab_C G F rm_X8_storm cX8_storm 6 RX8 (some .int) "storm")  (il_24 : ∀ (y2 : Int32) (y3 : Int32) (y4 : Int32) (h : hp_T), wf h → lp_24 y2 y3 y4 h → ab_W l G F 6 (ab_MQ G F (po_h Q) 0 0) 0 0 h [(0, .ref (G.1 + 105)), (1, .int x1), (2, .int y2), (3, .int y3), (4, .int y4)] [] 24) : ∀ (nn : Nat) (y2 : Int32) (y3 : Int32) (y4 : Int32) (y5 : Int32) (h : hp_T), wf h → wp_X8_storm_L41 x1 Q lp_24 nn y2 y3 y4 y5 h → ab_W l G F 6 (ab_MQ G F (po_h Q) 0 0) 0 0 h [(0, .ref (G.1 + 105)), (1, .int x1), (2, .int y2), (3, .int y3), (4, .int y4), (5, .int y5)] [] 41 := by
  intro nn
  induction nn with
  | zero =>
    intro y2 y3 y4 y5 h hw f
    exact absurd f id
  | succ nn ih =>
    intro y2 y3 y4 y5 h hw f
    unfold wp_X8_storm_L41 at f
    refine ab_iload C 5 dX8_storm_41 rfl ?_
    refine ab_aload_n C 0 dX8_storm_43 rfl rfl ?_
    refine ab_getR C (q := 106) fl_X8_7 rfl kd_105 (wf_lt hw kd_105 rfl) (wr_8_0 hw) dX8_storm_44 ?_
    refine ab_iconst C (v := (0 : Int32)) dX8_storm_47 (by decide) ?_
    refine ab_iald C (by rw [kd_106]; decide) (wf_lt hw kd_106 rfl) (wf_len hw kd_106 rfl rfl (by decide)) (vp_lit (by decide)) (j := 0) (by decide) dX8_storm_48 ?_
    refine ab_icmp_ge C (tgt := 89) dX8_storm_49 (by decide) (fun c_9 => ?_) (fun c_9 => ?_)
    · have f := f.1 c_9
      refine ab_iinc C (lv' := [(4, .int (y4 + (1 : Int32))), (0, .ref (G.1 + 105)), (1, .int x1), (2, .int y2), (3, .int y3), (5, .int y5)]) 4 (v := (y4 + (1 : Int32))) dX8_storm_89 rfl rfl (by decide) rfl ?_
      refine ab_goto C (tgt := 24) dX8_storm_92 (by decide) ?_
      refine ab_sub (lv' := [(0, .ref (G.1 + 105)), (1, .int x1), (2, .int y2), (3, .int y3), (4, .int (y4 + (1 : Int32)))]) [1, 2, 3, 4, 0] rfl ?_
      exact il_24 y2 y3 (y4 + (1 : Int32)) h  hw f
    · have f := f.2 c_9
      refine ab_aload_n C 0 dX8_storm_52 rfl rfl ?_
      refine ab_iload C 4 dX8_storm_53 rfl ?_
      refine ab_iload C 5 dX8_storm_55 rfl ?_
      refine ab_callV C (k := 0) (n := 0) (rest := []) [.int y4, .int y5] cl_X8_269 (mt_X8_isDoneWithout  hw f) rfl (by decide) kd_105 (wf_lt hw kd_105 rfl) ⟨rfl, rfl, Nat.le_of_ble_eq_true rfl, Nat.le_of_ble_eq_true rfl, Nat.zero_le _, Nat.zero_le _⟩ rfl rfl (Nat.le_of_ble_eq_true rfl) dX8_storm_57 (ab_kp (k := 0) (n := 0) (fun v_10 f => ?_))
      refine ab_if_eq C (tgt := 83) dX8_storm_60 (by decide) (fun c_11 => ?_) (fun c_11 => ?_)
      · have f := f.1 c_11
        refine ab_iinc C (lv' := [(5, .int (y5 + (1 : Int32))), (0, .ref (G.1 + 105)), (1, .int x1), (2, .int y2), (3, .int y3), (4, .int y4)]) 5 (v := (y5 + (1 : Int32))) dX8_storm_83 rfl rfl (by decide) rfl ?_
        refine ab_goto C (tgt := 41) dX8_storm_86 (by decide) ?_
        refine ab_sub (lv' := [(0, .ref (G.1 + 105)), (1, .int x1), (2, .int y2), (3, .int y3), (4, .int y4), (5, .int (y5 + (1 : Int32)))]) [1, 2, 3, 4, 5, 0] rfl ?_
        exact ih y2 y3 y4 (y5 + (1 : Int32)) h  hw f
      · have f := f.2 c_11
        refine ab_iinc C (lv' := [(2, .int (y2 + (1 : Int32))), (0, .ref (G.1 + 105)), (1, .int x1), (3, .int y3), (4, .int y4), (5, .int y5)]) 2 (v := (y2 + (1 : Int32))) dX8_storm_63 rfl rfl (by decide) rfl ?_
        refine ab_iload_n C 3 dX8_storm_66 rfl rfl ?_
        refine ab_if_ge C (tgt := 81) dX8_storm_67 (by decide) (fun c_12 => ?_) (fun c_12 => ?_)
        · have f := f.1 c_12
          refine ab_iload_n C 3 dX8_storm_81 rfl rfl ?_
          refine ab_istore_n C (lv' := [(3, .int y3), (2, .int (y2 + (1 : Int32))), (0, .ref (G.1 + 105)), (1, .int x1), (4, .int y4), (5, .int y5)]) dX8_storm_82 rfl (by decide) rfl ?_
          refine ab_iinc C (lv' := [(5, .int (y5 + (1 : Int32))), (3, .int y3), (2, .int (y2 + (1 : Int32))), (0, .ref (G.1 + 105)), (1, .int x1), (4, .int y4)]) 5 (v := (y5 + (1 : Int32))) dX8_storm_83 rfl rfl (by decide) rfl ?_
          refine ab_goto C (tgt := 41) dX8_storm_86 (by decide) ?_
          refine ab_sub (lv' := [(0, .ref (G.1 + 105)), (1, .int x1), (2, .int (y2 + (1 : Int32))), (3, .int y3), (4, .int y4), (5, .int (y5 + (1 : Int32)))]) [3, 4, 2, 1, 5, 0] rfl ?_
          exact ih (y2 + (1 : Int32)) y3 y4 (y5 + (1 : Int32)) h  hw f
        · have f := f.2 c_12
          refine ab_bipush C (v := (10 : Int32)) dX8_storm_70 (by decide) ?_
          refine ab_iload C 4 dX8_storm_72 rfl ?_
          refine ab_imul C dX8_storm_74 ?_
          refine ab_iload C 5 dX8_storm_75 rfl ?_
          refine ab_iadd C dX8_storm_77 ?_
          refine ab_goto C (tgt := 82) dX8_storm_78 (by decide) ?_
          refine ab_istore_n C (lv' := [(3, .int (((10 : Int32) * y4) + y5)), (2, .int (y2 + (1 : Int32))), (0, .ref (G.1 + 105)), (1, .int x1), (4, .int y4), (5, .int y5)]) dX8_storm_82 rfl (by decide) rfl ?_
          refine ab_iinc C (lv' := [(5, .int (y5 + (1 : Int32))), (3, .int (((10 : Int32) * y4) + y5)), (2, .int (y2 + (1 : Int32))), (0, .ref (G.1 + 105)), (1, .int x1), (4, .int y4)]) 5 (v := (y5 + (1 : Int32))) dX8_storm_83 rfl rfl (by decide) rfl ?_
          refine ab_goto C (tgt := 41) dX8_storm_86 (by decide) ?_
          refine ab_sub (lv' := [(0, .ref (G.1 + 105)), (1, .int x1), (2, .int (y2 + (1 : Int32))), (3, .int (((10 : Int32) * y4) + y5)), (4, .int y4), (5, .int (y5 + (1 : Int32)))]) [3, 4, 2, 1, 5, 0] rfl ?_
          exact ih (y2 + (1 : Int32)) (((10 : Int32) * y4) + y5) y4 (y5 + (1 : Int32)) h  hw f
def wp_X8_storm_L24 (x1 : Int32) (Q : Int32 → hp_T → Prop) : Nat → Int32 → Int32 → Int32 → hp_T → Prop
  | 0 => fun _ _ _ _ => False
  | nn + 1 => fun y2 y3 y4 h => (((hp_i h 106 0) ≤ y4 → ((x1 = 0 → (Q y2 h)) ∧ (¬ (x1 = 0) → ((0 ≤ y3 → (Q y3 h)) ∧ (¬ (0 ≤ y3) → wp_X8_errs (-1000000002 : Int32) h (fun v_6 h_7 => (Q v_6 h_7))))))) ∧ (¬ ((hp_i h 106 0) ≤ y4) → (∃ n0, wp_X8_storm_L41 x1 Q (wp_X8_storm_L24 x1 Q nn) n0 y2 y3 y4 (y4 + (1 : Int32)) h)))
set_option maxRecDepth 100000 in
set_option maxHeartbeats 4000000 in
theorem bt_X8_storm_L24 {l : Launch} {G : ab_G} {F : ab_F} {x1 : Int32} {Q : Int32 → hp_T → Prop}  (C : ab_C G F rm_X8_storm cX8_storm 6 RX8 (some .int) "storm")   : ∀ (nn : Nat) (y2 : Int32) (y3 : Int32) (y4 : Int32) (h : hp_T), wf h → wp_X8_storm_L24 x1 Q nn y2 y3 y4 h → ab_W l G F 6 (ab_MQ G F (po_h Q) 0 0) 0 0 h [(0, .ref (G.1 + 105)), (1, .int x1), (2, .int y2), (3, .int y3), (4, .int y4)] [] 24 := by
  intro nn
  induction nn with
  | zero =>
    intro y2 y3 y4 h hw f
    exact absurd f id
  | succ nn ih =>
    intro y2 y3 y4 h hw f
    unfold wp_X8_storm_L24 at f
    refine ab_iload C 4 dX8_storm_24 rfl ?_
    refine ab_aload_n C 0 dX8_storm_26 rfl rfl ?_
    refine ab_getR C (q := 106) fl_X8_7 rfl kd_105 (wf_lt hw kd_105 rfl) (wr_8_0 hw) dX8_storm_27 ?_
    refine ab_iconst C (v := (0 : Int32)) dX8_storm_30 (by decide) ?_
    refine ab_iald C (by rw [kd_106]; decide) (wf_lt hw kd_106 rfl) (wf_len hw kd_106 rfl rfl (by decide)) (vp_lit (by decide)) (j := 0) (by decide) dX8_storm_31 ?_
    refine ab_icmp_ge C (tgt := 95) dX8_storm_32 (by decide) (fun c_3 => ?_) (fun c_3 => ?_)
    · have f := f.1 c_3
      refine ab_iload_n C 1 dX8_storm_95 rfl rfl ?_
      refine ab_if_ne C (tgt := 103) dX8_storm_96 (by decide) (fun c_4 => ?_) (fun c_4 => ?_)
      · have f := f.2 c_4
        refine ab_iload_n C 3 dX8_storm_103 rfl rfl ?_
        refine ab_if_ge C (tgt := 117) dX8_storm_104 (by decide) (fun c_5 => ?_) (fun c_5 => ?_)
        · have f := f.1 c_5
          refine ab_iload_n C 3 dX8_storm_117 rfl rfl ?_
          exact ab_iret C dX8_storm_118 ⟨hw, _, rfl, f⟩
        · have f := f.2 c_5
          refine ab_aload_n C 0 dX8_storm_107 rfl rfl ?_
          refine ab_ldcw C kw_t1089 dX8_storm_108 ?_
          refine ab_callV C (k := 0) (n := 0) (rest := []) [.int (-1000000002 : Int32)] cl_X8_84 (mt_X8_errs  hw f) rfl (by decide) kd_105 (wf_lt hw kd_105 rfl) ⟨rfl, rfl, Nat.le_of_ble_eq_true rfl, Nat.le_of_ble_eq_true rfl, Nat.zero_le _, Nat.zero_le _⟩ rfl rfl (Nat.le_of_ble_eq_true rfl) dX8_storm_111 (ab_kh (k := 0) (n := 0) (fun v_6 h_7 hw_8 f => ?_))
          refine ab_goto C (tgt := 118) dX8_storm_114 (by decide) ?_
          exact ab_iret C dX8_storm_118 ⟨hw_8, _, rfl, f⟩
      · have f := f.1 c_4
        refine ab_iload_n C 2 dX8_storm_99 rfl rfl ?_
        refine ab_goto C (tgt := 118) dX8_storm_100 (by decide) ?_
        exact ab_iret C dX8_storm_118 ⟨hw, _, rfl, f⟩
    · have f := f.2 c_3
      refine ab_iload C 4 dX8_storm_35 rfl ?_
      refine ab_iconst C (v := (1 : Int32)) dX8_storm_37 (by decide) ?_
      refine ab_iadd C dX8_storm_38 ?_
      refine ab_istore C (lv' := [(5, .int (y4 + (1 : Int32))), (0, .ref (G.1 + 105)), (1, .int x1), (2, .int y2), (3, .int y3), (4, .int y4)]) dX8_storm_39 (by decide) rfl ?_
      obtain ⟨n0, f⟩ := f
      refine ab_sub (lv' := [(0, .ref (G.1 + 105)), (1, .int x1), (2, .int y2), (3, .int y3), (4, .int y4), (5, .int (y4 + (1 : Int32)))]) [1, 2, 3, 4, 5, 0] rfl ?_
      exact bt_X8_storm_L41 C   ih n0 y2 y3 y4 (y4 + (1 : Int32)) h  hw f
def wp_X8_storm (x1 : Int32) (h : hp_T) (Q : Int32 → hp_T → Prop) : Prop :=
  wp_X8_in x1.toInt64 (0 : Int64) (1 : Int64) h (fun v_1 => ((v_1 = 0 → wp_X8_errs (-1000000001 : Int32) h (fun v_13 h_14 => (Q v_13 h_14))) ∧ (¬ (v_1 = 0) → (∃ n0, wp_X8_storm_L24 x1 Q  n0 (0 : Int32) (-1 : Int32) (0 : Int32) h))))
set_option maxRecDepth 100000 in
set_option maxHeartbeats 4000000 in
theorem mt_X8_storm {l : Launch} {G : ab_G} {x1 : Int32} {h : hp_T} {Q : Int32 → hp_T → Prop} (hw : wf h) (f : wp_X8_storm x1 h Q) : ab_M l G yX8_storm cX8_storm 6 (some .int) rm_X8_storm 0 0 [.ref (G.1 + 105), .int x1] h (po_h Q) := by
  refine ab_intro (own := RX8) (nm := "storm") rfl rfl rfl (Nat.le_of_ble_eq_true rfl) (fun F C => ?_)
  show ab_W l G F 6 (ab_MQ G F (po_h Q) 0 0) 0 0 h [(0, .ref (G.1 + 105)), (1, .int x1)] [] 0
  unfold wp_X8_storm at f
  refine ab_iload_n C 1 dX8_storm_0 rfl rfl ?_
  refine ab_i2l C dX8_storm_1 ?_
  refine ab_lconst C (v := (0 : Int64)) dX8_storm_2 (by decide) ?_
  refine ab_lconst C (v := (1 : Int64)) dX8_storm_3 (by decide) ?_
  refine ab_callS C (k := 0) (n := 0) (rest := []) [.long x1.toInt64, .long (0 : Int64), .long (1 : Int64)] cl_X8_44 (mt_X8_in  hw f) ⟨rfl, rfl, Nat.le_of_ble_eq_true rfl, Nat.le_of_ble_eq_true rfl, Nat.zero_le _, Nat.zero_le _⟩ rfl rfl (Nat.le_of_ble_eq_true rfl) dX8_storm_4 (ab_kp (k := 0) (n := 0) (fun v_1 f => ?_))
  refine ab_if_ne C (tgt := 17) dX8_storm_7 (by decide) (fun c_2 => ?_) (fun c_2 => ?_)
  · have f := f.2 c_2
    refine ab_iconst C (v := (0 : Int32)) dX8_storm_17 (by decide) ?_
    refine ab_istore_n C (lv' := [(2, .int (0 : Int32)), (0, .ref (G.1 + 105)), (1, .int x1)]) dX8_storm_18 rfl (by decide) rfl ?_
    refine ab_iconst C (v := (-1 : Int32)) dX8_storm_19 (by decide) ?_
    refine ab_istore_n C (lv' := [(3, .int (-1 : Int32)), (2, .int (0 : Int32)), (0, .ref (G.1 + 105)), (1, .int x1)]) dX8_storm_20 rfl (by decide) rfl ?_
    refine ab_iconst C (v := (0 : Int32)) dX8_storm_21 (by decide) ?_
    refine ab_istore C (lv' := [(4, .int (0 : Int32)), (3, .int (-1 : Int32)), (2, .int (0 : Int32)), (0, .ref (G.1 + 105)), (1, .int x1)]) dX8_storm_22 (by decide) rfl ?_
    obtain ⟨n0, f⟩ := f
    refine ab_sub (lv' := [(0, .ref (G.1 + 105)), (1, .int x1), (2, .int (0 : Int32)), (3, .int (-1 : Int32)), (4, .int (0 : Int32))]) [3, 4, 2, 1, 0] rfl ?_
    exact bt_X8_storm_L24 C    n0 (0 : Int32) (-1 : Int32) (0 : Int32) h  hw f
  · have f := f.1 c_2
    refine ab_aload_n C 0 dX8_storm_10 rfl rfl ?_
    refine ab_ldc C kw_t821 dX8_storm_11 ?_
    refine ab_callV C (k := 0) (n := 0) (rest := []) [.int (-1000000001 : Int32)] cl_X8_84 (mt_X8_errs  hw f) rfl (by decide) kd_105 (wf_lt hw kd_105 rfl) ⟨rfl, rfl, Nat.le_of_ble_eq_true rfl, Nat.le_of_ble_eq_true rfl, Nat.zero_le _, Nat.zero_le _⟩ rfl rfl (Nat.le_of_ble_eq_true rfl) dX8_storm_13 (ab_kh (k := 0) (n := 0) (fun v_13 h_14 hw_15 f => ?_))
    exact ab_iret C dX8_storm_16 ⟨hw_15, _, rfl, f⟩
/-! X8_task -/
def rm_X8_task : Room := { frames := 4, cells := 0, slots := 0, locals := 145 }
def wp_X8_task (x1 : Int32) (x2 : Int32) (x3 : Int32) (h : hp_T) (Q : Int32 → hp_T → Prop) : Prop :=
  wp_X8_in x1.toInt64 (0 : Int64) (3 : Int64) h (fun v_1 => ((v_1 = 0 → wp_X8_errs (-1000000001 : Int32) h (fun v_3 h_4 => (Q v_3 h_4))) ∧ (¬ (v_1 = 0) → wp_X8_isKnack x2 h (fun v_6 => ((v_6 = 0 → wp_X8_errs (-1000000001 : Int32) h (fun v_8 h_9 => (Q v_8 h_9))) ∧ (¬ (v_6 = 0) → wp_X8_in x3.toInt64 (0 : Int64) (6 : Int64) h (fun v_11 => ((v_11 = 0 → wp_X8_errs (-1000000001 : Int32) h (fun v_25 h_26 => (Q v_25 h_26))) ∧ (¬ (v_11 = 0) → wp_X8_ofTask x1 (0 : Int32) h (fun v_13 => wp_X8_ofTask x1 (1 : Int32) h (fun v_14 => wp_X8_where x1 (0 : Int32) h (fun v_15 => (vp_in v_15 357) ∧ (∀ h_17, h_17 = hp_si h 106 v_15.toNatClampNeg x2 → wp_X8_where x1 (1 : Int32) h_17 (fun v_20 => (vp_in v_20 357) ∧ (∀ h_22, h_22 = hp_si h_17 106 v_20.toNatClampNeg x3 → (Q (((10 : Int32) * v_13) + v_14) h_22))))))))))))))))
set_option maxRecDepth 100000 in
set_option maxHeartbeats 4000000 in
theorem mt_X8_task {l : Launch} {G : ab_G} {x1 : Int32} {x2 : Int32} {x3 : Int32} {h : hp_T} {Q : Int32 → hp_T → Prop} (hw : wf h) (f : wp_X8_task x1 x2 x3 h Q) : ab_M l G yX8_task cX8_task 5 (some .int) rm_X8_task 0 0 [.ref (G.1 + 105), .int x1, .int x2, .int x3] h (po_h Q) := by
  refine ab_intro (own := RX8) (nm := "task") rfl rfl rfl (Nat.le_of_ble_eq_true rfl) (fun F C => ?_)
  show ab_W l G F 5 (ab_MQ G F (po_h Q) 0 0) 0 0 h [(0, .ref (G.1 + 105)), (1, .int x1), (2, .int x2), (3, .int x3)] [] 0
  unfold wp_X8_task at f
  refine ab_iload_n C 1 dX8_task_0 rfl rfl ?_
  refine ab_i2l C dX8_task_1 ?_
  refine ab_lconst C (v := (0 : Int64)) dX8_task_2 (by decide) ?_
  refine ab_ldc2 C kw_t924 dX8_task_3 ?_
  refine ab_callS C (k := 0) (n := 0) (rest := []) [.long x1.toInt64, .long (0 : Int64), .long (3 : Int64)] cl_X8_44 (mt_X8_in  hw f) ⟨rfl, rfl, Nat.le_of_ble_eq_true rfl, Nat.le_of_ble_eq_true rfl, Nat.zero_le _, Nat.zero_le _⟩ rfl rfl (Nat.le_of_ble_eq_true rfl) dX8_task_6 (ab_kp (k := 0) (n := 0) (fun v_1 f => ?_))
  refine ab_if_eq C (tgt := 31) dX8_task_9 (by decide) (fun c_2 => ?_) (fun c_2 => ?_)
  · have f := f.1 c_2
    refine ab_aload_n C 0 dX8_task_31 rfl rfl ?_
    refine ab_ldc C kw_t821 dX8_task_32 ?_
    refine ab_callV C (k := 0) (n := 0) (rest := []) [.int (-1000000001 : Int32)] cl_X8_84 (mt_X8_errs  hw f) rfl (by decide) kd_105 (wf_lt hw kd_105 rfl) ⟨rfl, rfl, Nat.le_of_ble_eq_true rfl, Nat.le_of_ble_eq_true rfl, Nat.zero_le _, Nat.zero_le _⟩ rfl rfl (Nat.le_of_ble_eq_true rfl) dX8_task_34 (ab_kh (k := 0) (n := 0) (fun v_3 h_4 hw_5 f => ?_))
    exact ab_iret C dX8_task_37 ⟨hw_5, _, rfl, f⟩
  · have f := f.2 c_2
    refine ab_iload_n C 2 dX8_task_12 rfl rfl ?_
    refine ab_callS C (k := 0) (n := 0) (rest := []) [.int x2] cl_X8_113 (mt_X8_isKnack  hw f) ⟨rfl, rfl, Nat.le_of_ble_eq_true rfl, Nat.le_of_ble_eq_true rfl, Nat.zero_le _, Nat.zero_le _⟩ rfl rfl (Nat.le_of_ble_eq_true rfl) dX8_task_13 (ab_kp (k := 0) (n := 0) (fun v_6 f => ?_))
    refine ab_if_eq C (tgt := 31) dX8_task_16 (by decide) (fun c_7 => ?_) (fun c_7 => ?_)
    · have f := f.1 c_7
      refine ab_aload_n C 0 dX8_task_31 rfl rfl ?_
      refine ab_ldc C kw_t821 dX8_task_32 ?_
      refine ab_callV C (k := 0) (n := 0) (rest := []) [.int (-1000000001 : Int32)] cl_X8_84 (mt_X8_errs  hw f) rfl (by decide) kd_105 (wf_lt hw kd_105 rfl) ⟨rfl, rfl, Nat.le_of_ble_eq_true rfl, Nat.le_of_ble_eq_true rfl, Nat.zero_le _, Nat.zero_le _⟩ rfl rfl (Nat.le_of_ble_eq_true rfl) dX8_task_34 (ab_kh (k := 0) (n := 0) (fun v_8 h_9 hw_10 f => ?_))
      exact ab_iret C dX8_task_37 ⟨hw_10, _, rfl, f⟩
    · have f := f.2 c_7
      refine ab_iload_n C 3 dX8_task_19 rfl rfl ?_
      refine ab_i2l C dX8_task_20 ?_
      refine ab_lconst C (v := (0 : Int64)) dX8_task_21 (by decide) ?_
      refine ab_ldc2 C kw_t879 dX8_task_22 ?_
      refine ab_callS C (k := 0) (n := 0) (rest := []) [.long x3.toInt64, .long (0 : Int64), .long (6 : Int64)] cl_X8_44 (mt_X8_in  hw f) ⟨rfl, rfl, Nat.le_of_ble_eq_true rfl, Nat.le_of_ble_eq_true rfl, Nat.zero_le _, Nat.zero_le _⟩ rfl rfl (Nat.le_of_ble_eq_true rfl) dX8_task_25 (ab_kp (k := 0) (n := 0) (fun v_11 f => ?_))
      refine ab_if_ne C (tgt := 38) dX8_task_28 (by decide) (fun c_12 => ?_) (fun c_12 => ?_)
      · have f := f.2 c_12
        refine ab_bipush C (v := (10 : Int32)) dX8_task_38 (by decide) ?_
        refine ab_aload_n C 0 dX8_task_40 rfl rfl ?_
        refine ab_iload_n C 1 dX8_task_41 rfl rfl ?_
        refine ab_iconst C (v := (0 : Int32)) dX8_task_42 (by decide) ?_
        refine ab_callV C (k := 0) (n := 0) (rest := [.int (10 : Int32)]) [.int x1, .int (0 : Int32)] cl_X8_136 (mt_X8_ofTask  hw f) rfl (by decide) kd_105 (wf_lt hw kd_105 rfl) ⟨rfl, rfl, Nat.le_of_ble_eq_true rfl, Nat.le_of_ble_eq_true rfl, Nat.zero_le _, Nat.zero_le _⟩ rfl rfl (Nat.le_of_ble_eq_true rfl) dX8_task_43 (ab_kp (k := 0) (n := 0) (fun v_13 f => ?_))
        refine ab_imul C dX8_task_46 ?_
        refine ab_aload_n C 0 dX8_task_47 rfl rfl ?_
        refine ab_iload_n C 1 dX8_task_48 rfl rfl ?_
        refine ab_iconst C (v := (1 : Int32)) dX8_task_49 (by decide) ?_
        refine ab_callV C (k := 0) (n := 0) (rest := [.int ((10 : Int32) * v_13)]) [.int x1, .int (1 : Int32)] cl_X8_136 (mt_X8_ofTask  hw f) rfl (by decide) kd_105 (wf_lt hw kd_105 rfl) ⟨rfl, rfl, Nat.le_of_ble_eq_true rfl, Nat.le_of_ble_eq_true rfl, Nat.zero_le _, Nat.zero_le _⟩ rfl rfl (Nat.le_of_ble_eq_true rfl) dX8_task_50 (ab_kp (k := 0) (n := 0) (fun v_14 f => ?_))
        refine ab_iadd C dX8_task_53 ?_
        refine ab_istore C (lv' := [(4, .int (((10 : Int32) * v_13) + v_14)), (0, .ref (G.1 + 105)), (1, .int x1), (2, .int x2), (3, .int x3)]) dX8_task_54 (by decide) rfl ?_
        refine ab_aload_n C 1 dX8_task_56 rfl rfl ?_
        refine ab_getR C (q := 106) fl_X8_7 rfl kd_105 (wf_lt hw kd_105 rfl) (wr_8_0 hw) dX8_task_57 ?_
        refine ab_iload_n C 2 dX8_task_60 rfl rfl ?_
        refine ab_iconst C (v := (0 : Int32)) dX8_task_61 (by decide) ?_
        refine ab_callS C (k := 0) (n := 0) (rest := [.ref (G.1 + 106)]) [.int x1, .int (0 : Int32)] cl_X8_131 (mt_X8_where  hw f) ⟨rfl, rfl, Nat.le_of_ble_eq_true rfl, Nat.le_of_ble_eq_true rfl, Nat.zero_le _, Nat.zero_le _⟩ rfl rfl (Nat.le_of_ble_eq_true rfl) dX8_task_62 (ab_kp (k := 0) (n := 0) (fun v_15 f => ?_))
        refine ab_iload_n C 3 dX8_task_65 rfl rfl ?_
        obtain ⟨c_16, f⟩ := f
        refine ab_iast C (by rw [kd_106]; decide) (wf_lt hw kd_106 rfl) (wf_len hw kd_106 rfl rfl (by decide)) c_16 (j := v_15.toNatClampNeg) rfl dX8_task_66 (fun h_17 e_18 => ?_)
        have f := f h_17 e_18
        have hw_19 := wf_si e_18 hw
        refine ab_aload_n C 1 dX8_task_67 rfl rfl ?_
        refine ab_getR C (q := 106) fl_X8_7 rfl kd_105 (wf_lt hw_19 kd_105 rfl) (wr_8_0 hw_19) dX8_task_68 ?_
        refine ab_iload_n C 2 dX8_task_71 rfl rfl ?_
        refine ab_iconst C (v := (1 : Int32)) dX8_task_72 (by decide) ?_
        refine ab_callS C (k := 0) (n := 0) (rest := [.ref (G.1 + 106)]) [.int x1, .int (1 : Int32)] cl_X8_131 (mt_X8_where  hw_19 f) ⟨rfl, rfl, Nat.le_of_ble_eq_true rfl, Nat.le_of_ble_eq_true rfl, Nat.zero_le _, Nat.zero_le _⟩ rfl rfl (Nat.le_of_ble_eq_true rfl) dX8_task_73 (ab_kp (k := 0) (n := 0) (fun v_20 f => ?_))
        refine ab_iload_n C 4 dX8_task_76 rfl rfl ?_
        obtain ⟨c_21, f⟩ := f
        refine ab_iast C (by rw [kd_106]; decide) (wf_lt hw_19 kd_106 rfl) (wf_len hw_19 kd_106 rfl rfl (by decide)) c_21 (j := v_20.toNatClampNeg) rfl dX8_task_77 (fun h_22 e_23 => ?_)
        have f := f h_22 e_23
        have hw_24 := wf_si e_23 hw_19
        refine ab_iload C 0 dX8_task_78 rfl ?_
        exact ab_iret C dX8_task_80 ⟨hw_24, _, rfl, f⟩
      · have f := f.1 c_12
        refine ab_aload_n C 0 dX8_task_31 rfl rfl ?_
        refine ab_ldc C kw_t821 dX8_task_32 ?_
        refine ab_callV C (k := 0) (n := 0) (rest := []) [.int (-1000000001 : Int32)] cl_X8_84 (mt_X8_errs  hw f) rfl (by decide) kd_105 (wf_lt hw kd_105 rfl) ⟨rfl, rfl, Nat.le_of_ble_eq_true rfl, Nat.le_of_ble_eq_true rfl, Nat.zero_le _, Nat.zero_le _⟩ rfl rfl (Nat.le_of_ble_eq_true rfl) dX8_task_34 (ab_kh (k := 0) (n := 0) (fun v_25 h_26 hw_27 f => ?_))
        exact ab_iret C dX8_task_37 ⟨hw_27, _, rfl, f⟩
/-! X8_toldTask -/
def rm_X8_toldTask : Room := { frames := 6, cells := 0, slots := 0, locals := 188 }
def wp_X8_toldTask (x1 : Int32) (x2 : Int32) (h : hp_T) (Q : Int32 → Prop) : Prop :=
  (((2 : Int32) ≤ x2 → ((x2 = (2 : Int32) → wp_X8_ofTask x1 (0 : Int32) h (fun v_4 => wp_X8_knowers v_4 h (fun v_5 => (Q v_5)))) ∧ (¬ (x2 = (2 : Int32)) → wp_X8_ofTask x1 (x2 - (1 : Int32)) h (fun v_3 => (Q v_3))))) ∧ (¬ ((2 : Int32) ≤ x2) → wp_X8_ofTask x1 x2 h (fun v_6 => (Q v_6))))
set_option maxRecDepth 100000 in
set_option maxHeartbeats 4000000 in
theorem mt_X8_toldTask {l : Launch} {G : ab_G} {x1 : Int32} {x2 : Int32} {h : hp_T} {Q : Int32 → Prop} (hw : wf h) (f : wp_X8_toldTask x1 x2 h Q) : ab_M l G yX8_toldTask cX8_toldTask 3 (some .int) rm_X8_toldTask 0 0 [.ref (G.1 + 105), .int x1, .int x2] h (po_p h Q) := by
  refine ab_intro (own := RX8) (nm := "toldTask") rfl rfl rfl (Nat.le_of_ble_eq_true rfl) (fun F C => ?_)
  show ab_W l G F 3 (ab_MQ G F (po_p h Q) 0 0) 0 0 h [(0, .ref (G.1 + 105)), (1, .int x1), (2, .int x2)] [] 0
  unfold wp_X8_toldTask at f
  refine ab_iload_n C 2 dX8_toldTask_0 rfl rfl ?_
  refine ab_iconst C (v := (2 : Int32)) dX8_toldTask_1 (by decide) ?_
  refine ab_icmp_ge C (tgt := 14) dX8_toldTask_2 (by decide) (fun c_1 => ?_) (fun c_1 => ?_)
  · have f := f.1 c_1
    refine ab_iload_n C 2 dX8_toldTask_14 rfl rfl ?_
    refine ab_iconst C (v := (2 : Int32)) dX8_toldTask_15 (by decide) ?_
    refine ab_icmp_ne C (tgt := 32) dX8_toldTask_16 (by decide) (fun c_2 => ?_) (fun c_2 => ?_)
    · have f := f.2 c_2
      refine ab_aload_n C 0 dX8_toldTask_32 rfl rfl ?_
      refine ab_iload_n C 1 dX8_toldTask_33 rfl rfl ?_
      refine ab_iload_n C 2 dX8_toldTask_34 rfl rfl ?_
      refine ab_iconst C (v := (1 : Int32)) dX8_toldTask_35 (by decide) ?_
      refine ab_isub C dX8_toldTask_36 ?_
      refine ab_callV C (k := 0) (n := 0) (rest := []) [.int x1, .int (x2 - (1 : Int32))] cl_X8_136 (mt_X8_ofTask  hw f) rfl (by decide) kd_105 (wf_lt hw kd_105 rfl) ⟨rfl, rfl, Nat.le_of_ble_eq_true rfl, Nat.le_of_ble_eq_true rfl, Nat.zero_le _, Nat.zero_le _⟩ rfl rfl (Nat.le_of_ble_eq_true rfl) dX8_toldTask_37 (ab_kp (k := 0) (n := 0) (fun v_3 f => ?_))
      exact ab_iret C dX8_toldTask_40 ⟨rfl, _, rfl, f⟩
    · have f := f.1 c_2
      refine ab_aload_n C 0 dX8_toldTask_19 rfl rfl ?_
      refine ab_aload_n C 0 dX8_toldTask_20 rfl rfl ?_
      refine ab_iload_n C 1 dX8_toldTask_21 rfl rfl ?_
      refine ab_iconst C (v := (0 : Int32)) dX8_toldTask_22 (by decide) ?_
      refine ab_callV C (k := 0) (n := 0) (rest := [.ref (G.1 + 105)]) [.int x1, .int (0 : Int32)] cl_X8_136 (mt_X8_ofTask  hw f) rfl (by decide) kd_105 (wf_lt hw kd_105 rfl) ⟨rfl, rfl, Nat.le_of_ble_eq_true rfl, Nat.le_of_ble_eq_true rfl, Nat.zero_le _, Nat.zero_le _⟩ rfl rfl (Nat.le_of_ble_eq_true rfl) dX8_toldTask_23 (ab_kp (k := 0) (n := 0) (fun v_4 f => ?_))
      refine ab_callV C (k := 0) (n := 0) (rest := []) [.int v_4] cl_X8_139 (mt_X8_knowers  hw f) rfl (by decide) kd_105 (wf_lt hw kd_105 rfl) ⟨rfl, rfl, Nat.le_of_ble_eq_true rfl, Nat.le_of_ble_eq_true rfl, Nat.zero_le _, Nat.zero_le _⟩ rfl rfl (Nat.le_of_ble_eq_true rfl) dX8_toldTask_26 (ab_kp (k := 0) (n := 0) (fun v_5 f => ?_))
      refine ab_goto C (tgt := 40) dX8_toldTask_29 (by decide) ?_
      exact ab_iret C dX8_toldTask_40 ⟨rfl, _, rfl, f⟩
  · have f := f.2 c_1
    refine ab_aload_n C 0 dX8_toldTask_5 rfl rfl ?_
    refine ab_iload_n C 1 dX8_toldTask_6 rfl rfl ?_
    refine ab_iload_n C 2 dX8_toldTask_7 rfl rfl ?_
    refine ab_callV C (k := 0) (n := 0) (rest := []) [.int x1, .int x2] cl_X8_136 (mt_X8_ofTask  hw f) rfl (by decide) kd_105 (wf_lt hw kd_105 rfl) ⟨rfl, rfl, Nat.le_of_ble_eq_true rfl, Nat.le_of_ble_eq_true rfl, Nat.zero_le _, Nat.zero_le _⟩ rfl rfl (Nat.le_of_ble_eq_true rfl) dX8_toldTask_8 (ab_kp (k := 0) (n := 0) (fun v_6 f => ?_))
    refine ab_goto C (tgt := 40) dX8_toldTask_11 (by decide) ?_
    exact ab_iret C dX8_toldTask_40 ⟨rfl, _, rfl, f⟩
/-! X8_taskIs -/
def rm_X8_taskIs : Room := { frames := 7, cells := 0, slots := 0, locals := 210 }
def wp_X8_taskIs (x1 : Int32) (x2 : Int32) (h : hp_T) (Q : Int32 → hp_T → Prop) : Prop :=
  wp_X8_in x1.toInt64 (0 : Int64) (3 : Int64) h (fun v_1 => ((v_1 = 0 → wp_X8_errs (-1000000001 : Int32) h (fun v_3 h_4 => (Q v_3 h_4))) ∧ (¬ (v_1 = 0) → wp_X8_in x2.toInt64 (0 : Int64) (4 : Int64) h (fun v_6 => ((v_6 = 0 → wp_X8_errs (-1000000001 : Int32) h (fun v_8 h_9 => (Q v_8 h_9))) ∧ (¬ (v_6 = 0) → wp_X8_toldTask x1 x2 h (fun v_11 => (Q v_11 h))))))))
set_option maxRecDepth 100000 in
set_option maxHeartbeats 4000000 in
theorem mt_X8_taskIs {l : Launch} {G : ab_G} {x1 : Int32} {x2 : Int32} {h : hp_T} {Q : Int32 → hp_T → Prop} (hw : wf h) (f : wp_X8_taskIs x1 x2 h Q) : ab_M l G yX8_taskIs cX8_taskIs 3 (some .int) rm_X8_taskIs 0 0 [.ref (G.1 + 105), .int x1, .int x2] h (po_h Q) := by
  refine ab_intro (own := RX8) (nm := "taskIs") rfl rfl rfl (Nat.le_of_ble_eq_true rfl) (fun F C => ?_)
  show ab_W l G F 3 (ab_MQ G F (po_h Q) 0 0) 0 0 h [(0, .ref (G.1 + 105)), (1, .int x1), (2, .int x2)] [] 0
  unfold wp_X8_taskIs at f
  refine ab_iload_n C 1 dX8_taskIs_0 rfl rfl ?_
  refine ab_i2l C dX8_taskIs_1 ?_
  refine ab_lconst C (v := (0 : Int64)) dX8_taskIs_2 (by decide) ?_
  refine ab_ldc2 C kw_t924 dX8_taskIs_3 ?_
  refine ab_callS C (k := 0) (n := 0) (rest := []) [.long x1.toInt64, .long (0 : Int64), .long (3 : Int64)] cl_X8_44 (mt_X8_in  hw f) ⟨rfl, rfl, Nat.le_of_ble_eq_true rfl, Nat.le_of_ble_eq_true rfl, Nat.zero_le _, Nat.zero_le _⟩ rfl rfl (Nat.le_of_ble_eq_true rfl) dX8_taskIs_6 (ab_kp (k := 0) (n := 0) (fun v_1 f => ?_))
  refine ab_if_eq C (tgt := 33) dX8_taskIs_9 (by decide) (fun c_2 => ?_) (fun c_2 => ?_)
  · have f := f.1 c_2
    refine ab_aload_n C 0 dX8_taskIs_33 rfl rfl ?_
    refine ab_ldc C kw_t821 dX8_taskIs_34 ?_
    refine ab_callV C (k := 0) (n := 0) (rest := []) [.int (-1000000001 : Int32)] cl_X8_84 (mt_X8_errs  hw f) rfl (by decide) kd_105 (wf_lt hw kd_105 rfl) ⟨rfl, rfl, Nat.le_of_ble_eq_true rfl, Nat.le_of_ble_eq_true rfl, Nat.zero_le _, Nat.zero_le _⟩ rfl rfl (Nat.le_of_ble_eq_true rfl) dX8_taskIs_36 (ab_kh (k := 0) (n := 0) (fun v_3 h_4 hw_5 f => ?_))
    exact ab_iret C dX8_taskIs_39 ⟨hw_5, _, rfl, f⟩
  · have f := f.2 c_2
    refine ab_iload_n C 2 dX8_taskIs_12 rfl rfl ?_
    refine ab_i2l C dX8_taskIs_13 ?_
    refine ab_lconst C (v := (0 : Int64)) dX8_taskIs_14 (by decide) ?_
    refine ab_ldc2 C kw_t936 dX8_taskIs_15 ?_
    refine ab_callS C (k := 0) (n := 0) (rest := []) [.long x2.toInt64, .long (0 : Int64), .long (4 : Int64)] cl_X8_44 (mt_X8_in  hw f) ⟨rfl, rfl, Nat.le_of_ble_eq_true rfl, Nat.le_of_ble_eq_true rfl, Nat.zero_le _, Nat.zero_le _⟩ rfl rfl (Nat.le_of_ble_eq_true rfl) dX8_taskIs_18 (ab_kp (k := 0) (n := 0) (fun v_6 f => ?_))
    refine ab_if_eq C (tgt := 33) dX8_taskIs_21 (by decide) (fun c_7 => ?_) (fun c_7 => ?_)
    · have f := f.1 c_7
      refine ab_aload_n C 0 dX8_taskIs_33 rfl rfl ?_
      refine ab_ldc C kw_t821 dX8_taskIs_34 ?_
      refine ab_callV C (k := 0) (n := 0) (rest := []) [.int (-1000000001 : Int32)] cl_X8_84 (mt_X8_errs  hw f) rfl (by decide) kd_105 (wf_lt hw kd_105 rfl) ⟨rfl, rfl, Nat.le_of_ble_eq_true rfl, Nat.le_of_ble_eq_true rfl, Nat.zero_le _, Nat.zero_le _⟩ rfl rfl (Nat.le_of_ble_eq_true rfl) dX8_taskIs_36 (ab_kh (k := 0) (n := 0) (fun v_8 h_9 hw_10 f => ?_))
      exact ab_iret C dX8_taskIs_39 ⟨hw_10, _, rfl, f⟩
    · have f := f.2 c_7
      refine ab_aload_n C 0 dX8_taskIs_24 rfl rfl ?_
      refine ab_iload_n C 1 dX8_taskIs_25 rfl rfl ?_
      refine ab_iload_n C 2 dX8_taskIs_26 rfl rfl ?_
      refine ab_callV C (k := 0) (n := 0) (rest := []) [.int x1, .int x2] cl_X8_144 (mt_X8_toldTask  hw f) rfl (by decide) kd_105 (wf_lt hw kd_105 rfl) ⟨rfl, rfl, Nat.le_of_ble_eq_true rfl, Nat.le_of_ble_eq_true rfl, Nat.zero_le _, Nat.zero_le _⟩ rfl rfl (Nat.le_of_ble_eq_true rfl) dX8_taskIs_27 (ab_kp (k := 0) (n := 0) (fun v_11 f => ?_))
      refine ab_goto C (tgt := 39) dX8_taskIs_30 (by decide) ?_
      exact ab_iret C dX8_taskIs_39 ⟨hw, _, rfl, f⟩
/-! X8_teachers -/
def rm_X8_teachers : Room := { frames := 8, cells := 0, slots := 0, locals := 247 }
def wp_X8_teachers_L46 (x1 : Int32) (x2 : Int32) (x3 : Int32) (Q : Int32 → hp_T → Prop) : Nat → Int32 → Int32 → hp_T → Prop
  | 0 => fun _ _ _ => False
  | nn + 1 => fun y4 y5 h => ((((1 : Int32) <<< ((hp_i h 106 0) &&& 31)) ≤ y5 → ((0 ≤ y4 → ((x3 = 0 → wp_X8_ones y4 h (fun v_18 => (Q v_18 h))) ∧ (¬ (x3 = 0) → (Q y4 h)))) ∧ (¬ (0 ≤ y4) → wp_X8_errs (-1000000002 : Int32) h (fun v_19 h_20 => (Q v_19 h_20))))) ∧ (¬ (((1 : Int32) <<< ((hp_i h 106 0) &&& 31)) ≤ y5) → ((y4 < 0 → wp_X8_isKept x1 x2 y5 h (fun v_23 h_24 => ((v_23 = 0 → (wp_X8_teachers_L46 x1 x2 x3 Q nn) y4 (y5 + (1 : Int32)) h_24) ∧ (¬ (v_23 = 0) → (wp_X8_teachers_L46 x1 x2 x3 Q nn) y5 (y5 + (1 : Int32)) h_24)))) ∧ (¬ (y4 < 0) → wp_X8_ones y5 h (fun v_27 => wp_X8_ones y4 h (fun v_28 => ((v_28 ≤ v_27 → (wp_X8_teachers_L46 x1 x2 x3 Q nn) y4 (y5 + (1 : Int32)) h) ∧ (¬ (v_28 ≤ v_27) → wp_X8_isKept x1 x2 y5 h (fun v_30 h_31 => ((v_30 = 0 → (wp_X8_teachers_L46 x1 x2 x3 Q nn) y4 (y5 + (1 : Int32)) h_31) ∧ (¬ (v_30 = 0) → (wp_X8_teachers_L46 x1 x2 x3 Q nn) y5 (y5 + (1 : Int32)) h_31)))))))))))
set_option maxRecDepth 100000 in
set_option maxHeartbeats 4000000 in
theorem bt_X8_teachers_L46 {l : Launch} {G : ab_G} {F : ab_F} {x1 : Int32} {x2 : Int32} {x3 : Int32} {Q : Int32 → hp_T → Prop}  (C : ab_C G F rm_X8_teachers cX8_teachers 6 RX8 (some .int) "teachers")   : ∀ (nn : Nat) (y4 : Int32) (y5 : Int32) (h : hp_T), wf h → wp_X8_teachers_L46 x1 x2 x3 Q nn y4 y5 h → ab_W l G F 6 (ab_MQ G F (po_h Q) 0 0) 0 0 h [(0, .ref (G.1 + 105)), (1, .int x1), (2, .int x2), (3, .int x3), (4, .int y4), (5, .int y5)] [] 46 := by
  intro nn
  induction nn with
  | zero =>
    intro y4 y5 h hw f
    exact absurd f id
  | succ nn ih =>
    intro y4 y5 h hw f
    unfold wp_X8_teachers_L46 at f
    refine ab_iload C 5 dX8_teachers_46 rfl ?_
    refine ab_iconst C (v := (1 : Int32)) dX8_teachers_48 (by decide) ?_
    refine ab_aload_n C 0 dX8_teachers_49 rfl rfl ?_
    refine ab_getR C (q := 106) fl_X8_7 rfl kd_105 (wf_lt hw kd_105 rfl) (wr_8_0 hw) dX8_teachers_50 ?_
    refine ab_iconst C (v := (0 : Int32)) dX8_teachers_53 (by decide) ?_
    refine ab_iald C (by rw [kd_106]; decide) (wf_lt hw kd_106 rfl) (wf_len hw kd_106 rfl rfl (by decide)) (vp_lit (by decide)) (j := 0) (by decide) dX8_teachers_54 ?_
    refine ab_ishl C dX8_teachers_55 ?_
    refine ab_icmp_ge C (tgt := 103) dX8_teachers_56 (by decide) (fun c_15 => ?_) (fun c_15 => ?_)
    · have f := f.1 c_15
      refine ab_iload C 4 dX8_teachers_103 rfl ?_
      refine ab_if_ge C (tgt := 118) dX8_teachers_105 (by decide) (fun c_16 => ?_) (fun c_16 => ?_)
      · have f := f.1 c_16
        refine ab_iload_n C 3 dX8_teachers_118 rfl rfl ?_
        refine ab_if_ne C (tgt := 130) dX8_teachers_119 (by decide) (fun c_17 => ?_) (fun c_17 => ?_)
        · have f := f.2 c_17
          refine ab_iload C 4 dX8_teachers_130 rfl ?_
          exact ab_iret C dX8_teachers_132 ⟨hw, _, rfl, f⟩
        · have f := f.1 c_17
          refine ab_iload C 4 dX8_teachers_122 rfl ?_
          refine ab_callS C (k := 0) (n := 0) (rest := []) [.int y4] cl_X8_67 (mt_X8_ones  hw f) ⟨rfl, rfl, Nat.le_of_ble_eq_true rfl, Nat.le_of_ble_eq_true rfl, Nat.zero_le _, Nat.zero_le _⟩ rfl rfl (Nat.le_of_ble_eq_true rfl) dX8_teachers_124 (ab_kp (k := 0) (n := 0) (fun v_18 f => ?_))
          refine ab_goto C (tgt := 132) dX8_teachers_127 (by decide) ?_
          exact ab_iret C dX8_teachers_132 ⟨hw, _, rfl, f⟩
      · have f := f.2 c_16
        refine ab_aload_n C 0 dX8_teachers_108 rfl rfl ?_
        refine ab_ldcw C kw_t1089 dX8_teachers_109 ?_
        refine ab_callV C (k := 0) (n := 0) (rest := []) [.int (-1000000002 : Int32)] cl_X8_84 (mt_X8_errs  hw f) rfl (by decide) kd_105 (wf_lt hw kd_105 rfl) ⟨rfl, rfl, Nat.le_of_ble_eq_true rfl, Nat.le_of_ble_eq_true rfl, Nat.zero_le _, Nat.zero_le _⟩ rfl rfl (Nat.le_of_ble_eq_true rfl) dX8_teachers_112 (ab_kh (k := 0) (n := 0) (fun v_19 h_20 hw_21 f => ?_))
        refine ab_goto C (tgt := 132) dX8_teachers_115 (by decide) ?_
        exact ab_iret C dX8_teachers_132 ⟨hw_21, _, rfl, f⟩
    · have f := f.2 c_15
      refine ab_iload C 4 dX8_teachers_59 rfl ?_
      refine ab_if_lt C (tgt := 77) dX8_teachers_61 (by decide) (fun c_22 => ?_) (fun c_22 => ?_)
      · have f := f.1 c_22
        refine ab_aload_n C 0 dX8_teachers_77 rfl rfl ?_
        refine ab_iload_n C 1 dX8_teachers_78 rfl rfl ?_
        refine ab_iload_n C 2 dX8_teachers_79 rfl rfl ?_
        refine ab_iload C 5 dX8_teachers_80 rfl ?_
        refine ab_callV C (k := 0) (n := 0) (rest := []) [.int x1, .int x2, .int y5] cl_X8_265 (mt_X8_isKept  hw f) rfl (by decide) kd_105 (wf_lt hw kd_105 rfl) ⟨rfl, rfl, Nat.le_of_ble_eq_true rfl, Nat.le_of_ble_eq_true rfl, Nat.zero_le _, Nat.zero_le _⟩ rfl rfl (Nat.le_of_ble_eq_true rfl) dX8_teachers_82 (ab_kh (k := 0) (n := 0) (fun v_23 h_24 hw_25 f => ?_))
        refine ab_if_eq C (tgt := 93) dX8_teachers_85 (by decide) (fun c_26 => ?_) (fun c_26 => ?_)
        · have f := f.1 c_26
          refine ab_iload C 4 dX8_teachers_93 rfl ?_
          refine ab_istore C (lv' := [(4, .int y4), (0, .ref (G.1 + 105)), (1, .int x1), (2, .int x2), (3, .int x3), (5, .int y5)]) dX8_teachers_95 (by decide) rfl ?_
          refine ab_iinc C (lv' := [(5, .int (y5 + (1 : Int32))), (4, .int y4), (0, .ref (G.1 + 105)), (1, .int x1), (2, .int x2), (3, .int x3)]) 5 (v := (y5 + (1 : Int32))) dX8_teachers_97 rfl rfl (by decide) rfl ?_
          refine ab_goto C (tgt := 46) dX8_teachers_100 (by decide) ?_
          refine ab_sub (lv' := [(0, .ref (G.1 + 105)), (1, .int x1), (2, .int x2), (3, .int x3), (4, .int y4), (5, .int (y5 + (1 : Int32)))]) [2, 3, 4, 5, 1, 0] rfl ?_
          exact ih y4 (y5 + (1 : Int32)) h_24  hw_25 f
        · have f := f.2 c_26
          refine ab_iload C 5 dX8_teachers_88 rfl ?_
          refine ab_goto C (tgt := 95) dX8_teachers_90 (by decide) ?_
          refine ab_istore C (lv' := [(4, .int y5), (0, .ref (G.1 + 105)), (1, .int x1), (2, .int x2), (3, .int x3), (5, .int y5)]) dX8_teachers_95 (by decide) rfl ?_
          refine ab_iinc C (lv' := [(5, .int (y5 + (1 : Int32))), (4, .int y5), (0, .ref (G.1 + 105)), (1, .int x1), (2, .int x2), (3, .int x3)]) 5 (v := (y5 + (1 : Int32))) dX8_teachers_97 rfl rfl (by decide) rfl ?_
          refine ab_goto C (tgt := 46) dX8_teachers_100 (by decide) ?_
          refine ab_sub (lv' := [(0, .ref (G.1 + 105)), (1, .int x1), (2, .int x2), (3, .int x3), (4, .int y5), (5, .int (y5 + (1 : Int32)))]) [2, 3, 4, 5, 1, 0] rfl ?_
          exact ih y5 (y5 + (1 : Int32)) h_24  hw_25 f
      · have f := f.2 c_22
        refine ab_iload C 5 dX8_teachers_64 rfl ?_
        refine ab_callS C (k := 0) (n := 0) (rest := []) [.int y5] cl_X8_67 (mt_X8_ones  hw f) ⟨rfl, rfl, Nat.le_of_ble_eq_true rfl, Nat.le_of_ble_eq_true rfl, Nat.zero_le _, Nat.zero_le _⟩ rfl rfl (Nat.le_of_ble_eq_true rfl) dX8_teachers_66 (ab_kp (k := 0) (n := 0) (fun v_27 f => ?_))
        refine ab_iload C 4 dX8_teachers_69 rfl ?_
        refine ab_callS C (k := 0) (n := 0) (rest := [.int v_27]) [.int y4] cl_X8_67 (mt_X8_ones  hw f) ⟨rfl, rfl, Nat.le_of_ble_eq_true rfl, Nat.le_of_ble_eq_true rfl, Nat.zero_le _, Nat.zero_le _⟩ rfl rfl (Nat.le_of_ble_eq_true rfl) dX8_teachers_71 (ab_kp (k := 0) (n := 0) (fun v_28 f => ?_))
        refine ab_icmp_ge C (tgt := 97) dX8_teachers_74 (by decide) (fun c_29 => ?_) (fun c_29 => ?_)
        · have f := f.1 c_29
          refine ab_iinc C (lv' := [(5, .int (y5 + (1 : Int32))), (0, .ref (G.1 + 105)), (1, .int x1), (2, .int x2), (3, .int x3), (4, .int y4)]) 5 (v := (y5 + (1 : Int32))) dX8_teachers_97 rfl rfl (by decide) rfl ?_
          refine ab_goto C (tgt := 46) dX8_teachers_100 (by decide) ?_
          refine ab_sub (lv' := [(0, .ref (G.1 + 105)), (1, .int x1), (2, .int x2), (3, .int x3), (4, .int y4), (5, .int (y5 + (1 : Int32)))]) [1, 2, 3, 4, 5, 0] rfl ?_
          exact ih y4 (y5 + (1 : Int32)) h  hw f
        · have f := f.2 c_29
          refine ab_aload_n C 0 dX8_teachers_77 rfl rfl ?_
          refine ab_iload_n C 1 dX8_teachers_78 rfl rfl ?_
          refine ab_iload_n C 2 dX8_teachers_79 rfl rfl ?_
          refine ab_iload C 5 dX8_teachers_80 rfl ?_
          refine ab_callV C (k := 0) (n := 0) (rest := []) [.int x1, .int x2, .int y5] cl_X8_265 (mt_X8_isKept  hw f) rfl (by decide) kd_105 (wf_lt hw kd_105 rfl) ⟨rfl, rfl, Nat.le_of_ble_eq_true rfl, Nat.le_of_ble_eq_true rfl, Nat.zero_le _, Nat.zero_le _⟩ rfl rfl (Nat.le_of_ble_eq_true rfl) dX8_teachers_82 (ab_kh (k := 0) (n := 0) (fun v_30 h_31 hw_32 f => ?_))
          refine ab_if_eq C (tgt := 93) dX8_teachers_85 (by decide) (fun c_33 => ?_) (fun c_33 => ?_)
          · have f := f.1 c_33
            refine ab_iload C 4 dX8_teachers_93 rfl ?_
            refine ab_istore C (lv' := [(4, .int y4), (0, .ref (G.1 + 105)), (1, .int x1), (2, .int x2), (3, .int x3), (5, .int y5)]) dX8_teachers_95 (by decide) rfl ?_
            refine ab_iinc C (lv' := [(5, .int (y5 + (1 : Int32))), (4, .int y4), (0, .ref (G.1 + 105)), (1, .int x1), (2, .int x2), (3, .int x3)]) 5 (v := (y5 + (1 : Int32))) dX8_teachers_97 rfl rfl (by decide) rfl ?_
            refine ab_goto C (tgt := 46) dX8_teachers_100 (by decide) ?_
            refine ab_sub (lv' := [(0, .ref (G.1 + 105)), (1, .int x1), (2, .int x2), (3, .int x3), (4, .int y4), (5, .int (y5 + (1 : Int32)))]) [2, 3, 4, 5, 1, 0] rfl ?_
            exact ih y4 (y5 + (1 : Int32)) h_31  hw_32 f
          · have f := f.2 c_33
            refine ab_iload C 5 dX8_teachers_88 rfl ?_
            refine ab_goto C (tgt := 95) dX8_teachers_90 (by decide) ?_
            refine ab_istore C (lv' := [(4, .int y5), (0, .ref (G.1 + 105)), (1, .int x1), (2, .int x2), (3, .int x3), (5, .int y5)]) dX8_teachers_95 (by decide) rfl ?_
            refine ab_iinc C (lv' := [(5, .int (y5 + (1 : Int32))), (4, .int y5), (0, .ref (G.1 + 105)), (1, .int x1), (2, .int x2), (3, .int x3)]) 5 (v := (y5 + (1 : Int32))) dX8_teachers_97 rfl rfl (by decide) rfl ?_
            refine ab_goto C (tgt := 46) dX8_teachers_100 (by decide) ?_
            refine ab_sub (lv' := [(0, .ref (G.1 + 105)), (1, .int x1), (2, .int x2), (3, .int x3), (4, .int y5), (5, .int (y5 + (1 : Int32)))]) [2, 3, 4, 5, 1, 0] rfl ?_
            exact ih y5 (y5 + (1 : Int32)) h_31  hw_32 f
def wp_X8_teachers (x1 : Int32) (x2 : Int32) (x3 : Int32) (h : hp_T) (Q : Int32 → hp_T → Prop) : Prop :=
  wp_X8_isKnack x1 h (fun v_1 => ((v_1 = 0 → wp_X8_errs (-1000000001 : Int32) h (fun v_3 h_4 => (Q v_3 h_4))) ∧ (¬ (v_1 = 0) → wp_X8_in x2.toInt64 (1 : Int64) (30 : Int64) h (fun v_6 => ((v_6 = 0 → wp_X8_errs (-1000000001 : Int32) h (fun v_8 h_9 => (Q v_8 h_9))) ∧ (¬ (v_6 = 0) → wp_X8_in x3.toInt64 (0 : Int64) (1 : Int64) h (fun v_11 => ((v_11 = 0 → wp_X8_errs (-1000000001 : Int32) h (fun v_34 h_35 => (Q v_34 h_35))) ∧ (¬ (v_11 = 0) → wp_X8_keepsAside h (fun h_13 => (∃ n0, wp_X8_teachers_L46 x1 x2 x3 Q  n0 (-1 : Int32) (0 : Int32) h_13)))))))))))
set_option maxRecDepth 100000 in
set_option maxHeartbeats 4000000 in
theorem mt_X8_teachers {l : Launch} {G : ab_G} {x1 : Int32} {x2 : Int32} {x3 : Int32} {h : hp_T} {Q : Int32 → hp_T → Prop} (hw : wf h) (f : wp_X8_teachers x1 x2 x3 h Q) : ab_M l G yX8_teachers cX8_teachers 6 (some .int) rm_X8_teachers 0 0 [.ref (G.1 + 105), .int x1, .int x2, .int x3] h (po_h Q) := by
  refine ab_intro (own := RX8) (nm := "teachers") rfl rfl rfl (Nat.le_of_ble_eq_true rfl) (fun F C => ?_)
  show ab_W l G F 6 (ab_MQ G F (po_h Q) 0 0) 0 0 h [(0, .ref (G.1 + 105)), (1, .int x1), (2, .int x2), (3, .int x3)] [] 0
  unfold wp_X8_teachers at f
  refine ab_iload_n C 1 dX8_teachers_0 rfl rfl ?_
  refine ab_callS C (k := 0) (n := 0) (rest := []) [.int x1] cl_X8_113 (mt_X8_isKnack  hw f) ⟨rfl, rfl, Nat.le_of_ble_eq_true rfl, Nat.le_of_ble_eq_true rfl, Nat.zero_le _, Nat.zero_le _⟩ rfl rfl (Nat.le_of_ble_eq_true rfl) dX8_teachers_1 (ab_kp (k := 0) (n := 0) (fun v_1 f => ?_))
  refine ab_if_eq C (tgt := 29) dX8_teachers_4 (by decide) (fun c_2 => ?_) (fun c_2 => ?_)
  · have f := f.1 c_2
    refine ab_aload_n C 0 dX8_teachers_29 rfl rfl ?_
    refine ab_ldc C kw_t821 dX8_teachers_30 ?_
    refine ab_callV C (k := 0) (n := 0) (rest := []) [.int (-1000000001 : Int32)] cl_X8_84 (mt_X8_errs  hw f) rfl (by decide) kd_105 (wf_lt hw kd_105 rfl) ⟨rfl, rfl, Nat.le_of_ble_eq_true rfl, Nat.le_of_ble_eq_true rfl, Nat.zero_le _, Nat.zero_le _⟩ rfl rfl (Nat.le_of_ble_eq_true rfl) dX8_teachers_32 (ab_kh (k := 0) (n := 0) (fun v_3 h_4 hw_5 f => ?_))
    exact ab_iret C dX8_teachers_35 ⟨hw_5, _, rfl, f⟩
  · have f := f.2 c_2
    refine ab_iload_n C 2 dX8_teachers_7 rfl rfl ?_
    refine ab_i2l C dX8_teachers_8 ?_
    refine ab_lconst C (v := (1 : Int64)) dX8_teachers_9 (by decide) ?_
    refine ab_ldc2 C kw_t1094 dX8_teachers_10 ?_
    refine ab_callS C (k := 0) (n := 0) (rest := []) [.long x2.toInt64, .long (1 : Int64), .long (30 : Int64)] cl_X8_44 (mt_X8_in  hw f) ⟨rfl, rfl, Nat.le_of_ble_eq_true rfl, Nat.le_of_ble_eq_true rfl, Nat.zero_le _, Nat.zero_le _⟩ rfl rfl (Nat.le_of_ble_eq_true rfl) dX8_teachers_13 (ab_kp (k := 0) (n := 0) (fun v_6 f => ?_))
    refine ab_if_eq C (tgt := 29) dX8_teachers_16 (by decide) (fun c_7 => ?_) (fun c_7 => ?_)
    · have f := f.1 c_7
      refine ab_aload_n C 0 dX8_teachers_29 rfl rfl ?_
      refine ab_ldc C kw_t821 dX8_teachers_30 ?_
      refine ab_callV C (k := 0) (n := 0) (rest := []) [.int (-1000000001 : Int32)] cl_X8_84 (mt_X8_errs  hw f) rfl (by decide) kd_105 (wf_lt hw kd_105 rfl) ⟨rfl, rfl, Nat.le_of_ble_eq_true rfl, Nat.le_of_ble_eq_true rfl, Nat.zero_le _, Nat.zero_le _⟩ rfl rfl (Nat.le_of_ble_eq_true rfl) dX8_teachers_32 (ab_kh (k := 0) (n := 0) (fun v_8 h_9 hw_10 f => ?_))
      exact ab_iret C dX8_teachers_35 ⟨hw_10, _, rfl, f⟩
    · have f := f.2 c_7
      refine ab_iload_n C 3 dX8_teachers_19 rfl rfl ?_
      refine ab_i2l C dX8_teachers_20 ?_
      refine ab_lconst C (v := (0 : Int64)) dX8_teachers_21 (by decide) ?_
      refine ab_lconst C (v := (1 : Int64)) dX8_teachers_22 (by decide) ?_
      refine ab_callS C (k := 0) (n := 0) (rest := []) [.long x3.toInt64, .long (0 : Int64), .long (1 : Int64)] cl_X8_44 (mt_X8_in  hw f) ⟨rfl, rfl, Nat.le_of_ble_eq_true rfl, Nat.le_of_ble_eq_true rfl, Nat.zero_le _, Nat.zero_le _⟩ rfl rfl (Nat.le_of_ble_eq_true rfl) dX8_teachers_23 (ab_kp (k := 0) (n := 0) (fun v_11 f => ?_))
      refine ab_if_ne C (tgt := 36) dX8_teachers_26 (by decide) (fun c_12 => ?_) (fun c_12 => ?_)
      · have f := f.2 c_12
        refine ab_aload_n C 0 dX8_teachers_36 rfl rfl ?_
        refine ab_callV C (k := 0) (n := 0) (rest := []) [] cl_X8_256 (mt_X8_keepsAside  hw f) rfl (by decide) kd_105 (wf_lt hw kd_105 rfl) ⟨rfl, rfl, Nat.le_of_ble_eq_true rfl, Nat.le_of_ble_eq_true rfl, Nat.zero_le _, Nat.zero_le _⟩ rfl rfl (Nat.le_of_ble_eq_true rfl) dX8_teachers_37 (ab_kv (k := 0) (n := 0) (fun h_13 hw_14 f => ?_))
        refine ab_iconst C (v := (-1 : Int32)) dX8_teachers_40 (by decide) ?_
        refine ab_istore C (lv' := [(4, .int (-1 : Int32)), (0, .ref (G.1 + 105)), (1, .int x1), (2, .int x2), (3, .int x3)]) dX8_teachers_41 (by decide) rfl ?_
        refine ab_iconst C (v := (0 : Int32)) dX8_teachers_43 (by decide) ?_
        refine ab_istore C (lv' := [(5, .int (0 : Int32)), (4, .int (-1 : Int32)), (0, .ref (G.1 + 105)), (1, .int x1), (2, .int x2), (3, .int x3)]) dX8_teachers_44 (by decide) rfl ?_
        obtain ⟨n0, f⟩ := f
        refine ab_sub (lv' := [(0, .ref (G.1 + 105)), (1, .int x1), (2, .int x2), (3, .int x3), (4, .int (-1 : Int32)), (5, .int (0 : Int32))]) [2, 3, 4, 5, 1, 0] rfl ?_
        exact bt_X8_teachers_L46 C    n0 (-1 : Int32) (0 : Int32) h_13  hw_14 f
      · have f := f.1 c_12
        refine ab_aload_n C 0 dX8_teachers_29 rfl rfl ?_
        refine ab_ldc C kw_t821 dX8_teachers_30 ?_
        refine ab_callV C (k := 0) (n := 0) (rest := []) [.int (-1000000001 : Int32)] cl_X8_84 (mt_X8_errs  hw f) rfl (by decide) kd_105 (wf_lt hw kd_105 rfl) ⟨rfl, rfl, Nat.le_of_ble_eq_true rfl, Nat.le_of_ble_eq_true rfl, Nat.zero_le _, Nat.zero_le _⟩ rfl rfl (Nat.le_of_ble_eq_true rfl) dX8_teachers_32 (ab_kh (k := 0) (n := 0) (fun v_34 h_35 hw_36 f => ?_))
        exact ab_iret C dX8_teachers_35 ⟨hw_36, _, rfl, f⟩
/-! X8_tell -/
def rm_X8_tell : Room := { frames := 3, cells := 0, slots := 0, locals := 121 }
def wp_X8_tell (x1 : Int32) (h : hp_T) (Q : Int32 → hp_T → Prop) : Prop :=
  (((hp_i h 106 8) = (24 : Int32) → wp_X8_errs (-1000000004 : Int32) h (fun v_9 h_10 => (Q v_9 h_10))) ∧ (¬ ((hp_i h 106 8) = (24 : Int32)) → (vp_in ((213 : Int32) + (hp_i h 106 8)) 357) ∧ (∀ h_3, h_3 = hp_si h 106 (((213 : Int32) + (hp_i h 106 8)).toNatClampNeg) x1 → (∀ h_6, h_6 = hp_si h_3 106 8 ((hp_i h_3 106 8) + (1 : Int32)) → (Q (hp_i h_6 106 8) h_6)))))
set_option maxRecDepth 100000 in
set_option maxHeartbeats 4000000 in
theorem mt_X8_tell {l : Launch} {G : ab_G} {x1 : Int32} {h : hp_T} {Q : Int32 → hp_T → Prop} (hw : wf h) (f : wp_X8_tell x1 h Q) : ab_M l G yX8_tell cX8_tell 2 (some .int) rm_X8_tell 0 0 [.ref (G.1 + 105), .int x1] h (po_h Q) := by
  refine ab_intro (own := RX8) (nm := "tell") rfl rfl rfl (Nat.le_of_ble_eq_true rfl) (fun F C => ?_)
  show ab_W l G F 2 (ab_MQ G F (po_h Q) 0 0) 0 0 h [(0, .ref (G.1 + 105)), (1, .int x1)] [] 0
  unfold wp_X8_tell at f
  refine ab_aload_n C 0 dX8_tell_0 rfl rfl ?_
  refine ab_getR C (q := 106) fl_X8_7 rfl kd_105 (wf_lt hw kd_105 rfl) (wr_8_0 hw) dX8_tell_1 ?_
  refine ab_bipush C (v := (8 : Int32)) dX8_tell_4 (by decide) ?_
  refine ab_iald C (by rw [kd_106]; decide) (wf_lt hw kd_106 rfl) (wf_len hw kd_106 rfl rfl (by decide)) (vp_lit (by decide)) (j := 8) (by decide) dX8_tell_6 ?_
  refine ab_bipush C (v := (24 : Int32)) dX8_tell_7 (by decide) ?_
  refine ab_icmp_ne C (tgt := 19) dX8_tell_9 (by decide) (fun c_1 => ?_) (fun c_1 => ?_)
  · have f := f.2 c_1
    refine ab_aload_n C 0 dX8_tell_19 rfl rfl ?_
    refine ab_getR C (q := 106) fl_X8_7 rfl kd_105 (wf_lt hw kd_105 rfl) (wr_8_0 hw) dX8_tell_20 ?_
    refine ab_sipush C (v := (213 : Int32)) dX8_tell_23 (by decide) ?_
    refine ab_aload_n C 0 dX8_tell_26 rfl rfl ?_
    refine ab_getR C (q := 106) fl_X8_7 rfl kd_105 (wf_lt hw kd_105 rfl) (wr_8_0 hw) dX8_tell_27 ?_
    refine ab_bipush C (v := (8 : Int32)) dX8_tell_30 (by decide) ?_
    refine ab_iald C (by rw [kd_106]; decide) (wf_lt hw kd_106 rfl) (wf_len hw kd_106 rfl rfl (by decide)) (vp_lit (by decide)) (j := 8) (by decide) dX8_tell_32 ?_
    refine ab_iadd C dX8_tell_33 ?_
    refine ab_iload_n C 1 dX8_tell_34 rfl rfl ?_
    obtain ⟨c_2, f⟩ := f
    refine ab_iast C (by rw [kd_106]; decide) (wf_lt hw kd_106 rfl) (wf_len hw kd_106 rfl rfl (by decide)) c_2 (j := ((213 : Int32) + (hp_i h 106 8)).toNatClampNeg) rfl dX8_tell_35 (fun h_3 e_4 => ?_)
    have f := f h_3 e_4
    have hw_5 := wf_si e_4 hw
    refine ab_aload_n C 0 dX8_tell_36 rfl rfl ?_
    refine ab_getR C (q := 106) fl_X8_7 rfl kd_105 (wf_lt hw_5 kd_105 rfl) (wr_8_0 hw_5) dX8_tell_37 ?_
    refine ab_bipush C (v := (8 : Int32)) dX8_tell_40 (by decide) ?_
    refine ab_dup2 C dX8_tell_42 rfl rfl ?_
    refine ab_iald C (by rw [kd_106]; decide) (wf_lt hw_5 kd_106 rfl) (wf_len hw_5 kd_106 rfl rfl (by decide)) (vp_lit (by decide)) (j := 8) (by decide) dX8_tell_43 ?_
    refine ab_iconst C (v := (1 : Int32)) dX8_tell_44 (by decide) ?_
    refine ab_iadd C dX8_tell_45 ?_
    refine ab_iast C (by rw [kd_106]; decide) (wf_lt hw_5 kd_106 rfl) (wf_len hw_5 kd_106 rfl rfl (by decide)) (vp_lit (by decide)) (j := 8) (by decide) dX8_tell_46 (fun h_6 e_7 => ?_)
    have f := f h_6 e_7
    have hw_8 := wf_si e_7 hw_5
    refine ab_aload_n C 0 dX8_tell_47 rfl rfl ?_
    refine ab_getR C (q := 106) fl_X8_7 rfl kd_105 (wf_lt hw_8 kd_105 rfl) (wr_8_0 hw_8) dX8_tell_48 ?_
    refine ab_bipush C (v := (8 : Int32)) dX8_tell_51 (by decide) ?_
    refine ab_iald C (by rw [kd_106]; decide) (wf_lt hw_8 kd_106 rfl) (wf_len hw_8 kd_106 rfl rfl (by decide)) (vp_lit (by decide)) (j := 8) (by decide) dX8_tell_53 ?_
    exact ab_iret C dX8_tell_54 ⟨hw_8, _, rfl, f⟩
  · have f := f.1 c_1
    refine ab_aload_n C 0 dX8_tell_12 rfl rfl ?_
    refine ab_ldc C kw_t826 dX8_tell_13 ?_
    refine ab_callV C (k := 0) (n := 0) (rest := []) [.int (-1000000004 : Int32)] cl_X8_84 (mt_X8_errs  hw f) rfl (by decide) kd_105 (wf_lt hw kd_105 rfl) ⟨rfl, rfl, Nat.le_of_ble_eq_true rfl, Nat.le_of_ble_eq_true rfl, Nat.zero_le _, Nat.zero_le _⟩ rfl rfl (Nat.le_of_ble_eq_true rfl) dX8_tell_15 (ab_kh (k := 0) (n := 0) (fun v_9 h_10 hw_11 f => ?_))
    exact ab_iret C dX8_tell_18 ⟨hw_11, _, rfl, f⟩
/-! X8_text -/
def rm_X8_text : Room := { frames := 68, cells := 0, slots := 0, locals := 4260 }
def wp_X8_text_L95 (x1 : Int32) (Q : Int32 → hp_T → Prop) : Nat → Int32 → hp_T → Prop
  | 0 => fun _ _ => False
  | nn + 1 => fun y3 h => (((hp_i h 105 8) ≤ y3 → (vp_in ((9 : Int32) + x1) 357) ∧ (∀ h_33, h_33 = hp_si h 106 (((9 : Int32) + x1).toNatClampNeg) (hp_i h 105 8) → (Q (1 : Int32) h_33))) ∧ (¬ ((hp_i h 105 8) ≤ y3) → (vp_in y3 60) ∧ (vp_in (((237 : Int32) + ((60 : Int32) * x1)) + y3) 357) ∧ (∀ h_38, h_38 = hp_si h 106 ((((237 : Int32) + ((60 : Int32) * x1)) + y3).toNatClampNeg) (hp_i h 111 y3.toNatClampNeg) → (wp_X8_text_L95 x1 Q nn) (y3 + (1 : Int32)) h_38)))
set_option maxRecDepth 100000 in
set_option maxHeartbeats 4000000 in
theorem bt_X8_text_L95 {l : Launch} {G : ab_G} {F : ab_F} {x1 : Int32} {Q : Int32 → hp_T → Prop}  (C : ab_C G F rm_X8_text cX8_text 4 RX8 (some .int) "text")   : ∀ (nn : Nat) (y3 : Int32) (h : hp_T), wf h → wp_X8_text_L95 x1 Q nn y3 h → ab_W l G F 4 (ab_MQ G F (po_h Q) 0 0) 0 0 h [(0, .ref (G.1 + 105)), (1, .int x1), (3, .int y3)] [] 95 := by
  intro nn
  induction nn with
  | zero =>
    intro y3 h hw f
    exact absurd f id
  | succ nn ih =>
    intro y3 h hw f
    unfold wp_X8_text_L95 at f
    refine ab_iload_n C 2 dX8_text_95 rfl rfl ?_
    refine ab_aload_n C 0 dX8_text_96 rfl rfl ?_
    refine ab_getI C fl_X8_167 rfl kd_105 (wf_lt hw kd_105 rfl) dX8_text_97 ?_
    refine ab_icmp_ge C (tgt := 130) dX8_text_100 (by decide) (fun c_31 => ?_) (fun c_31 => ?_)
    · have f := f.1 c_31
      refine ab_aload_n C 0 dX8_text_130 rfl rfl ?_
      refine ab_getR C (q := 106) fl_X8_7 rfl kd_105 (wf_lt hw kd_105 rfl) (wr_8_0 hw) dX8_text_131 ?_
      refine ab_bipush C (v := (9 : Int32)) dX8_text_134 (by decide) ?_
      refine ab_iload_n C 1 dX8_text_136 rfl rfl ?_
      refine ab_iadd C dX8_text_137 ?_
      refine ab_aload_n C 0 dX8_text_138 rfl rfl ?_
      refine ab_getI C fl_X8_167 rfl kd_105 (wf_lt hw kd_105 rfl) dX8_text_139 ?_
      obtain ⟨c_32, f⟩ := f
      refine ab_iast C (by rw [kd_106]; decide) (wf_lt hw kd_106 rfl) (wf_len hw kd_106 rfl rfl (by decide)) c_32 (j := ((9 : Int32) + x1).toNatClampNeg) rfl dX8_text_142 (fun h_33 e_34 => ?_)
      have f := f h_33 e_34
      have hw_35 := wf_si e_34 hw
      refine ab_iconst C (v := (1 : Int32)) dX8_text_143 (by decide) ?_
      exact ab_iret C dX8_text_144 ⟨hw_35, _, rfl, f⟩
    · have f := f.2 c_31
      refine ab_aload_n C 0 dX8_text_103 rfl rfl ?_
      refine ab_getR C (q := 106) fl_X8_7 rfl kd_105 (wf_lt hw kd_105 rfl) (wr_8_0 hw) dX8_text_104 ?_
      refine ab_sipush C (v := (237 : Int32)) dX8_text_107 (by decide) ?_
      refine ab_bipush C (v := (60 : Int32)) dX8_text_110 (by decide) ?_
      refine ab_iload_n C 1 dX8_text_112 rfl rfl ?_
      refine ab_imul C dX8_text_113 ?_
      refine ab_iadd C dX8_text_114 ?_
      refine ab_iload_n C 2 dX8_text_115 rfl rfl ?_
      refine ab_iadd C dX8_text_116 ?_
      refine ab_aload_n C 0 dX8_text_117 rfl rfl ?_
      refine ab_getR C (q := 111) fl_X8_25 rfl kd_105 (wf_lt hw kd_105 rfl) (wr_8_11 hw) dX8_text_118 ?_
      refine ab_iload_n C 2 dX8_text_121 rfl rfl ?_
      obtain ⟨c_36, f⟩ := f
      refine ab_iald C (by rw [kd_111]; decide) (wf_lt hw kd_111 rfl) (wf_len hw kd_111 rfl rfl (by decide)) c_36 (j := y3.toNatClampNeg) rfl dX8_text_122 ?_
      obtain ⟨c_37, f⟩ := f
      refine ab_iast C (by rw [kd_106]; decide) (wf_lt hw kd_106 rfl) (wf_len hw kd_106 rfl rfl (by decide)) c_37 (j := (((237 : Int32) + ((60 : Int32) * x1)) + y3).toNatClampNeg) rfl dX8_text_123 (fun h_38 e_39 => ?_)
      have f := f h_38 e_39
      have hw_40 := wf_si e_39 hw
      refine ab_iinc C (lv' := [(3, .int (y3 + (1 : Int32))), (0, .ref (G.1 + 105)), (1, .int x1)]) 2 (v := (y3 + (1 : Int32))) dX8_text_124 rfl rfl (by decide) rfl ?_
      refine ab_goto C (tgt := 95) dX8_text_127 (by decide) ?_
      refine ab_sub (lv' := [(0, .ref (G.1 + 105)), (1, .int x1), (3, .int (y3 + (1 : Int32)))]) [1, 2, 0] rfl ?_
      exact ih (y3 + (1 : Int32)) h_38  hw_40 f
def wp_X8_text (x1 : Int32) (h : hp_T) (Q : Int32 → hp_T → Prop) : Prop :=
  wp_X8_in x1.toInt64 (0 : Int64) (1 : Int64) h (fun v_1 => ((v_1 = 0 → wp_X8_errs (-1000000001 : Int32) h (fun v_41 h_42 => (Q v_41 h_42))) ∧ (¬ (v_1 = 0) → (∀ h_3, h_3 = hp_si h 105 6 (0 : Int32) → (∀ h_6, h_6 = hp_si h_3 105 7 (0 : Int32) → (∀ h_9, h_9 = hp_si h_6 105 8 (0 : Int32) → (∀ h_12, h_12 = hp_si h_9 105 9 x1 → (∀ h_15, h_15 = hp_si h_12 105 10 (0 : Int32) → (wr_X8 60).1 h_15 (fun h_18 => (((hp_i h_18 105 10) = 0 → (((hp_i h_18 105 6) = (hp_i h_18 106 7) → (∀ h_28, h_28 = hp_si h_18 106 7 (0 : Int32) → (∃ n0, wp_X8_text_L95 x1 Q  n0 (0 : Int32) h_28))) ∧ (¬ ((hp_i h_18 105 6) = (hp_i h_18 106 7)) → (∀ h_25, h_25 = hp_si h_18 106 7 (0 : Int32) → (Q ((-10 : Int32) - (hp_i h_25 105 6)) h_25))))) ∧ (¬ ((hp_i h_18 105 10) = 0) → (∀ h_21, h_21 = hp_si h_18 106 7 (0 : Int32) → (Q ((-10 : Int32) - (hp_i h_21 105 6)) h_21)))))))))))))
set_option maxRecDepth 100000 in
set_option maxHeartbeats 4000000 in
theorem mt_X8_text {l : Launch} {G : ab_G} {x1 : Int32} {h : hp_T} {Q : Int32 → hp_T → Prop} (hw : wf h) (f : wp_X8_text x1 h Q) : ab_M l G yX8_text cX8_text 4 (some .int) rm_X8_text 0 0 [.ref (G.1 + 105), .int x1] h (po_h Q) := by
  refine ab_intro (own := RX8) (nm := "text") rfl rfl rfl (Nat.le_of_ble_eq_true rfl) (fun F C => ?_)
  show ab_W l G F 4 (ab_MQ G F (po_h Q) 0 0) 0 0 h [(0, .ref (G.1 + 105)), (1, .int x1)] [] 0
  unfold wp_X8_text at f
  refine ab_iload_n C 1 dX8_text_0 rfl rfl ?_
  refine ab_i2l C dX8_text_1 ?_
  refine ab_lconst C (v := (0 : Int64)) dX8_text_2 (by decide) ?_
  refine ab_lconst C (v := (1 : Int64)) dX8_text_3 (by decide) ?_
  refine ab_callS C (k := 0) (n := 0) (rest := []) [.long x1.toInt64, .long (0 : Int64), .long (1 : Int64)] cl_X8_44 (mt_X8_in  hw f) ⟨rfl, rfl, Nat.le_of_ble_eq_true rfl, Nat.le_of_ble_eq_true rfl, Nat.zero_le _, Nat.zero_le _⟩ rfl rfl (Nat.le_of_ble_eq_true rfl) dX8_text_4 (ab_kp (k := 0) (n := 0) (fun v_1 f => ?_))
  refine ab_if_ne C (tgt := 17) dX8_text_7 (by decide) (fun c_2 => ?_) (fun c_2 => ?_)
  · have f := f.2 c_2
    refine ab_aload_n C 0 dX8_text_17 rfl rfl ?_
    refine ab_iconst C (v := (0 : Int32)) dX8_text_18 (by decide) ?_
    refine ab_putI C fl_X8_151 rfl kd_105 (wf_lt hw kd_105 rfl) rfl rfl dX8_text_19 (fun h_3 e_4 => ?_)
    have f := f h_3 e_4
    have hw_5 := wf_si e_4 hw
    refine ab_aload_n C 0 dX8_text_22 rfl rfl ?_
    refine ab_iconst C (v := (0 : Int32)) dX8_text_23 (by decide) ?_
    refine ab_putI C fl_X8_190 rfl kd_105 (wf_lt hw_5 kd_105 rfl) rfl rfl dX8_text_24 (fun h_6 e_7 => ?_)
    have f := f h_6 e_7
    have hw_8 := wf_si e_7 hw_5
    refine ab_aload_n C 0 dX8_text_27 rfl rfl ?_
    refine ab_iconst C (v := (0 : Int32)) dX8_text_28 (by decide) ?_
    refine ab_putI C fl_X8_167 rfl kd_105 (wf_lt hw_8 kd_105 rfl) rfl rfl dX8_text_29 (fun h_9 e_10 => ?_)
    have f := f h_9 e_10
    have hw_11 := wf_si e_10 hw_8
    refine ab_aload_n C 0 dX8_text_32 rfl rfl ?_
    refine ab_iload_n C 1 dX8_text_33 rfl rfl ?_
    refine ab_putI C fl_X8_170 rfl kd_105 (wf_lt hw_11 kd_105 rfl) rfl rfl dX8_text_34 (fun h_12 e_13 => ?_)
    have f := f h_12 e_13
    have hw_14 := wf_si e_13 hw_11
    refine ab_aload_n C 0 dX8_text_37 rfl rfl ?_
    refine ab_iconst C (v := (0 : Int32)) dX8_text_38 (by decide) ?_
    refine ab_putI C fl_X8_155 rfl kd_105 (wf_lt hw_14 kd_105 rfl) rfl rfl dX8_text_39 (fun h_15 e_16 => ?_)
    have f := f h_15 e_16
    have hw_17 := wf_si e_16 hw_14
    refine ab_aload_n C 0 dX8_text_42 rfl rfl ?_
    refine ab_callV C (k := 0) (n := 0) (rest := []) [] cl_X8_196 ((mr_X8 l G 60).1  h_15 _ hw_17 f) rfl (by decide) kd_105 (wf_lt hw_17 kd_105 rfl) ⟨rfl, rfl, Nat.le_of_ble_eq_true rfl, Nat.le_of_ble_eq_true rfl, Nat.zero_le _, Nat.zero_le _⟩ rfl rfl (Nat.le_of_ble_eq_true rfl) dX8_text_43 (ab_kv (k := 0) (n := 0) (fun h_18 hw_19 f => ?_))
    refine ab_aload_n C 0 dX8_text_46 rfl rfl ?_
    refine ab_getI C fl_X8_155 rfl kd_105 (wf_lt hw_19 kd_105 rfl) dX8_text_47 ?_
    refine ab_if_ne C (tgt := 71) dX8_text_50 (by decide) (fun c_20 => ?_) (fun c_20 => ?_)
    · have f := f.2 c_20
      refine ab_iconst C (v := (0 : Int32)) dX8_text_71 (by decide) ?_
      refine ab_istore_n C (lv' := [(2, .int (0 : Int32)), (0, .ref (G.1 + 105)), (1, .int x1)]) dX8_text_72 rfl (by decide) rfl ?_
      refine ab_aload_n C 1 dX8_text_73 rfl rfl ?_
      refine ab_getR C (q := 106) fl_X8_7 rfl kd_105 (wf_lt hw_19 kd_105 rfl) (wr_8_0 hw_19) dX8_text_74 ?_
      refine ab_bipush C (v := (7 : Int32)) dX8_text_77 (by decide) ?_
      refine ab_iconst C (v := (0 : Int32)) dX8_text_79 (by decide) ?_
      refine ab_iast C (by rw [kd_106]; decide) (wf_lt hw_19 kd_106 rfl) (wf_len hw_19 kd_106 rfl rfl (by decide)) (vp_lit (by decide)) (j := 7) (by decide) dX8_text_80 (fun h_21 e_22 => ?_)
      have f := f h_21 e_22
      have hw_23 := wf_si e_22 hw_19
      refine ab_iload_n C 0 dX8_text_81 rfl rfl ?_
      refine ab_if_ne C (tgt := 93) dX8_text_82 (by decide) (fun z => absurd z (by decide)) (fun _ => ?_)
      refine ab_bipush C (v := (-10 : Int32)) dX8_text_85 (by decide) ?_
      refine ab_aload_n C 1 dX8_text_87 rfl rfl ?_
      refine ab_getI C fl_X8_151 rfl kd_105 (wf_lt hw_23 kd_105 rfl) dX8_text_88 ?_
      refine ab_isub C dX8_text_91 ?_
      exact ab_iret C dX8_text_92 ⟨hw_23, _, rfl, f⟩
    · have f := f.1 c_20
      refine ab_aload_n C 0 dX8_text_53 rfl rfl ?_
      refine ab_getI C fl_X8_151 rfl kd_105 (wf_lt hw_19 kd_105 rfl) dX8_text_54 ?_
      refine ab_aload_n C 0 dX8_text_57 rfl rfl ?_
      refine ab_getR C (q := 106) fl_X8_7 rfl kd_105 (wf_lt hw_19 kd_105 rfl) (wr_8_0 hw_19) dX8_text_58 ?_
      refine ab_bipush C (v := (7 : Int32)) dX8_text_61 (by decide) ?_
      refine ab_iald C (by rw [kd_106]; decide) (wf_lt hw_19 kd_106 rfl) (wf_len hw_19 kd_106 rfl rfl (by decide)) (vp_lit (by decide)) (j := 7) (by decide) dX8_text_63 ?_
      refine ab_icmp_ne C (tgt := 71) dX8_text_64 (by decide) (fun c_24 => ?_) (fun c_24 => ?_)
      · have f := f.2 c_24
        refine ab_iconst C (v := (0 : Int32)) dX8_text_71 (by decide) ?_
        refine ab_istore_n C (lv' := [(2, .int (0 : Int32)), (0, .ref (G.1 + 105)), (1, .int x1)]) dX8_text_72 rfl (by decide) rfl ?_
        refine ab_aload_n C 1 dX8_text_73 rfl rfl ?_
        refine ab_getR C (q := 106) fl_X8_7 rfl kd_105 (wf_lt hw_19 kd_105 rfl) (wr_8_0 hw_19) dX8_text_74 ?_
        refine ab_bipush C (v := (7 : Int32)) dX8_text_77 (by decide) ?_
        refine ab_iconst C (v := (0 : Int32)) dX8_text_79 (by decide) ?_
        refine ab_iast C (by rw [kd_106]; decide) (wf_lt hw_19 kd_106 rfl) (wf_len hw_19 kd_106 rfl rfl (by decide)) (vp_lit (by decide)) (j := 7) (by decide) dX8_text_80 (fun h_25 e_26 => ?_)
        have f := f h_25 e_26
        have hw_27 := wf_si e_26 hw_19
        refine ab_iload_n C 0 dX8_text_81 rfl rfl ?_
        refine ab_if_ne C (tgt := 93) dX8_text_82 (by decide) (fun z => absurd z (by decide)) (fun _ => ?_)
        refine ab_bipush C (v := (-10 : Int32)) dX8_text_85 (by decide) ?_
        refine ab_aload_n C 1 dX8_text_87 rfl rfl ?_
        refine ab_getI C fl_X8_151 rfl kd_105 (wf_lt hw_27 kd_105 rfl) dX8_text_88 ?_
        refine ab_isub C dX8_text_91 ?_
        exact ab_iret C dX8_text_92 ⟨hw_27, _, rfl, f⟩
      · have f := f.1 c_24
        refine ab_iconst C (v := (1 : Int32)) dX8_text_67 (by decide) ?_
        refine ab_goto C (tgt := 72) dX8_text_68 (by decide) ?_
        refine ab_istore_n C (lv' := [(2, .int (1 : Int32)), (0, .ref (G.1 + 105)), (1, .int x1)]) dX8_text_72 rfl (by decide) rfl ?_
        refine ab_aload_n C 1 dX8_text_73 rfl rfl ?_
        refine ab_getR C (q := 106) fl_X8_7 rfl kd_105 (wf_lt hw_19 kd_105 rfl) (wr_8_0 hw_19) dX8_text_74 ?_
        refine ab_bipush C (v := (7 : Int32)) dX8_text_77 (by decide) ?_
        refine ab_iconst C (v := (0 : Int32)) dX8_text_79 (by decide) ?_
        refine ab_iast C (by rw [kd_106]; decide) (wf_lt hw_19 kd_106 rfl) (wf_len hw_19 kd_106 rfl rfl (by decide)) (vp_lit (by decide)) (j := 7) (by decide) dX8_text_80 (fun h_28 e_29 => ?_)
        have f := f h_28 e_29
        have hw_30 := wf_si e_29 hw_19
        refine ab_iload_n C 0 dX8_text_81 rfl rfl ?_
        refine ab_if_ne C (tgt := 93) dX8_text_82 (by decide) (fun _ => ?_) (fun z => absurd z (by decide))
        refine ab_iconst C (v := (0 : Int32)) dX8_text_93 (by decide) ?_
        refine ab_istore_n C (lv' := [(3, .int (0 : Int32)), (2, .int (1 : Int32)), (0, .ref (G.1 + 105)), (1, .int x1)]) dX8_text_94 rfl (by decide) rfl ?_
        obtain ⟨n0, f⟩ := f
        refine ab_sub (lv' := [(0, .ref (G.1 + 105)), (1, .int x1), (3, .int (0 : Int32))]) [2, 3, 0] rfl ?_
        exact bt_X8_text_L95 C    n0 (0 : Int32) h_28  hw_30 f
  · have f := f.1 c_2
    refine ab_aload_n C 0 dX8_text_10 rfl rfl ?_
    refine ab_ldc C kw_t821 dX8_text_11 ?_
    refine ab_callV C (k := 0) (n := 0) (rest := []) [.int (-1000000001 : Int32)] cl_X8_84 (mt_X8_errs  hw f) rfl (by decide) kd_105 (wf_lt hw kd_105 rfl) ⟨rfl, rfl, Nat.le_of_ble_eq_true rfl, Nat.le_of_ble_eq_true rfl, Nat.zero_le _, Nat.zero_le _⟩ rfl rfl (Nat.le_of_ble_eq_true rfl) dX8_text_13 (ab_kh (k := 0) (n := 0) (fun v_41 h_42 hw_43 f => ?_))
    exact ab_iret C dX8_text_16 ⟨hw_43, _, rfl, f⟩
/-! X8_then -/
def rm_X8_then : Room := { frames := 8, cells := 0, slots := 0, locals := 245 }
def wp_X8_then (x1 : Int32) (x2 : Int32) (x3 : Int32) (h : hp_T) (Q : Int32 → hp_T → Prop) : Prop :=
  wp_X8_in x1.toInt64 (0 : Int64) (90 : Int64) h (fun v_1 => ((v_1 = 0 → wp_X8_errs (-1000000001 : Int32) h (fun v_3 h_4 => (Q v_3 h_4))) ∧ (¬ (v_1 = 0) → wp_X8_isBunk x2 h (fun v_6 => ((v_6 = 0 → wp_X8_errs (-1000000001 : Int32) h (fun v_8 h_9 => (Q v_8 h_9))) ∧ (¬ (v_6 = 0) → wp_X8_in x3.toInt64 (0 : Int64) (23 : Int64) h (fun v_11 => ((v_11 = 0 → wp_X8_errs (-1000000001 : Int32) h (fun v_22 h_23 => (Q v_22 h_23))) ∧ (¬ (v_11 = 0) → wp_X8_keepsAside h (fun h_13 => wp_X8_daysGo x1 (0 : Int32) h_13 (fun h_15 => wp_X8_ofMan x2 x3 h_15 (fun v_17 h_18 => wp_X8_putsBack h_18 (fun h_20 => (Q v_17 h_20))))))))))))))
set_option maxRecDepth 100000 in
set_option maxHeartbeats 4000000 in
theorem mt_X8_then {l : Launch} {G : ab_G} {x1 : Int32} {x2 : Int32} {x3 : Int32} {h : hp_T} {Q : Int32 → hp_T → Prop} (hw : wf h) (f : wp_X8_then x1 x2 x3 h Q) : ab_M l G yX8_then cX8_then 5 (some .int) rm_X8_then 0 0 [.ref (G.1 + 105), .int x1, .int x2, .int x3] h (po_h Q) := by
  refine ab_intro (own := RX8) (nm := "then") rfl rfl rfl (Nat.le_of_ble_eq_true rfl) (fun F C => ?_)
  show ab_W l G F 5 (ab_MQ G F (po_h Q) 0 0) 0 0 h [(0, .ref (G.1 + 105)), (1, .int x1), (2, .int x2), (3, .int x3)] [] 0
  unfold wp_X8_then at f
  refine ab_iload_n C 1 dX8_then_0 rfl rfl ?_
  refine ab_i2l C dX8_then_1 ?_
  refine ab_lconst C (v := (0 : Int64)) dX8_then_2 (by decide) ?_
  refine ab_ldc2 C kw_t1020 dX8_then_3 ?_
  refine ab_callS C (k := 0) (n := 0) (rest := []) [.long x1.toInt64, .long (0 : Int64), .long (90 : Int64)] cl_X8_44 (mt_X8_in  hw f) ⟨rfl, rfl, Nat.le_of_ble_eq_true rfl, Nat.le_of_ble_eq_true rfl, Nat.zero_le _, Nat.zero_le _⟩ rfl rfl (Nat.le_of_ble_eq_true rfl) dX8_then_6 (ab_kp (k := 0) (n := 0) (fun v_1 f => ?_))
  refine ab_if_eq C (tgt := 32) dX8_then_9 (by decide) (fun c_2 => ?_) (fun c_2 => ?_)
  · have f := f.1 c_2
    refine ab_aload_n C 0 dX8_then_32 rfl rfl ?_
    refine ab_ldc C kw_t821 dX8_then_33 ?_
    refine ab_callV C (k := 0) (n := 0) (rest := []) [.int (-1000000001 : Int32)] cl_X8_84 (mt_X8_errs  hw f) rfl (by decide) kd_105 (wf_lt hw kd_105 rfl) ⟨rfl, rfl, Nat.le_of_ble_eq_true rfl, Nat.le_of_ble_eq_true rfl, Nat.zero_le _, Nat.zero_le _⟩ rfl rfl (Nat.le_of_ble_eq_true rfl) dX8_then_35 (ab_kh (k := 0) (n := 0) (fun v_3 h_4 hw_5 f => ?_))
    exact ab_iret C dX8_then_38 ⟨hw_5, _, rfl, f⟩
  · have f := f.2 c_2
    refine ab_aload_n C 0 dX8_then_12 rfl rfl ?_
    refine ab_iload_n C 2 dX8_then_13 rfl rfl ?_
    refine ab_callV C (k := 0) (n := 0) (rest := []) [.int x2] cl_X8_98 (mt_X8_isBunk  hw f) rfl (by decide) kd_105 (wf_lt hw kd_105 rfl) ⟨rfl, rfl, Nat.le_of_ble_eq_true rfl, Nat.le_of_ble_eq_true rfl, Nat.zero_le _, Nat.zero_le _⟩ rfl rfl (Nat.le_of_ble_eq_true rfl) dX8_then_14 (ab_kp (k := 0) (n := 0) (fun v_6 f => ?_))
    refine ab_if_eq C (tgt := 32) dX8_then_17 (by decide) (fun c_7 => ?_) (fun c_7 => ?_)
    · have f := f.1 c_7
      refine ab_aload_n C 0 dX8_then_32 rfl rfl ?_
      refine ab_ldc C kw_t821 dX8_then_33 ?_
      refine ab_callV C (k := 0) (n := 0) (rest := []) [.int (-1000000001 : Int32)] cl_X8_84 (mt_X8_errs  hw f) rfl (by decide) kd_105 (wf_lt hw kd_105 rfl) ⟨rfl, rfl, Nat.le_of_ble_eq_true rfl, Nat.le_of_ble_eq_true rfl, Nat.zero_le _, Nat.zero_le _⟩ rfl rfl (Nat.le_of_ble_eq_true rfl) dX8_then_35 (ab_kh (k := 0) (n := 0) (fun v_8 h_9 hw_10 f => ?_))
      exact ab_iret C dX8_then_38 ⟨hw_10, _, rfl, f⟩
    · have f := f.2 c_7
      refine ab_iload_n C 3 dX8_then_20 rfl rfl ?_
      refine ab_i2l C dX8_then_21 ?_
      refine ab_lconst C (v := (0 : Int64)) dX8_then_22 (by decide) ?_
      refine ab_ldc2 C kw_t845 dX8_then_23 ?_
      refine ab_callS C (k := 0) (n := 0) (rest := []) [.long x3.toInt64, .long (0 : Int64), .long (23 : Int64)] cl_X8_44 (mt_X8_in  hw f) ⟨rfl, rfl, Nat.le_of_ble_eq_true rfl, Nat.le_of_ble_eq_true rfl, Nat.zero_le _, Nat.zero_le _⟩ rfl rfl (Nat.le_of_ble_eq_true rfl) dX8_then_26 (ab_kp (k := 0) (n := 0) (fun v_11 f => ?_))
      refine ab_if_ne C (tgt := 39) dX8_then_29 (by decide) (fun c_12 => ?_) (fun c_12 => ?_)
      · have f := f.2 c_12
        refine ab_aload_n C 0 dX8_then_39 rfl rfl ?_
        refine ab_callV C (k := 0) (n := 0) (rest := []) [] cl_X8_256 (mt_X8_keepsAside  hw f) rfl (by decide) kd_105 (wf_lt hw kd_105 rfl) ⟨rfl, rfl, Nat.le_of_ble_eq_true rfl, Nat.le_of_ble_eq_true rfl, Nat.zero_le _, Nat.zero_le _⟩ rfl rfl (Nat.le_of_ble_eq_true rfl) dX8_then_40 (ab_kv (k := 0) (n := 0) (fun h_13 hw_14 f => ?_))
        refine ab_aload_n C 0 dX8_then_43 rfl rfl ?_
        refine ab_iload_n C 1 dX8_then_44 rfl rfl ?_
        refine ab_iconst C (v := (0 : Int32)) dX8_then_45 (by decide) ?_
        refine ab_callV C (k := 0) (n := 0) (rest := []) [.int x1, .int (0 : Int32)] cl_X8_251 (mt_X8_daysGo  hw_14 f) rfl (by decide) kd_105 (wf_lt hw_14 kd_105 rfl) ⟨rfl, rfl, Nat.le_of_ble_eq_true rfl, Nat.le_of_ble_eq_true rfl, Nat.zero_le _, Nat.zero_le _⟩ rfl rfl (Nat.le_of_ble_eq_true rfl) dX8_then_46 (ab_kv (k := 0) (n := 0) (fun h_15 hw_16 f => ?_))
        refine ab_aload_n C 0 dX8_then_49 rfl rfl ?_
        refine ab_iload_n C 2 dX8_then_50 rfl rfl ?_
        refine ab_iload_n C 3 dX8_then_51 rfl rfl ?_
        refine ab_callV C (k := 0) (n := 0) (rest := []) [.int x2, .int x3] cl_X8_103 (mt_X8_ofMan  hw_16 f) rfl (by decide) kd_105 (wf_lt hw_16 kd_105 rfl) ⟨rfl, rfl, Nat.le_of_ble_eq_true rfl, Nat.le_of_ble_eq_true rfl, Nat.zero_le _, Nat.zero_le _⟩ rfl rfl (Nat.le_of_ble_eq_true rfl) dX8_then_52 (ab_kh (k := 0) (n := 0) (fun v_17 h_18 hw_19 f => ?_))
        refine ab_istore C (lv' := [(4, .int v_17), (0, .ref (G.1 + 105)), (1, .int x1), (2, .int x2), (3, .int x3)]) dX8_then_55 (by decide) rfl ?_
        refine ab_aload_n C 1 dX8_then_57 rfl rfl ?_
        refine ab_callV C (k := 0) (n := 0) (rest := []) [] cl_X8_259 (mt_X8_putsBack  hw_19 f) rfl (by decide) kd_105 (wf_lt hw_19 kd_105 rfl) ⟨rfl, rfl, Nat.le_of_ble_eq_true rfl, Nat.le_of_ble_eq_true rfl, Nat.zero_le _, Nat.zero_le _⟩ rfl rfl (Nat.le_of_ble_eq_true rfl) dX8_then_58 (ab_kv (k := 0) (n := 0) (fun h_20 hw_21 f => ?_))
        refine ab_iload C 0 dX8_then_61 rfl ?_
        exact ab_iret C dX8_then_63 ⟨hw_21, _, rfl, f⟩
      · have f := f.1 c_12
        refine ab_aload_n C 0 dX8_then_32 rfl rfl ?_
        refine ab_ldc C kw_t821 dX8_then_33 ?_
        refine ab_callV C (k := 0) (n := 0) (rest := []) [.int (-1000000001 : Int32)] cl_X8_84 (mt_X8_errs  hw f) rfl (by decide) kd_105 (wf_lt hw kd_105 rfl) ⟨rfl, rfl, Nat.le_of_ble_eq_true rfl, Nat.le_of_ble_eq_true rfl, Nat.zero_le _, Nat.zero_le _⟩ rfl rfl (Nat.le_of_ble_eq_true rfl) dX8_then_35 (ab_kh (k := 0) (n := 0) (fun v_22 h_23 hw_24 f => ?_))
        exact ab_iret C dX8_then_38 ⟨hw_24, _, rfl, f⟩
/-! X8_thenTask -/
def rm_X8_thenTask : Room := { frames := 8, cells := 0, slots := 0, locals := 245 }
def wp_X8_thenTask (x1 : Int32) (x2 : Int32) (x3 : Int32) (h : hp_T) (Q : Int32 → hp_T → Prop) : Prop :=
  wp_X8_in x1.toInt64 (0 : Int64) (90 : Int64) h (fun v_1 => ((v_1 = 0 → wp_X8_errs (-1000000001 : Int32) h (fun v_3 h_4 => (Q v_3 h_4))) ∧ (¬ (v_1 = 0) → wp_X8_in x2.toInt64 (0 : Int64) (3 : Int64) h (fun v_6 => ((v_6 = 0 → wp_X8_errs (-1000000001 : Int32) h (fun v_8 h_9 => (Q v_8 h_9))) ∧ (¬ (v_6 = 0) → wp_X8_in x3.toInt64 (0 : Int64) (4 : Int64) h (fun v_11 => ((v_11 = 0 → wp_X8_errs (-1000000001 : Int32) h (fun v_20 h_21 => (Q v_20 h_21))) ∧ (¬ (v_11 = 0) → wp_X8_keepsAside h (fun h_13 => wp_X8_daysGo x1 (0 : Int32) h_13 (fun h_15 => wp_X8_toldTask x2 x3 h_15 (fun v_17 => wp_X8_putsBack h_15 (fun h_18 => (Q v_17 h_18))))))))))))))
set_option maxRecDepth 100000 in
set_option maxHeartbeats 4000000 in
theorem mt_X8_thenTask {l : Launch} {G : ab_G} {x1 : Int32} {x2 : Int32} {x3 : Int32} {h : hp_T} {Q : Int32 → hp_T → Prop} (hw : wf h) (f : wp_X8_thenTask x1 x2 x3 h Q) : ab_M l G yX8_thenTask cX8_thenTask 5 (some .int) rm_X8_thenTask 0 0 [.ref (G.1 + 105), .int x1, .int x2, .int x3] h (po_h Q) := by
  refine ab_intro (own := RX8) (nm := "thenTask") rfl rfl rfl (Nat.le_of_ble_eq_true rfl) (fun F C => ?_)
  show ab_W l G F 5 (ab_MQ G F (po_h Q) 0 0) 0 0 h [(0, .ref (G.1 + 105)), (1, .int x1), (2, .int x2), (3, .int x3)] [] 0
  unfold wp_X8_thenTask at f
  refine ab_iload_n C 1 dX8_thenTask_0 rfl rfl ?_
  refine ab_i2l C dX8_thenTask_1 ?_
  refine ab_lconst C (v := (0 : Int64)) dX8_thenTask_2 (by decide) ?_
  refine ab_ldc2 C kw_t1020 dX8_thenTask_3 ?_
  refine ab_callS C (k := 0) (n := 0) (rest := []) [.long x1.toInt64, .long (0 : Int64), .long (90 : Int64)] cl_X8_44 (mt_X8_in  hw f) ⟨rfl, rfl, Nat.le_of_ble_eq_true rfl, Nat.le_of_ble_eq_true rfl, Nat.zero_le _, Nat.zero_le _⟩ rfl rfl (Nat.le_of_ble_eq_true rfl) dX8_thenTask_6 (ab_kp (k := 0) (n := 0) (fun v_1 f => ?_))
  refine ab_if_eq C (tgt := 36) dX8_thenTask_9 (by decide) (fun c_2 => ?_) (fun c_2 => ?_)
  · have f := f.1 c_2
    refine ab_aload_n C 0 dX8_thenTask_36 rfl rfl ?_
    refine ab_ldc C kw_t821 dX8_thenTask_37 ?_
    refine ab_callV C (k := 0) (n := 0) (rest := []) [.int (-1000000001 : Int32)] cl_X8_84 (mt_X8_errs  hw f) rfl (by decide) kd_105 (wf_lt hw kd_105 rfl) ⟨rfl, rfl, Nat.le_of_ble_eq_true rfl, Nat.le_of_ble_eq_true rfl, Nat.zero_le _, Nat.zero_le _⟩ rfl rfl (Nat.le_of_ble_eq_true rfl) dX8_thenTask_39 (ab_kh (k := 0) (n := 0) (fun v_3 h_4 hw_5 f => ?_))
    exact ab_iret C dX8_thenTask_42 ⟨hw_5, _, rfl, f⟩
  · have f := f.2 c_2
    refine ab_iload_n C 2 dX8_thenTask_12 rfl rfl ?_
    refine ab_i2l C dX8_thenTask_13 ?_
    refine ab_lconst C (v := (0 : Int64)) dX8_thenTask_14 (by decide) ?_
    refine ab_ldc2 C kw_t924 dX8_thenTask_15 ?_
    refine ab_callS C (k := 0) (n := 0) (rest := []) [.long x2.toInt64, .long (0 : Int64), .long (3 : Int64)] cl_X8_44 (mt_X8_in  hw f) ⟨rfl, rfl, Nat.le_of_ble_eq_true rfl, Nat.le_of_ble_eq_true rfl, Nat.zero_le _, Nat.zero_le _⟩ rfl rfl (Nat.le_of_ble_eq_true rfl) dX8_thenTask_18 (ab_kp (k := 0) (n := 0) (fun v_6 f => ?_))
    refine ab_if_eq C (tgt := 36) dX8_thenTask_21 (by decide) (fun c_7 => ?_) (fun c_7 => ?_)
    · have f := f.1 c_7
      refine ab_aload_n C 0 dX8_thenTask_36 rfl rfl ?_
      refine ab_ldc C kw_t821 dX8_thenTask_37 ?_
      refine ab_callV C (k := 0) (n := 0) (rest := []) [.int (-1000000001 : Int32)] cl_X8_84 (mt_X8_errs  hw f) rfl (by decide) kd_105 (wf_lt hw kd_105 rfl) ⟨rfl, rfl, Nat.le_of_ble_eq_true rfl, Nat.le_of_ble_eq_true rfl, Nat.zero_le _, Nat.zero_le _⟩ rfl rfl (Nat.le_of_ble_eq_true rfl) dX8_thenTask_39 (ab_kh (k := 0) (n := 0) (fun v_8 h_9 hw_10 f => ?_))
      exact ab_iret C dX8_thenTask_42 ⟨hw_10, _, rfl, f⟩
    · have f := f.2 c_7
      refine ab_iload_n C 3 dX8_thenTask_24 rfl rfl ?_
      refine ab_i2l C dX8_thenTask_25 ?_
      refine ab_lconst C (v := (0 : Int64)) dX8_thenTask_26 (by decide) ?_
      refine ab_ldc2 C kw_t936 dX8_thenTask_27 ?_
      refine ab_callS C (k := 0) (n := 0) (rest := []) [.long x3.toInt64, .long (0 : Int64), .long (4 : Int64)] cl_X8_44 (mt_X8_in  hw f) ⟨rfl, rfl, Nat.le_of_ble_eq_true rfl, Nat.le_of_ble_eq_true rfl, Nat.zero_le _, Nat.zero_le _⟩ rfl rfl (Nat.le_of_ble_eq_true rfl) dX8_thenTask_30 (ab_kp (k := 0) (n := 0) (fun v_11 f => ?_))
      refine ab_if_ne C (tgt := 43) dX8_thenTask_33 (by decide) (fun c_12 => ?_) (fun c_12 => ?_)
      · have f := f.2 c_12
        refine ab_aload_n C 0 dX8_thenTask_43 rfl rfl ?_
        refine ab_callV C (k := 0) (n := 0) (rest := []) [] cl_X8_256 (mt_X8_keepsAside  hw f) rfl (by decide) kd_105 (wf_lt hw kd_105 rfl) ⟨rfl, rfl, Nat.le_of_ble_eq_true rfl, Nat.le_of_ble_eq_true rfl, Nat.zero_le _, Nat.zero_le _⟩ rfl rfl (Nat.le_of_ble_eq_true rfl) dX8_thenTask_44 (ab_kv (k := 0) (n := 0) (fun h_13 hw_14 f => ?_))
        refine ab_aload_n C 0 dX8_thenTask_47 rfl rfl ?_
        refine ab_iload_n C 1 dX8_thenTask_48 rfl rfl ?_
        refine ab_iconst C (v := (0 : Int32)) dX8_thenTask_49 (by decide) ?_
        refine ab_callV C (k := 0) (n := 0) (rest := []) [.int x1, .int (0 : Int32)] cl_X8_251 (mt_X8_daysGo  hw_14 f) rfl (by decide) kd_105 (wf_lt hw_14 kd_105 rfl) ⟨rfl, rfl, Nat.le_of_ble_eq_true rfl, Nat.le_of_ble_eq_true rfl, Nat.zero_le _, Nat.zero_le _⟩ rfl rfl (Nat.le_of_ble_eq_true rfl) dX8_thenTask_50 (ab_kv (k := 0) (n := 0) (fun h_15 hw_16 f => ?_))
        refine ab_aload_n C 0 dX8_thenTask_53 rfl rfl ?_
        refine ab_iload_n C 2 dX8_thenTask_54 rfl rfl ?_
        refine ab_iload_n C 3 dX8_thenTask_55 rfl rfl ?_
        refine ab_callV C (k := 0) (n := 0) (rest := []) [.int x2, .int x3] cl_X8_144 (mt_X8_toldTask  hw_16 f) rfl (by decide) kd_105 (wf_lt hw_16 kd_105 rfl) ⟨rfl, rfl, Nat.le_of_ble_eq_true rfl, Nat.le_of_ble_eq_true rfl, Nat.zero_le _, Nat.zero_le _⟩ rfl rfl (Nat.le_of_ble_eq_true rfl) dX8_thenTask_56 (ab_kp (k := 0) (n := 0) (fun v_17 f => ?_))
        refine ab_istore C (lv' := [(4, .int v_17), (0, .ref (G.1 + 105)), (1, .int x1), (2, .int x2), (3, .int x3)]) dX8_thenTask_59 (by decide) rfl ?_
        refine ab_aload_n C 1 dX8_thenTask_61 rfl rfl ?_
        refine ab_callV C (k := 0) (n := 0) (rest := []) [] cl_X8_259 (mt_X8_putsBack  hw_16 f) rfl (by decide) kd_105 (wf_lt hw_16 kd_105 rfl) ⟨rfl, rfl, Nat.le_of_ble_eq_true rfl, Nat.le_of_ble_eq_true rfl, Nat.zero_le _, Nat.zero_le _⟩ rfl rfl (Nat.le_of_ble_eq_true rfl) dX8_thenTask_62 (ab_kv (k := 0) (n := 0) (fun h_18 hw_19 f => ?_))
        refine ab_iload C 0 dX8_thenTask_65 rfl ?_
        exact ab_iret C dX8_thenTask_67 ⟨hw_19, _, rfl, f⟩
      · have f := f.1 c_12
        refine ab_aload_n C 0 dX8_thenTask_36 rfl rfl ?_
        refine ab_ldc C kw_t821 dX8_thenTask_37 ?_
        refine ab_callV C (k := 0) (n := 0) (rest := []) [.int (-1000000001 : Int32)] cl_X8_84 (mt_X8_errs  hw f) rfl (by decide) kd_105 (wf_lt hw kd_105 rfl) ⟨rfl, rfl, Nat.le_of_ble_eq_true rfl, Nat.le_of_ble_eq_true rfl, Nat.zero_le _, Nat.zero_le _⟩ rfl rfl (Nat.le_of_ble_eq_true rfl) dX8_thenTask_39 (ab_kh (k := 0) (n := 0) (fun v_20 h_21 hw_22 f => ?_))
        exact ab_iret C dX8_thenTask_42 ⟨hw_22, _, rfl, f⟩
/-! X8_told -/
def rm_X8_told : Room := { frames := 3, cells := 0, slots := 0, locals := 125 }
def wp_X8_told (x1 : Int32) (h : hp_T) (Q : Int32 → hp_T → Prop) : Prop :=
  wp_X8_in x1.toInt64 (1 : Int64) (6 : Int64) h (fun v_1 => ((v_1 = 0 → wp_X8_errs (-1000000001 : Int32) h (fun v_3 h_4 => (Q v_3 h_4))) ∧ (¬ (v_1 = 0) → (vp_in (x1 - (1 : Int32)) 6) ∧ (Q (hp_i h 109 ((x1 - (1 : Int32)).toNatClampNeg)) h))))
set_option maxRecDepth 100000 in
set_option maxHeartbeats 4000000 in
theorem mt_X8_told {l : Launch} {G : ab_G} {x1 : Int32} {h : hp_T} {Q : Int32 → hp_T → Prop} (hw : wf h) (f : wp_X8_told x1 h Q) : ab_M l G yX8_told cX8_told 2 (some .int) rm_X8_told 0 0 [.ref (G.1 + 105), .int x1] h (po_h Q) := by
  refine ab_intro (own := RX8) (nm := "told") rfl rfl rfl (Nat.le_of_ble_eq_true rfl) (fun F C => ?_)
  show ab_W l G F 2 (ab_MQ G F (po_h Q) 0 0) 0 0 h [(0, .ref (G.1 + 105)), (1, .int x1)] [] 0
  unfold wp_X8_told at f
  refine ab_iload_n C 1 dX8_told_0 rfl rfl ?_
  refine ab_i2l C dX8_told_1 ?_
  refine ab_lconst C (v := (1 : Int64)) dX8_told_2 (by decide) ?_
  refine ab_ldc2 C kw_t879 dX8_told_3 ?_
  refine ab_callS C (k := 0) (n := 0) (rest := []) [.long x1.toInt64, .long (1 : Int64), .long (6 : Int64)] cl_X8_44 (mt_X8_in  hw f) ⟨rfl, rfl, Nat.le_of_ble_eq_true rfl, Nat.le_of_ble_eq_true rfl, Nat.zero_le _, Nat.zero_le _⟩ rfl rfl (Nat.le_of_ble_eq_true rfl) dX8_told_6 (ab_kp (k := 0) (n := 0) (fun v_1 f => ?_))
  refine ab_if_eq C (tgt := 23) dX8_told_9 (by decide) (fun c_2 => ?_) (fun c_2 => ?_)
  · have f := f.1 c_2
    refine ab_aload_n C 0 dX8_told_23 rfl rfl ?_
    refine ab_ldc C kw_t821 dX8_told_24 ?_
    refine ab_callV C (k := 0) (n := 0) (rest := []) [.int (-1000000001 : Int32)] cl_X8_84 (mt_X8_errs  hw f) rfl (by decide) kd_105 (wf_lt hw kd_105 rfl) ⟨rfl, rfl, Nat.le_of_ble_eq_true rfl, Nat.le_of_ble_eq_true rfl, Nat.zero_le _, Nat.zero_le _⟩ rfl rfl (Nat.le_of_ble_eq_true rfl) dX8_told_26 (ab_kh (k := 0) (n := 0) (fun v_3 h_4 hw_5 f => ?_))
    exact ab_iret C dX8_told_29 ⟨hw_5, _, rfl, f⟩
  · have f := f.2 c_2
    refine ab_aload_n C 0 dX8_told_12 rfl rfl ?_
    refine ab_getR C (q := 109) fl_X8_19 rfl kd_105 (wf_lt hw kd_105 rfl) (wr_8_3 hw) dX8_told_13 ?_
    refine ab_iload_n C 1 dX8_told_16 rfl rfl ?_
    refine ab_iconst C (v := (1 : Int32)) dX8_told_17 (by decide) ?_
    refine ab_isub C dX8_told_18 ?_
    obtain ⟨c_6, f⟩ := f
    refine ab_iald C (by rw [kd_109]; decide) (wf_lt hw kd_109 rfl) (wf_len hw kd_109 rfl rfl (by decide)) c_6 (j := (x1 - (1 : Int32)).toNatClampNeg) rfl dX8_told_19 ?_
    refine ab_goto C (tgt := 29) dX8_told_20 (by decide) ?_
    exact ab_iret C dX8_told_29 ⟨hw, _, rfl, f⟩
/-! X8_untell -/
def rm_X8_untell : Room := { frames := 3, cells := 0, slots := 0, locals := 125 }
def wp_X8_untell (x1 : Int32) (h : hp_T) (Q : Int32 → hp_T → Prop) : Prop :=
  wp_X8_in x1.toInt64 (0 : Int64) (1 : Int64) h (fun v_1 => ((v_1 = 0 → wp_X8_errs (-1000000001 : Int32) h (fun v_13 h_14 => (Q v_13 h_14))) ∧ (¬ (v_1 = 0) → (vp_in ((9 : Int32) + x1) 357) ∧ (((hp_i h 106 (((9 : Int32) + x1).toNatClampNeg)) ≤ 0 → (vp_in ((9 : Int32) + x1) 357) ∧ (∀ h_6, h_6 = hp_si h 106 (((9 : Int32) + x1).toNatClampNeg) (0 : Int32) → (Q (0 : Int32) h_6))) ∧ (¬ ((hp_i h 106 (((9 : Int32) + x1).toNatClampNeg)) ≤ 0) → (vp_in ((9 : Int32) + x1) 357) ∧ (∀ h_10, h_10 = hp_si h 106 (((9 : Int32) + x1).toNatClampNeg) (0 : Int32) → (Q (1 : Int32) h_10)))))))
set_option maxRecDepth 100000 in
set_option maxHeartbeats 4000000 in
theorem mt_X8_untell {l : Launch} {G : ab_G} {x1 : Int32} {h : hp_T} {Q : Int32 → hp_T → Prop} (hw : wf h) (f : wp_X8_untell x1 h Q) : ab_M l G yX8_untell cX8_untell 3 (some .int) rm_X8_untell 0 0 [.ref (G.1 + 105), .int x1] h (po_h Q) := by
  refine ab_intro (own := RX8) (nm := "untell") rfl rfl rfl (Nat.le_of_ble_eq_true rfl) (fun F C => ?_)
  show ab_W l G F 3 (ab_MQ G F (po_h Q) 0 0) 0 0 h [(0, .ref (G.1 + 105)), (1, .int x1)] [] 0
  unfold wp_X8_untell at f
  refine ab_iload_n C 1 dX8_untell_0 rfl rfl ?_
  refine ab_i2l C dX8_untell_1 ?_
  refine ab_lconst C (v := (0 : Int64)) dX8_untell_2 (by decide) ?_
  refine ab_lconst C (v := (1 : Int64)) dX8_untell_3 (by decide) ?_
  refine ab_callS C (k := 0) (n := 0) (rest := []) [.long x1.toInt64, .long (0 : Int64), .long (1 : Int64)] cl_X8_44 (mt_X8_in  hw f) ⟨rfl, rfl, Nat.le_of_ble_eq_true rfl, Nat.le_of_ble_eq_true rfl, Nat.zero_le _, Nat.zero_le _⟩ rfl rfl (Nat.le_of_ble_eq_true rfl) dX8_untell_4 (ab_kp (k := 0) (n := 0) (fun v_1 f => ?_))
  refine ab_if_ne C (tgt := 17) dX8_untell_7 (by decide) (fun c_2 => ?_) (fun c_2 => ?_)
  · have f := f.2 c_2
    refine ab_aload_n C 0 dX8_untell_17 rfl rfl ?_
    refine ab_getR C (q := 106) fl_X8_7 rfl kd_105 (wf_lt hw kd_105 rfl) (wr_8_0 hw) dX8_untell_18 ?_
    refine ab_bipush C (v := (9 : Int32)) dX8_untell_21 (by decide) ?_
    refine ab_iload_n C 1 dX8_untell_23 rfl rfl ?_
    refine ab_iadd C dX8_untell_24 ?_
    obtain ⟨c_3, f⟩ := f
    refine ab_iald C (by rw [kd_106]; decide) (wf_lt hw kd_106 rfl) (wf_len hw kd_106 rfl rfl (by decide)) c_3 (j := ((9 : Int32) + x1).toNatClampNeg) rfl dX8_untell_25 ?_
    refine ab_if_le C (tgt := 33) dX8_untell_26 (by decide) (fun c_4 => ?_) (fun c_4 => ?_)
    · have f := f.1 c_4
      refine ab_iconst C (v := (0 : Int32)) dX8_untell_33 (by decide) ?_
      refine ab_istore_n C (lv' := [(2, .int (0 : Int32)), (0, .ref (G.1 + 105)), (1, .int x1)]) dX8_untell_34 rfl (by decide) rfl ?_
      refine ab_aload_n C 1 dX8_untell_35 rfl rfl ?_
      refine ab_getR C (q := 106) fl_X8_7 rfl kd_105 (wf_lt hw kd_105 rfl) (wr_8_0 hw) dX8_untell_36 ?_
      refine ab_bipush C (v := (9 : Int32)) dX8_untell_39 (by decide) ?_
      refine ab_iload_n C 2 dX8_untell_41 rfl rfl ?_
      refine ab_iadd C dX8_untell_42 ?_
      refine ab_iconst C (v := (0 : Int32)) dX8_untell_43 (by decide) ?_
      obtain ⟨c_5, f⟩ := f
      refine ab_iast C (by rw [kd_106]; decide) (wf_lt hw kd_106 rfl) (wf_len hw kd_106 rfl rfl (by decide)) c_5 (j := ((9 : Int32) + x1).toNatClampNeg) rfl dX8_untell_44 (fun h_6 e_7 => ?_)
      have f := f h_6 e_7
      have hw_8 := wf_si e_7 hw
      refine ab_iload_n C 0 dX8_untell_45 rfl rfl ?_
      exact ab_iret C dX8_untell_46 ⟨hw_8, _, rfl, f⟩
    · have f := f.2 c_4
      refine ab_iconst C (v := (1 : Int32)) dX8_untell_29 (by decide) ?_
      refine ab_goto C (tgt := 34) dX8_untell_30 (by decide) ?_
      refine ab_istore_n C (lv' := [(2, .int (1 : Int32)), (0, .ref (G.1 + 105)), (1, .int x1)]) dX8_untell_34 rfl (by decide) rfl ?_
      refine ab_aload_n C 1 dX8_untell_35 rfl rfl ?_
      refine ab_getR C (q := 106) fl_X8_7 rfl kd_105 (wf_lt hw kd_105 rfl) (wr_8_0 hw) dX8_untell_36 ?_
      refine ab_bipush C (v := (9 : Int32)) dX8_untell_39 (by decide) ?_
      refine ab_iload_n C 2 dX8_untell_41 rfl rfl ?_
      refine ab_iadd C dX8_untell_42 ?_
      refine ab_iconst C (v := (0 : Int32)) dX8_untell_43 (by decide) ?_
      obtain ⟨c_9, f⟩ := f
      refine ab_iast C (by rw [kd_106]; decide) (wf_lt hw kd_106 rfl) (wf_len hw kd_106 rfl rfl (by decide)) c_9 (j := ((9 : Int32) + x1).toNatClampNeg) rfl dX8_untell_44 (fun h_10 e_11 => ?_)
      have f := f h_10 e_11
      have hw_12 := wf_si e_11 hw
      refine ab_iload_n C 0 dX8_untell_45 rfl rfl ?_
      exact ab_iret C dX8_untell_46 ⟨hw_12, _, rfl, f⟩
  · have f := f.1 c_2
    refine ab_aload_n C 0 dX8_untell_10 rfl rfl ?_
    refine ab_ldc C kw_t821 dX8_untell_11 ?_
    refine ab_callV C (k := 0) (n := 0) (rest := []) [.int (-1000000001 : Int32)] cl_X8_84 (mt_X8_errs  hw f) rfl (by decide) kd_105 (wf_lt hw kd_105 rfl) ⟨rfl, rfl, Nat.le_of_ble_eq_true rfl, Nat.le_of_ble_eq_true rfl, Nat.zero_le _, Nat.zero_le _⟩ rfl rfl (Nat.le_of_ble_eq_true rfl) dX8_untell_13 (ab_kh (k := 0) (n := 0) (fun v_13 h_14 hw_15 f => ?_))
    exact ab_iret C dX8_untell_16 ⟨hw_15, _, rfl, f⟩
/-! X8_voice -/
def rm_X8_voice : Room := { frames := 7, cells := 0, slots := 0, locals := 213 }
def wp_X8_voice (x1 : Int32) (x2 : Int32) (x3 : Int32) (h : hp_T) (Q : Int32 → hp_T → Prop) : Prop :=
  wp_X8_isBunk x1 h (fun v_1 => ((v_1 = 0 → wp_X8_errs (-1000000001 : Int32) h (fun v_3 h_4 => (Q v_3 h_4))) ∧ (¬ (v_1 = 0) → wp_X8_in x2.toInt64 (0 : Int64) (3 : Int64) h (fun v_6 => ((v_6 = 0 → wp_X8_errs (-1000000001 : Int32) h (fun v_48 h_49 => (Q v_48 h_49))) ∧ (¬ (v_6 = 0) → (∀ h_8, h_8 = hp_si h 105 16 x1 → (∀ h_11, h_11 = hp_si h_8 105 15 (0 : Int32) → (∀ h_14, h_14 = hp_si h_11 105 17 (0 : Int32) → ((x2 = 0 → wp_X8_hearing x3 h_14 (fun v_41 h_42 => (((hp_i h_42 105 17) = 0 → (Q v_41 h_42)) ∧ (¬ ((hp_i h_42 105 17) = 0) → wp_X8_errs (-1000000006 : Int32) h_42 (fun v_45 h_46 => (Q v_45 h_46)))))) ∧ (¬ (x2 = 0) → ((x2 = (1 : Int32) → wp_X8_telling x3 h_14 (fun v_34 h_35 => (((hp_i h_35 105 17) = 0 → (Q v_34 h_35)) ∧ (¬ ((hp_i h_35 105 17) = 0) → wp_X8_errs (-1000000006 : Int32) h_35 (fun v_38 h_39 => (Q v_38 h_39)))))) ∧ (¬ (x2 = (1 : Int32)) → ((x2 = (2 : Int32) → wp_X8_bunking x3 h_14 (fun v_27 h_28 => (((hp_i h_28 105 17) = 0 → (Q v_27 h_28)) ∧ (¬ ((hp_i h_28 105 17) = 0) → wp_X8_errs (-1000000006 : Int32) h_28 (fun v_31 h_32 => (Q v_31 h_32)))))) ∧ (¬ (x2 = (2 : Int32)) → wp_X8_parting x3 h_14 (fun v_20 h_21 => (((hp_i h_21 105 17) = 0 → (Q v_20 h_21)) ∧ (¬ ((hp_i h_21 105 17) = 0) → wp_X8_errs (-1000000006 : Int32) h_21 (fun v_24 h_25 => (Q v_24 h_25))))))))))))))))))))
set_option maxRecDepth 100000 in
set_option maxHeartbeats 4000000 in
theorem mt_X8_voice {l : Launch} {G : ab_G} {x1 : Int32} {x2 : Int32} {x3 : Int32} {h : hp_T} {Q : Int32 → hp_T → Prop} (hw : wf h) (f : wp_X8_voice x1 x2 x3 h Q) : ab_M l G yX8_voice cX8_voice 5 (some .int) rm_X8_voice 0 0 [.ref (G.1 + 105), .int x1, .int x2, .int x3] h (po_h Q) := by
  refine ab_intro (own := RX8) (nm := "voice") rfl rfl rfl (Nat.le_of_ble_eq_true rfl) (fun F C => ?_)
  show ab_W l G F 5 (ab_MQ G F (po_h Q) 0 0) 0 0 h [(0, .ref (G.1 + 105)), (1, .int x1), (2, .int x2), (3, .int x3)] [] 0
  unfold wp_X8_voice at f
  refine ab_aload_n C 0 dX8_voice_0 rfl rfl ?_
  refine ab_iload_n C 1 dX8_voice_1 rfl rfl ?_
  refine ab_callV C (k := 0) (n := 0) (rest := []) [.int x1] cl_X8_98 (mt_X8_isBunk  hw f) rfl (by decide) kd_105 (wf_lt hw kd_105 rfl) ⟨rfl, rfl, Nat.le_of_ble_eq_true rfl, Nat.le_of_ble_eq_true rfl, Nat.zero_le _, Nat.zero_le _⟩ rfl rfl (Nat.le_of_ble_eq_true rfl) dX8_voice_2 (ab_kp (k := 0) (n := 0) (fun v_1 f => ?_))
  refine ab_if_eq C (tgt := 20) dX8_voice_5 (by decide) (fun c_2 => ?_) (fun c_2 => ?_)
  · have f := f.1 c_2
    refine ab_aload_n C 0 dX8_voice_20 rfl rfl ?_
    refine ab_ldc C kw_t821 dX8_voice_21 ?_
    refine ab_callV C (k := 0) (n := 0) (rest := []) [.int (-1000000001 : Int32)] cl_X8_84 (mt_X8_errs  hw f) rfl (by decide) kd_105 (wf_lt hw kd_105 rfl) ⟨rfl, rfl, Nat.le_of_ble_eq_true rfl, Nat.le_of_ble_eq_true rfl, Nat.zero_le _, Nat.zero_le _⟩ rfl rfl (Nat.le_of_ble_eq_true rfl) dX8_voice_23 (ab_kh (k := 0) (n := 0) (fun v_3 h_4 hw_5 f => ?_))
    exact ab_iret C dX8_voice_26 ⟨hw_5, _, rfl, f⟩
  · have f := f.2 c_2
    refine ab_iload_n C 2 dX8_voice_8 rfl rfl ?_
    refine ab_i2l C dX8_voice_9 ?_
    refine ab_lconst C (v := (0 : Int64)) dX8_voice_10 (by decide) ?_
    refine ab_ldc2 C kw_t924 dX8_voice_11 ?_
    refine ab_callS C (k := 0) (n := 0) (rest := []) [.long x2.toInt64, .long (0 : Int64), .long (3 : Int64)] cl_X8_44 (mt_X8_in  hw f) ⟨rfl, rfl, Nat.le_of_ble_eq_true rfl, Nat.le_of_ble_eq_true rfl, Nat.zero_le _, Nat.zero_le _⟩ rfl rfl (Nat.le_of_ble_eq_true rfl) dX8_voice_14 (ab_kp (k := 0) (n := 0) (fun v_6 f => ?_))
    refine ab_if_ne C (tgt := 27) dX8_voice_17 (by decide) (fun c_7 => ?_) (fun c_7 => ?_)
    · have f := f.2 c_7
      refine ab_aload_n C 0 dX8_voice_27 rfl rfl ?_
      refine ab_iload_n C 1 dX8_voice_28 rfl rfl ?_
      refine ab_putI C fl_X8_281 rfl kd_105 (wf_lt hw kd_105 rfl) rfl rfl dX8_voice_29 (fun h_8 e_9 => ?_)
      have f := f h_8 e_9
      have hw_10 := wf_si e_9 hw
      refine ab_aload_n C 0 dX8_voice_32 rfl rfl ?_
      refine ab_iconst C (v := (0 : Int32)) dX8_voice_33 (by decide) ?_
      refine ab_putI C fl_X8_278 rfl kd_105 (wf_lt hw_10 kd_105 rfl) rfl rfl dX8_voice_34 (fun h_11 e_12 => ?_)
      have f := f h_11 e_12
      have hw_13 := wf_si e_12 hw_10
      refine ab_aload_n C 0 dX8_voice_37 rfl rfl ?_
      refine ab_iconst C (v := (0 : Int32)) dX8_voice_38 (by decide) ?_
      refine ab_putI C fl_X8_293 rfl kd_105 (wf_lt hw_13 kd_105 rfl) rfl rfl dX8_voice_39 (fun h_14 e_15 => ?_)
      have f := f h_14 e_15
      have hw_16 := wf_si e_15 hw_13
      refine ab_iload_n C 2 dX8_voice_42 rfl rfl ?_
      refine ab_if_ne C (tgt := 54) dX8_voice_43 (by decide) (fun c_17 => ?_) (fun c_17 => ?_)
      · have f := f.2 c_17
        refine ab_iload_n C 2 dX8_voice_54 rfl rfl ?_
        refine ab_iconst C (v := (1 : Int32)) dX8_voice_55 (by decide) ?_
        refine ab_icmp_ne C (tgt := 67) dX8_voice_56 (by decide) (fun c_18 => ?_) (fun c_18 => ?_)
        · have f := f.2 c_18
          refine ab_iload_n C 2 dX8_voice_67 rfl rfl ?_
          refine ab_iconst C (v := (2 : Int32)) dX8_voice_68 (by decide) ?_
          refine ab_icmp_ne C (tgt := 80) dX8_voice_69 (by decide) (fun c_19 => ?_) (fun c_19 => ?_)
          · have f := f.2 c_19
            refine ab_aload_n C 0 dX8_voice_80 rfl rfl ?_
            refine ab_iload_n C 3 dX8_voice_81 rfl rfl ?_
            refine ab_callV C (k := 0) (n := 0) (rest := []) [.int x3] cl_X8_299 (mt_X8_parting  hw_16 f) rfl (by decide) kd_105 (wf_lt hw_16 kd_105 rfl) ⟨rfl, rfl, Nat.le_of_ble_eq_true rfl, Nat.le_of_ble_eq_true rfl, Nat.zero_le _, Nat.zero_le _⟩ rfl rfl (Nat.le_of_ble_eq_true rfl) dX8_voice_82 (ab_kh (k := 0) (n := 0) (fun v_20 h_21 hw_22 f => ?_))
            refine ab_istore C (lv' := [(4, .int v_20), (0, .ref (G.1 + 105)), (1, .int x1), (2, .int x2), (3, .int x3)]) dX8_voice_85 (by decide) rfl ?_
            refine ab_aload_n C 1 dX8_voice_87 rfl rfl ?_
            refine ab_getI C fl_X8_293 rfl kd_105 (wf_lt hw_22 kd_105 rfl) dX8_voice_88 ?_
            refine ab_if_eq C (tgt := 104) dX8_voice_91 (by decide) (fun c_23 => ?_) (fun c_23 => ?_)
            · have f := f.1 c_23
              refine ab_iload C 0 dX8_voice_104 rfl ?_
              exact ab_iret C dX8_voice_106 ⟨hw_22, _, rfl, f⟩
            · have f := f.2 c_23
              refine ab_aload_n C 1 dX8_voice_94 rfl rfl ?_
              refine ab_ldcw C kw_t1158 dX8_voice_95 ?_
              refine ab_callV C (k := 0) (n := 0) (rest := []) [.int (-1000000006 : Int32)] cl_X8_84 (mt_X8_errs  hw_22 f) rfl (by decide) kd_105 (wf_lt hw_22 kd_105 rfl) ⟨rfl, rfl, Nat.le_of_ble_eq_true rfl, Nat.le_of_ble_eq_true rfl, Nat.zero_le _, Nat.zero_le _⟩ rfl rfl (Nat.le_of_ble_eq_true rfl) dX8_voice_98 (ab_kh (k := 0) (n := 0) (fun v_24 h_25 hw_26 f => ?_))
              refine ab_goto C (tgt := 106) dX8_voice_101 (by decide) ?_
              exact ab_iret C dX8_voice_106 ⟨hw_26, _, rfl, f⟩
          · have f := f.1 c_19
            refine ab_aload_n C 0 dX8_voice_72 rfl rfl ?_
            refine ab_iload_n C 3 dX8_voice_73 rfl rfl ?_
            refine ab_callV C (k := 0) (n := 0) (rest := []) [.int x3] cl_X8_296 (mt_X8_bunking  hw_16 f) rfl (by decide) kd_105 (wf_lt hw_16 kd_105 rfl) ⟨rfl, rfl, Nat.le_of_ble_eq_true rfl, Nat.le_of_ble_eq_true rfl, Nat.zero_le _, Nat.zero_le _⟩ rfl rfl (Nat.le_of_ble_eq_true rfl) dX8_voice_74 (ab_kh (k := 0) (n := 0) (fun v_27 h_28 hw_29 f => ?_))
            refine ab_goto C (tgt := 85) dX8_voice_77 (by decide) ?_
            refine ab_istore C (lv' := [(4, .int v_27), (0, .ref (G.1 + 105)), (1, .int x1), (2, .int x2), (3, .int x3)]) dX8_voice_85 (by decide) rfl ?_
            refine ab_aload_n C 1 dX8_voice_87 rfl rfl ?_
            refine ab_getI C fl_X8_293 rfl kd_105 (wf_lt hw_29 kd_105 rfl) dX8_voice_88 ?_
            refine ab_if_eq C (tgt := 104) dX8_voice_91 (by decide) (fun c_30 => ?_) (fun c_30 => ?_)
            · have f := f.1 c_30
              refine ab_iload C 0 dX8_voice_104 rfl ?_
              exact ab_iret C dX8_voice_106 ⟨hw_29, _, rfl, f⟩
            · have f := f.2 c_30
              refine ab_aload_n C 1 dX8_voice_94 rfl rfl ?_
              refine ab_ldcw C kw_t1158 dX8_voice_95 ?_
              refine ab_callV C (k := 0) (n := 0) (rest := []) [.int (-1000000006 : Int32)] cl_X8_84 (mt_X8_errs  hw_29 f) rfl (by decide) kd_105 (wf_lt hw_29 kd_105 rfl) ⟨rfl, rfl, Nat.le_of_ble_eq_true rfl, Nat.le_of_ble_eq_true rfl, Nat.zero_le _, Nat.zero_le _⟩ rfl rfl (Nat.le_of_ble_eq_true rfl) dX8_voice_98 (ab_kh (k := 0) (n := 0) (fun v_31 h_32 hw_33 f => ?_))
              refine ab_goto C (tgt := 106) dX8_voice_101 (by decide) ?_
              exact ab_iret C dX8_voice_106 ⟨hw_33, _, rfl, f⟩
        · have f := f.1 c_18
          refine ab_aload_n C 0 dX8_voice_59 rfl rfl ?_
          refine ab_iload_n C 3 dX8_voice_60 rfl rfl ?_
          refine ab_callV C (k := 0) (n := 0) (rest := []) [.int x3] cl_X8_290 (mt_X8_telling  hw_16 f) rfl (by decide) kd_105 (wf_lt hw_16 kd_105 rfl) ⟨rfl, rfl, Nat.le_of_ble_eq_true rfl, Nat.le_of_ble_eq_true rfl, Nat.zero_le _, Nat.zero_le _⟩ rfl rfl (Nat.le_of_ble_eq_true rfl) dX8_voice_61 (ab_kh (k := 0) (n := 0) (fun v_34 h_35 hw_36 f => ?_))
          refine ab_goto C (tgt := 85) dX8_voice_64 (by decide) ?_
          refine ab_istore C (lv' := [(4, .int v_34), (0, .ref (G.1 + 105)), (1, .int x1), (2, .int x2), (3, .int x3)]) dX8_voice_85 (by decide) rfl ?_
          refine ab_aload_n C 1 dX8_voice_87 rfl rfl ?_
          refine ab_getI C fl_X8_293 rfl kd_105 (wf_lt hw_36 kd_105 rfl) dX8_voice_88 ?_
          refine ab_if_eq C (tgt := 104) dX8_voice_91 (by decide) (fun c_37 => ?_) (fun c_37 => ?_)
          · have f := f.1 c_37
            refine ab_iload C 0 dX8_voice_104 rfl ?_
            exact ab_iret C dX8_voice_106 ⟨hw_36, _, rfl, f⟩
          · have f := f.2 c_37
            refine ab_aload_n C 1 dX8_voice_94 rfl rfl ?_
            refine ab_ldcw C kw_t1158 dX8_voice_95 ?_
            refine ab_callV C (k := 0) (n := 0) (rest := []) [.int (-1000000006 : Int32)] cl_X8_84 (mt_X8_errs  hw_36 f) rfl (by decide) kd_105 (wf_lt hw_36 kd_105 rfl) ⟨rfl, rfl, Nat.le_of_ble_eq_true rfl, Nat.le_of_ble_eq_true rfl, Nat.zero_le _, Nat.zero_le _⟩ rfl rfl (Nat.le_of_ble_eq_true rfl) dX8_voice_98 (ab_kh (k := 0) (n := 0) (fun v_38 h_39 hw_40 f => ?_))
            refine ab_goto C (tgt := 106) dX8_voice_101 (by decide) ?_
            exact ab_iret C dX8_voice_106 ⟨hw_40, _, rfl, f⟩
      · have f := f.1 c_17
        refine ab_aload_n C 0 dX8_voice_46 rfl rfl ?_
        refine ab_iload_n C 3 dX8_voice_47 rfl rfl ?_
        refine ab_callV C (k := 0) (n := 0) (rest := []) [.int x3] cl_X8_287 (mt_X8_hearing  hw_16 f) rfl (by decide) kd_105 (wf_lt hw_16 kd_105 rfl) ⟨rfl, rfl, Nat.le_of_ble_eq_true rfl, Nat.le_of_ble_eq_true rfl, Nat.zero_le _, Nat.zero_le _⟩ rfl rfl (Nat.le_of_ble_eq_true rfl) dX8_voice_48 (ab_kh (k := 0) (n := 0) (fun v_41 h_42 hw_43 f => ?_))
        refine ab_goto C (tgt := 85) dX8_voice_51 (by decide) ?_
        refine ab_istore C (lv' := [(4, .int v_41), (0, .ref (G.1 + 105)), (1, .int x1), (2, .int x2), (3, .int x3)]) dX8_voice_85 (by decide) rfl ?_
        refine ab_aload_n C 1 dX8_voice_87 rfl rfl ?_
        refine ab_getI C fl_X8_293 rfl kd_105 (wf_lt hw_43 kd_105 rfl) dX8_voice_88 ?_
        refine ab_if_eq C (tgt := 104) dX8_voice_91 (by decide) (fun c_44 => ?_) (fun c_44 => ?_)
        · have f := f.1 c_44
          refine ab_iload C 0 dX8_voice_104 rfl ?_
          exact ab_iret C dX8_voice_106 ⟨hw_43, _, rfl, f⟩
        · have f := f.2 c_44
          refine ab_aload_n C 1 dX8_voice_94 rfl rfl ?_
          refine ab_ldcw C kw_t1158 dX8_voice_95 ?_
          refine ab_callV C (k := 0) (n := 0) (rest := []) [.int (-1000000006 : Int32)] cl_X8_84 (mt_X8_errs  hw_43 f) rfl (by decide) kd_105 (wf_lt hw_43 kd_105 rfl) ⟨rfl, rfl, Nat.le_of_ble_eq_true rfl, Nat.le_of_ble_eq_true rfl, Nat.zero_le _, Nat.zero_le _⟩ rfl rfl (Nat.le_of_ble_eq_true rfl) dX8_voice_98 (ab_kh (k := 0) (n := 0) (fun v_45 h_46 hw_47 f => ?_))
          refine ab_goto C (tgt := 106) dX8_voice_101 (by decide) ?_
          exact ab_iret C dX8_voice_106 ⟨hw_47, _, rfl, f⟩
    · have f := f.1 c_7
      refine ab_aload_n C 0 dX8_voice_20 rfl rfl ?_
      refine ab_ldc C kw_t821 dX8_voice_21 ?_
      refine ab_callV C (k := 0) (n := 0) (rest := []) [.int (-1000000001 : Int32)] cl_X8_84 (mt_X8_errs  hw f) rfl (by decide) kd_105 (wf_lt hw kd_105 rfl) ⟨rfl, rfl, Nat.le_of_ble_eq_true rfl, Nat.le_of_ble_eq_true rfl, Nat.zero_le _, Nat.zero_le _⟩ rfl rfl (Nat.le_of_ble_eq_true rfl) dX8_voice_23 (ab_kh (k := 0) (n := 0) (fun v_48 h_49 hw_50 f => ?_))
      exact ab_iret C dX8_voice_26 ⟨hw_50, _, rfl, f⟩
/-! X8_wages -/
def rm_X8_wages : Room := { frames := 7, cells := 0, slots := 0, locals := 222 }
def wp_X8_wages_L35 (x1 : Int32) (Q : Int32 → hp_T → Prop) (lp_22 : Int32 → Int32 → hp_T → Prop) : Nat → Int32 → Int32 → Int32 → hp_T → Prop
  | 0 => fun _ _ _ _ => False
  | nn + 1 => fun y2 y3 y4 h => (((hp_i h 106 0) ≤ y4 → lp_22 y2 (y3 + (1 : Int32)) h) ∧ (¬ ((hp_i h 106 0) ≤ y4) → wp_X8_wagesOf y4 h (fun v_11 h_12 => (wp_X8_wages_L35 x1 Q lp_22 nn) (y2 + v_11) y3 (y4 + (1 : Int32)) h_12)))
set_option maxRecDepth 100000 in
set_option maxHeartbeats 4000000 in
theorem bt_X8_wages_L35 {l : Launch} {G : ab_G} {F : ab_F} {x1 : Int32} {Q : Int32 → hp_T → Prop} {lp_22 : Int32 → Int32 → hp_T → Prop} (C : ab_C G F rm_X8_wages cX8_wages 5 RX8 (some .int) "wages")  (il_22 : ∀ (y2 : Int32) (y3 : Int32) (h : hp_T), wf h → lp_22 y2 y3 h → ab_W l G F 5 (ab_MQ G F (po_h Q) 0 0) 0 0 h [(0, .ref (G.1 + 105)), (1, .int x1), (2, .int y2), (3, .int y3)] [] 22) : ∀ (nn : Nat) (y2 : Int32) (y3 : Int32) (y4 : Int32) (h : hp_T), wf h → wp_X8_wages_L35 x1 Q lp_22 nn y2 y3 y4 h → ab_W l G F 5 (ab_MQ G F (po_h Q) 0 0) 0 0 h [(0, .ref (G.1 + 105)), (1, .int x1), (2, .int y2), (3, .int y3), (4, .int y4)] [] 35 := by
  intro nn
  induction nn with
  | zero =>
    intro y2 y3 y4 h hw f
    exact absurd f id
  | succ nn ih =>
    intro y2 y3 y4 h hw f
    unfold wp_X8_wages_L35 at f
    refine ab_iload C 4 dX8_wages_35 rfl ?_
    refine ab_aload_n C 0 dX8_wages_37 rfl rfl ?_
    refine ab_getR C (q := 106) fl_X8_7 rfl kd_105 (wf_lt hw kd_105 rfl) (wr_8_0 hw) dX8_wages_38 ?_
    refine ab_iconst C (v := (0 : Int32)) dX8_wages_41 (by decide) ?_
    refine ab_iald C (by rw [kd_106]; decide) (wf_lt hw kd_106 rfl) (wf_len hw kd_106 rfl rfl (by decide)) (vp_lit (by decide)) (j := 0) (by decide) dX8_wages_42 ?_
    refine ab_icmp_ge C (tgt := 61) dX8_wages_43 (by decide) (fun c_10 => ?_) (fun c_10 => ?_)
    · have f := f.1 c_10
      refine ab_iinc C (lv' := [(3, .int (y3 + (1 : Int32))), (0, .ref (G.1 + 105)), (1, .int x1), (2, .int y2), (4, .int y4)]) 3 (v := (y3 + (1 : Int32))) dX8_wages_61 rfl rfl (by decide) rfl ?_
      refine ab_goto C (tgt := 22) dX8_wages_64 (by decide) ?_
      refine ab_sub (lv' := [(0, .ref (G.1 + 105)), (1, .int x1), (2, .int y2), (3, .int (y3 + (1 : Int32)))]) [1, 2, 3, 0] rfl ?_
      exact il_22 y2 (y3 + (1 : Int32)) h  hw f
    · have f := f.2 c_10
      refine ab_iload_n C 2 dX8_wages_46 rfl rfl ?_
      refine ab_aload_n C 0 dX8_wages_47 rfl rfl ?_
      refine ab_iload C 4 dX8_wages_48 rfl ?_
      refine ab_callV C (k := 0) (n := 0) (rest := [.int y2]) [.int y4] cl_X8_92 (mt_X8_wagesOf  hw f) rfl (by decide) kd_105 (wf_lt hw kd_105 rfl) ⟨rfl, rfl, Nat.le_of_ble_eq_true rfl, Nat.le_of_ble_eq_true rfl, Nat.zero_le _, Nat.zero_le _⟩ rfl rfl (Nat.le_of_ble_eq_true rfl) dX8_wages_50 (ab_kh (k := 0) (n := 0) (fun v_11 h_12 hw_13 f => ?_))
      refine ab_iadd C dX8_wages_53 ?_
      refine ab_istore_n C (lv' := [(2, .int (y2 + v_11)), (0, .ref (G.1 + 105)), (1, .int x1), (3, .int y3), (4, .int y4)]) dX8_wages_54 rfl (by decide) rfl ?_
      refine ab_iinc C (lv' := [(4, .int (y4 + (1 : Int32))), (2, .int (y2 + v_11)), (0, .ref (G.1 + 105)), (1, .int x1), (3, .int y3)]) 4 (v := (y4 + (1 : Int32))) dX8_wages_55 rfl rfl (by decide) rfl ?_
      refine ab_goto C (tgt := 35) dX8_wages_58 (by decide) ?_
      refine ab_sub (lv' := [(0, .ref (G.1 + 105)), (1, .int x1), (2, .int (y2 + v_11)), (3, .int y3), (4, .int (y4 + (1 : Int32)))]) [2, 3, 1, 4, 0] rfl ?_
      exact ih (y2 + v_11) y3 (y4 + (1 : Int32)) h_12  hw_13 f
def wp_X8_wages_L22 (x1 : Int32) (Q : Int32 → hp_T → Prop) : Nat → Int32 → Int32 → hp_T → Prop
  | 0 => fun _ _ _ => False
  | nn + 1 => fun y2 y3 h => ((x1 ≤ y3 → wp_X8_putsBack h (fun h_6 => (Q y2 h_6))) ∧ (¬ (x1 ≤ y3) → wp_X8_day (0 : Int32) h (fun h_8 => (∃ n0, wp_X8_wages_L35 x1 Q (wp_X8_wages_L22 x1 Q nn) n0 y2 y3 (0 : Int32) h_8))))
set_option maxRecDepth 100000 in
set_option maxHeartbeats 4000000 in
theorem bt_X8_wages_L22 {l : Launch} {G : ab_G} {F : ab_F} {x1 : Int32} {Q : Int32 → hp_T → Prop}  (C : ab_C G F rm_X8_wages cX8_wages 5 RX8 (some .int) "wages")   : ∀ (nn : Nat) (y2 : Int32) (y3 : Int32) (h : hp_T), wf h → wp_X8_wages_L22 x1 Q nn y2 y3 h → ab_W l G F 5 (ab_MQ G F (po_h Q) 0 0) 0 0 h [(0, .ref (G.1 + 105)), (1, .int x1), (2, .int y2), (3, .int y3)] [] 22 := by
  intro nn
  induction nn with
  | zero =>
    intro y2 y3 h hw f
    exact absurd f id
  | succ nn ih =>
    intro y2 y3 h hw f
    unfold wp_X8_wages_L22 at f
    refine ab_iload_n C 3 dX8_wages_22 rfl rfl ?_
    refine ab_iload_n C 1 dX8_wages_23 rfl rfl ?_
    refine ab_icmp_ge C (tgt := 67) dX8_wages_24 (by decide) (fun c_5 => ?_) (fun c_5 => ?_)
    · have f := f.1 c_5
      refine ab_aload_n C 0 dX8_wages_67 rfl rfl ?_
      refine ab_callV C (k := 0) (n := 0) (rest := []) [] cl_X8_259 (mt_X8_putsBack  hw f) rfl (by decide) kd_105 (wf_lt hw kd_105 rfl) ⟨rfl, rfl, Nat.le_of_ble_eq_true rfl, Nat.le_of_ble_eq_true rfl, Nat.zero_le _, Nat.zero_le _⟩ rfl rfl (Nat.le_of_ble_eq_true rfl) dX8_wages_68 (ab_kv (k := 0) (n := 0) (fun h_6 hw_7 f => ?_))
      refine ab_iload_n C 2 dX8_wages_71 rfl rfl ?_
      exact ab_iret C dX8_wages_72 ⟨hw_7, _, rfl, f⟩
    · have f := f.2 c_5
      refine ab_aload_n C 0 dX8_wages_27 rfl rfl ?_
      refine ab_iconst C (v := (0 : Int32)) dX8_wages_28 (by decide) ?_
      refine ab_callV C (k := 0) (n := 0) (rest := []) [.int (0 : Int32)] cl_X8_238 (mt_X8_day  hw f) rfl (by decide) kd_105 (wf_lt hw kd_105 rfl) ⟨rfl, rfl, Nat.le_of_ble_eq_true rfl, Nat.le_of_ble_eq_true rfl, Nat.zero_le _, Nat.zero_le _⟩ rfl rfl (Nat.le_of_ble_eq_true rfl) dX8_wages_29 (ab_kv (k := 0) (n := 0) (fun h_8 hw_9 f => ?_))
      refine ab_iconst C (v := (0 : Int32)) dX8_wages_32 (by decide) ?_
      refine ab_istore C (lv' := [(4, .int (0 : Int32)), (0, .ref (G.1 + 105)), (1, .int x1), (2, .int y2), (3, .int y3)]) dX8_wages_33 (by decide) rfl ?_
      obtain ⟨n0, f⟩ := f
      refine ab_sub (lv' := [(0, .ref (G.1 + 105)), (1, .int x1), (2, .int y2), (3, .int y3), (4, .int (0 : Int32))]) [1, 2, 3, 4, 0] rfl ?_
      exact bt_X8_wages_L35 C   ih n0 y2 y3 (0 : Int32) h_8  hw_9 f
def wp_X8_wages (x1 : Int32) (h : hp_T) (Q : Int32 → hp_T → Prop) : Prop :=
  wp_X8_isSpan x1 h (fun v_1 => ((v_1 = 0 → wp_X8_errs (-1000000001 : Int32) h (fun v_14 h_15 => (Q v_14 h_15))) ∧ (¬ (v_1 = 0) → wp_X8_keepsAside h (fun h_3 => (∃ n0, wp_X8_wages_L22 x1 Q  n0 (0 : Int32) (0 : Int32) h_3)))))
set_option maxRecDepth 100000 in
set_option maxHeartbeats 4000000 in
theorem mt_X8_wages {l : Launch} {G : ab_G} {x1 : Int32} {h : hp_T} {Q : Int32 → hp_T → Prop} (hw : wf h) (f : wp_X8_wages x1 h Q) : ab_M l G yX8_wages cX8_wages 5 (some .int) rm_X8_wages 0 0 [.ref (G.1 + 105), .int x1] h (po_h Q) := by
  refine ab_intro (own := RX8) (nm := "wages") rfl rfl rfl (Nat.le_of_ble_eq_true rfl) (fun F C => ?_)
  show ab_W l G F 5 (ab_MQ G F (po_h Q) 0 0) 0 0 h [(0, .ref (G.1 + 105)), (1, .int x1)] [] 0
  unfold wp_X8_wages at f
  refine ab_iload_n C 1 dX8_wages_0 rfl rfl ?_
  refine ab_callS C (k := 0) (n := 0) (rest := []) [.int x1] cl_X8_244 (mt_X8_isSpan  hw f) ⟨rfl, rfl, Nat.le_of_ble_eq_true rfl, Nat.le_of_ble_eq_true rfl, Nat.zero_le _, Nat.zero_le _⟩ rfl rfl (Nat.le_of_ble_eq_true rfl) dX8_wages_1 (ab_kp (k := 0) (n := 0) (fun v_1 f => ?_))
  refine ab_if_ne C (tgt := 14) dX8_wages_4 (by decide) (fun c_2 => ?_) (fun c_2 => ?_)
  · have f := f.2 c_2
    refine ab_aload_n C 0 dX8_wages_14 rfl rfl ?_
    refine ab_callV C (k := 0) (n := 0) (rest := []) [] cl_X8_256 (mt_X8_keepsAside  hw f) rfl (by decide) kd_105 (wf_lt hw kd_105 rfl) ⟨rfl, rfl, Nat.le_of_ble_eq_true rfl, Nat.le_of_ble_eq_true rfl, Nat.zero_le _, Nat.zero_le _⟩ rfl rfl (Nat.le_of_ble_eq_true rfl) dX8_wages_15 (ab_kv (k := 0) (n := 0) (fun h_3 hw_4 f => ?_))
    refine ab_iconst C (v := (0 : Int32)) dX8_wages_18 (by decide) ?_
    refine ab_istore_n C (lv' := [(2, .int (0 : Int32)), (0, .ref (G.1 + 105)), (1, .int x1)]) dX8_wages_19 rfl (by decide) rfl ?_
    refine ab_iconst C (v := (0 : Int32)) dX8_wages_20 (by decide) ?_
    refine ab_istore_n C (lv' := [(3, .int (0 : Int32)), (2, .int (0 : Int32)), (0, .ref (G.1 + 105)), (1, .int x1)]) dX8_wages_21 rfl (by decide) rfl ?_
    obtain ⟨n0, f⟩ := f
    refine ab_sub (lv' := [(0, .ref (G.1 + 105)), (1, .int x1), (2, .int (0 : Int32)), (3, .int (0 : Int32))]) [2, 3, 1, 0] rfl ?_
    exact bt_X8_wages_L22 C    n0 (0 : Int32) (0 : Int32) h_3  hw_4 f
  · have f := f.1 c_2
    refine ab_aload_n C 0 dX8_wages_7 rfl rfl ?_
    refine ab_ldc C kw_t821 dX8_wages_8 ?_
    refine ab_callV C (k := 0) (n := 0) (rest := []) [.int (-1000000001 : Int32)] cl_X8_84 (mt_X8_errs  hw f) rfl (by decide) kd_105 (wf_lt hw kd_105 rfl) ⟨rfl, rfl, Nat.le_of_ble_eq_true rfl, Nat.le_of_ble_eq_true rfl, Nat.zero_le _, Nat.zero_le _⟩ rfl rfl (Nat.le_of_ble_eq_true rfl) dX8_wages_10 (ab_kh (k := 0) (n := 0) (fun v_14 h_15 hw_16 f => ?_))
    exact ab_iret C dX8_wages_13 ⟨hw_16, _, rfl, f⟩
