/-! J6_bitCount_0f7a4 -/
def rm_J6_bitCount_0f7a4 : Room := { frames := 2, cells := 0, slots := 0, locals := 100 }
def wp_J6_bitCount_0f7a4 (x0 : Int32) (h : hp_T) (Q : Int32 → Prop) : Prop :=
  (Q ((((((((x0 - ((ab_ush x0 (1 : Int32)) &&& (1431655765 : Int32))) &&& (858993459 : Int32)) + ((ab_ush (x0 - ((ab_ush x0 (1 : Int32)) &&& (1431655765 : Int32))) (2 : Int32)) &&& (858993459 : Int32))) + (ab_ush (((x0 - ((ab_ush x0 (1 : Int32)) &&& (1431655765 : Int32))) &&& (858993459 : Int32)) + ((ab_ush (x0 - ((ab_ush x0 (1 : Int32)) &&& (1431655765 : Int32))) (2 : Int32)) &&& (858993459 : Int32))) (4 : Int32))) &&& (252645135 : Int32)) + (ab_ush (((((x0 - ((ab_ush x0 (1 : Int32)) &&& (1431655765 : Int32))) &&& (858993459 : Int32)) + ((ab_ush (x0 - ((ab_ush x0 (1 : Int32)) &&& (1431655765 : Int32))) (2 : Int32)) &&& (858993459 : Int32))) + (ab_ush (((x0 - ((ab_ush x0 (1 : Int32)) &&& (1431655765 : Int32))) &&& (858993459 : Int32)) + ((ab_ush (x0 - ((ab_ush x0 (1 : Int32)) &&& (1431655765 : Int32))) (2 : Int32)) &&& (858993459 : Int32))) (4 : Int32))) &&& (252645135 : Int32)) (8 : Int32))) + (ab_ush ((((((x0 - ((ab_ush x0 (1 : Int32)) &&& (1431655765 : Int32))) &&& (858993459 : Int32)) + ((ab_ush (x0 - ((ab_ush x0 (1 : Int32)) &&& (1431655765 : Int32))) (2 : Int32)) &&& (858993459 : Int32))) + (ab_ush (((x0 - ((ab_ush x0 (1 : Int32)) &&& (1431655765 : Int32))) &&& (858993459 : Int32)) + ((ab_ush (x0 - ((ab_ush x0 (1 : Int32)) &&& (1431655765 : Int32))) (2 : Int32)) &&& (858993459 : Int32))) (4 : Int32))) &&& (252645135 : Int32)) + (ab_ush (((((x0 - ((ab_ush x0 (1 : Int32)) &&& (1431655765 : Int32))) &&& (858993459 : Int32)) + ((ab_ush (x0 - ((ab_ush x0 (1 : Int32)) &&& (1431655765 : Int32))) (2 : Int32)) &&& (858993459 : Int32))) + (ab_ush (((x0 - ((ab_ush x0 (1 : Int32)) &&& (1431655765 : Int32))) &&& (858993459 : Int32)) + ((ab_ush (x0 - ((ab_ush x0 (1 : Int32)) &&& (1431655765 : Int32))) (2 : Int32)) &&& (858993459 : Int32))) (4 : Int32))) &&& (252645135 : Int32)) (8 : Int32))) (16 : Int32))) &&& (63 : Int32)))
set_option maxRecDepth 100000 in
set_option maxHeartbeats 4000000 in
theorem mt_J6_bitCount_0f7a4 {l : Launch} {G : ab_G} {x0 : Int32} {h : hp_T} {Q : Int32 → Prop} (hw : wf h) (f : wp_J6_bitCount_0f7a4 x0 h Q) : ab_M l G yJ6_bitCount_0f7a4 cJ6_bitCount_0f7a4 1 (some .int) rm_J6_bitCount_0f7a4 0 0 [.int x0] h (po_p h Q) := by
  refine ab_intro (own := RJ6) (nm := "bitCount") rfl rfl rfl (Nat.le_of_ble_eq_true rfl) (fun F C => ?_)
  show ab_W l G F 1 (ab_MQ G F (po_p h Q) 0 0) 0 0 h [(0, .int x0)] [] 0
  unfold wp_J6_bitCount_0f7a4 at f
  refine ab_iload_n C 0 dJ6_bitCount_0f7a4_0 rfl rfl ?_
  refine ab_iload_n C 0 dJ6_bitCount_0f7a4_1 rfl rfl ?_
  refine ab_iconst C (v := (1 : Int32)) dJ6_bitCount_0f7a4_2 (by decide) ?_
  refine ab_iushr C dJ6_bitCount_0f7a4_3 ?_
  refine ab_ldcw C kw_t307 dJ6_bitCount_0f7a4_4 ?_
  refine ab_iand C dJ6_bitCount_0f7a4_7 ?_
  refine ab_isub C dJ6_bitCount_0f7a4_8 ?_
  refine ab_istore_n C (lv' := [(0, .int (x0 - ((ab_ush x0 (1 : Int32)) &&& (1431655765 : Int32))))]) dJ6_bitCount_0f7a4_9 rfl (by decide) rfl ?_
  refine ab_iload_n C 0 dJ6_bitCount_0f7a4_10 rfl rfl ?_
  refine ab_ldcw C kw_t308 dJ6_bitCount_0f7a4_11 ?_
  refine ab_iand C dJ6_bitCount_0f7a4_14 ?_
  refine ab_iload_n C 0 dJ6_bitCount_0f7a4_15 rfl rfl ?_
  refine ab_iconst C (v := (2 : Int32)) dJ6_bitCount_0f7a4_16 (by decide) ?_
  refine ab_iushr C dJ6_bitCount_0f7a4_17 ?_
  refine ab_ldcw C kw_t308 dJ6_bitCount_0f7a4_18 ?_
  refine ab_iand C dJ6_bitCount_0f7a4_21 ?_
  refine ab_iadd C dJ6_bitCount_0f7a4_22 ?_
  refine ab_istore_n C (lv' := [(0, .int (((x0 - ((ab_ush x0 (1 : Int32)) &&& (1431655765 : Int32))) &&& (858993459 : Int32)) + ((ab_ush (x0 - ((ab_ush x0 (1 : Int32)) &&& (1431655765 : Int32))) (2 : Int32)) &&& (858993459 : Int32))))]) dJ6_bitCount_0f7a4_23 rfl (by decide) rfl ?_
  refine ab_iload_n C 0 dJ6_bitCount_0f7a4_24 rfl rfl ?_
  refine ab_iload_n C 0 dJ6_bitCount_0f7a4_25 rfl rfl ?_
  refine ab_iconst C (v := (4 : Int32)) dJ6_bitCount_0f7a4_26 (by decide) ?_
  refine ab_iushr C dJ6_bitCount_0f7a4_27 ?_
  refine ab_iadd C dJ6_bitCount_0f7a4_28 ?_
  refine ab_ldcw C kw_t309 dJ6_bitCount_0f7a4_29 ?_
  refine ab_iand C dJ6_bitCount_0f7a4_32 ?_
  refine ab_istore_n C (lv' := [(0, .int (((((x0 - ((ab_ush x0 (1 : Int32)) &&& (1431655765 : Int32))) &&& (858993459 : Int32)) + ((ab_ush (x0 - ((ab_ush x0 (1 : Int32)) &&& (1431655765 : Int32))) (2 : Int32)) &&& (858993459 : Int32))) + (ab_ush (((x0 - ((ab_ush x0 (1 : Int32)) &&& (1431655765 : Int32))) &&& (858993459 : Int32)) + ((ab_ush (x0 - ((ab_ush x0 (1 : Int32)) &&& (1431655765 : Int32))) (2 : Int32)) &&& (858993459 : Int32))) (4 : Int32))) &&& (252645135 : Int32)))]) dJ6_bitCount_0f7a4_33 rfl (by decide) rfl ?_
  refine ab_iload_n C 0 dJ6_bitCount_0f7a4_34 rfl rfl ?_
  refine ab_iload_n C 0 dJ6_bitCount_0f7a4_35 rfl rfl ?_
  refine ab_bipush C (v := (8 : Int32)) dJ6_bitCount_0f7a4_36 (by decide) ?_
  refine ab_iushr C dJ6_bitCount_0f7a4_38 ?_
  refine ab_iadd C dJ6_bitCount_0f7a4_39 ?_
  refine ab_istore_n C (lv' := [(0, .int ((((((x0 - ((ab_ush x0 (1 : Int32)) &&& (1431655765 : Int32))) &&& (858993459 : Int32)) + ((ab_ush (x0 - ((ab_ush x0 (1 : Int32)) &&& (1431655765 : Int32))) (2 : Int32)) &&& (858993459 : Int32))) + (ab_ush (((x0 - ((ab_ush x0 (1 : Int32)) &&& (1431655765 : Int32))) &&& (858993459 : Int32)) + ((ab_ush (x0 - ((ab_ush x0 (1 : Int32)) &&& (1431655765 : Int32))) (2 : Int32)) &&& (858993459 : Int32))) (4 : Int32))) &&& (252645135 : Int32)) + (ab_ush (((((x0 - ((ab_ush x0 (1 : Int32)) &&& (1431655765 : Int32))) &&& (858993459 : Int32)) + ((ab_ush (x0 - ((ab_ush x0 (1 : Int32)) &&& (1431655765 : Int32))) (2 : Int32)) &&& (858993459 : Int32))) + (ab_ush (((x0 - ((ab_ush x0 (1 : Int32)) &&& (1431655765 : Int32))) &&& (858993459 : Int32)) + ((ab_ush (x0 - ((ab_ush x0 (1 : Int32)) &&& (1431655765 : Int32))) (2 : Int32)) &&& (858993459 : Int32))) (4 : Int32))) &&& (252645135 : Int32)) (8 : Int32))))]) dJ6_bitCount_0f7a4_40 rfl (by decide) rfl ?_
  refine ab_iload_n C 0 dJ6_bitCount_0f7a4_41 rfl rfl ?_
  refine ab_iload_n C 0 dJ6_bitCount_0f7a4_42 rfl rfl ?_
  refine ab_bipush C (v := (16 : Int32)) dJ6_bitCount_0f7a4_43 (by decide) ?_
  refine ab_iushr C dJ6_bitCount_0f7a4_45 ?_
  refine ab_iadd C dJ6_bitCount_0f7a4_46 ?_
  refine ab_istore_n C (lv' := [(0, .int (((((((x0 - ((ab_ush x0 (1 : Int32)) &&& (1431655765 : Int32))) &&& (858993459 : Int32)) + ((ab_ush (x0 - ((ab_ush x0 (1 : Int32)) &&& (1431655765 : Int32))) (2 : Int32)) &&& (858993459 : Int32))) + (ab_ush (((x0 - ((ab_ush x0 (1 : Int32)) &&& (1431655765 : Int32))) &&& (858993459 : Int32)) + ((ab_ush (x0 - ((ab_ush x0 (1 : Int32)) &&& (1431655765 : Int32))) (2 : Int32)) &&& (858993459 : Int32))) (4 : Int32))) &&& (252645135 : Int32)) + (ab_ush (((((x0 - ((ab_ush x0 (1 : Int32)) &&& (1431655765 : Int32))) &&& (858993459 : Int32)) + ((ab_ush (x0 - ((ab_ush x0 (1 : Int32)) &&& (1431655765 : Int32))) (2 : Int32)) &&& (858993459 : Int32))) + (ab_ush (((x0 - ((ab_ush x0 (1 : Int32)) &&& (1431655765 : Int32))) &&& (858993459 : Int32)) + ((ab_ush (x0 - ((ab_ush x0 (1 : Int32)) &&& (1431655765 : Int32))) (2 : Int32)) &&& (858993459 : Int32))) (4 : Int32))) &&& (252645135 : Int32)) (8 : Int32))) + (ab_ush ((((((x0 - ((ab_ush x0 (1 : Int32)) &&& (1431655765 : Int32))) &&& (858993459 : Int32)) + ((ab_ush (x0 - ((ab_ush x0 (1 : Int32)) &&& (1431655765 : Int32))) (2 : Int32)) &&& (858993459 : Int32))) + (ab_ush (((x0 - ((ab_ush x0 (1 : Int32)) &&& (1431655765 : Int32))) &&& (858993459 : Int32)) + ((ab_ush (x0 - ((ab_ush x0 (1 : Int32)) &&& (1431655765 : Int32))) (2 : Int32)) &&& (858993459 : Int32))) (4 : Int32))) &&& (252645135 : Int32)) + (ab_ush (((((x0 - ((ab_ush x0 (1 : Int32)) &&& (1431655765 : Int32))) &&& (858993459 : Int32)) + ((ab_ush (x0 - ((ab_ush x0 (1 : Int32)) &&& (1431655765 : Int32))) (2 : Int32)) &&& (858993459 : Int32))) + (ab_ush (((x0 - ((ab_ush x0 (1 : Int32)) &&& (1431655765 : Int32))) &&& (858993459 : Int32)) + ((ab_ush (x0 - ((ab_ush x0 (1 : Int32)) &&& (1431655765 : Int32))) (2 : Int32)) &&& (858993459 : Int32))) (4 : Int32))) &&& (252645135 : Int32)) (8 : Int32))) (16 : Int32))))]) dJ6_bitCount_0f7a4_47 rfl (by decide) rfl ?_
  refine ab_iload_n C 0 dJ6_bitCount_0f7a4_48 rfl rfl ?_
  refine ab_bipush C (v := (63 : Int32)) dJ6_bitCount_0f7a4_49 (by decide) ?_
  refine ab_iand C dJ6_bitCount_0f7a4_51 ?_
  exact ab_iret C dJ6_bitCount_0f7a4_52 ⟨rfl, _, rfl, f⟩
/-! X0_copyFrom -/
def rm_X0_copyFrom : Room := { frames := 2, cells := 0, slots := 0, locals := 100 }
def wp_X0_copyFrom (a0 : Nat) (a1 : Nat) (h : hp_T) (Q : hp_T → Prop) : Prop :=
  (∀ h_1, h_1 = hp_si h a0 0 (hp_i h a1 0) → (∀ h_4, h_4 = hp_si h_1 a0 1 (hp_i h_1 a1 1) → (∀ h_7, h_7 = hp_si h_4 a0 2 (hp_i h_4 a1 2) → (∀ h_10, h_10 = hp_si h_7 a0 3 (hp_i h_7 a1 3) → (∀ h_13, h_13 = hp_si h_10 a0 4 (hp_i h_10 a1 4) → (cp_ok (0 : Int32) (0 : Int32) (6 : Int32) 6 6) ∧ (∀ h_17, h_17 = hp_cp h_13 (a1 + 1) 0 (a0 + 1) 0 6 → (cp_ok (0 : Int32) (0 : Int32) (6 : Int32) 6 6) ∧ (∀ h_21, h_21 = hp_cp h_17 (a1 + 2) 0 (a0 + 2) 0 6 → (Q h_21))))))))
set_option maxRecDepth 100000 in
set_option maxHeartbeats 4000000 in
theorem mt_X0_copyFrom {l : Launch} {G : ab_G} {a0 : Nat} {a1 : Nat} {h : hp_T} {Q : hp_T → Prop} (hk0 : ab_k a0 = 0) (hk1 : ab_k a1 = 0) (hw : wf h) (f : wp_X0_copyFrom a0 a1 h Q) : ab_M l G yX0_copyFrom cX0_copyFrom 2 none rm_X0_copyFrom 0 0 [.ref (G.1 + a0), .ref (G.1 + a1)] h (po_v Q) := by
  refine ab_intro (own := RX0) (nm := "copyFrom") rfl rfl rfl (Nat.le_of_ble_eq_true rfl) (fun F C => ?_)
  show ab_W l G F 2 (ab_MQ G F (po_v Q) 0 0) 0 0 h [(0, .ref (G.1 + a0)), (1, .ref (G.1 + a1))] [] 0
  unfold wp_X0_copyFrom at f
  refine ab_aload_n C 0 dX0_copyFrom_0 rfl rfl ?_
  refine ab_aload_n C 1 dX0_copyFrom_1 rfl rfl ?_
  refine ab_getI C fl_X0_18 rfl hk1 (wf_lt hw hk1 rfl) dX0_copyFrom_2 ?_
  refine ab_putI C fl_X0_18 rfl hk0 (wf_lt hw hk0 rfl) rfl rfl dX0_copyFrom_5 (fun h_1 e_2 => ?_)
  have f := f h_1 e_2
  have hw_3 := wf_si e_2 hw
  refine ab_aload_n C 0 dX0_copyFrom_8 rfl rfl ?_
  refine ab_aload_n C 1 dX0_copyFrom_9 rfl rfl ?_
  refine ab_getI C fl_X0_22 rfl hk1 (wf_lt hw_3 hk1 rfl) dX0_copyFrom_10 ?_
  refine ab_putI C fl_X0_22 rfl hk0 (wf_lt hw_3 hk0 rfl) rfl rfl dX0_copyFrom_13 (fun h_4 e_5 => ?_)
  have f := f h_4 e_5
  have hw_6 := wf_si e_5 hw_3
  refine ab_aload_n C 0 dX0_copyFrom_16 rfl rfl ?_
  refine ab_aload_n C 1 dX0_copyFrom_17 rfl rfl ?_
  refine ab_getI C fl_X0_25 rfl hk1 (wf_lt hw_6 hk1 rfl) dX0_copyFrom_18 ?_
  refine ab_putI C fl_X0_25 rfl hk0 (wf_lt hw_6 hk0 rfl) rfl rfl dX0_copyFrom_21 (fun h_7 e_8 => ?_)
  have f := f h_7 e_8
  have hw_9 := wf_si e_8 hw_6
  refine ab_aload_n C 0 dX0_copyFrom_24 rfl rfl ?_
  refine ab_aload_n C 1 dX0_copyFrom_25 rfl rfl ?_
  refine ab_getI C fl_X0_28 rfl hk1 (wf_lt hw_9 hk1 rfl) dX0_copyFrom_26 ?_
  refine ab_putI C fl_X0_28 rfl hk0 (wf_lt hw_9 hk0 rfl) rfl rfl dX0_copyFrom_29 (fun h_10 e_11 => ?_)
  have f := f h_10 e_11
  have hw_12 := wf_si e_11 hw_9
  refine ab_aload_n C 0 dX0_copyFrom_32 rfl rfl ?_
  refine ab_aload_n C 1 dX0_copyFrom_33 rfl rfl ?_
  refine ab_getI C fl_X0_31 rfl hk1 (wf_lt hw_12 hk1 rfl) dX0_copyFrom_34 ?_
  refine ab_putI C fl_X0_31 rfl hk0 (wf_lt hw_12 hk0 rfl) rfl rfl dX0_copyFrom_37 (fun h_13 e_14 => ?_)
  have f := f h_13 e_14
  have hw_15 := wf_si e_14 hw_12
  refine ab_aload_n C 1 dX0_copyFrom_40 rfl rfl ?_
  refine ab_getR C (q := (a1 + 1)) fl_X0_9 rfl hk1 (wf_lt hw_15 hk1 rfl) (wr_0_5 hw_15 hk1) dX0_copyFrom_41 ?_
  refine ab_iconst C (v := (0 : Int32)) dX0_copyFrom_44 (by decide) ?_
  refine ab_aload_n C 0 dX0_copyFrom_45 rfl rfl ?_
  refine ab_getR C (q := (a0 + 1)) fl_X0_9 rfl hk0 (wf_lt hw_15 hk0 rfl) (wr_0_5 hw_15 hk0) dX0_copyFrom_46 ?_
  refine ab_iconst C (v := (0 : Int32)) dX0_copyFrom_49 (by decide) ?_
  refine ab_bipush C (v := (6 : Int32)) dX0_copyFrom_50 (by decide) ?_
  obtain ⟨c_16, f⟩ := f
  refine ab_copy C (t0 := 0) (ty := .int) (s0 := 0) (d0 := 0) (z0 := 6) cs_X0_34 (Or.inl ⟨by rw [(kn_0_5 hk1)]; decide, by rw [(kn_0_5 hk0)]; decide, rfl, rfl⟩) (wf_lt hw_15 (kn_0_5 hk1) rfl) (wf_lt hw_15 (kn_0_5 hk0) rfl) (wf_len hw_15 (kn_0_5 hk1) rfl rfl (by decide)) (wf_len hw_15 (kn_0_5 hk0) rfl rfl (by decide)) c_16.1 c_16.2.1 c_16.2.2.1 (by decide) (by decide) (by decide) c_16.2.2.2.1 c_16.2.2.2.2 (fun _ _ => rfl) (by decide) (by decide) (Nat.le_of_ble_eq_true rfl) dX0_copyFrom_52 (fun h_17 e_18 => ?_)
  have f := f h_17 e_18
  have hw_19 := wf_cp e_18 hw_15
  refine ab_aload_n C 1 dX0_copyFrom_55 rfl rfl ?_
  refine ab_getR C (q := (a1 + 2)) fl_X0_15 rfl hk1 (wf_lt hw_19 hk1 rfl) (wr_0_6 hw_19 hk1) dX0_copyFrom_56 ?_
  refine ab_iconst C (v := (0 : Int32)) dX0_copyFrom_59 (by decide) ?_
  refine ab_aload_n C 0 dX0_copyFrom_60 rfl rfl ?_
  refine ab_getR C (q := (a0 + 2)) fl_X0_15 rfl hk0 (wf_lt hw_19 hk0 rfl) (wr_0_6 hw_19 hk0) dX0_copyFrom_61 ?_
  refine ab_iconst C (v := (0 : Int32)) dX0_copyFrom_64 (by decide) ?_
  refine ab_bipush C (v := (6 : Int32)) dX0_copyFrom_65 (by decide) ?_
  obtain ⟨c_20, f⟩ := f
  refine ab_copy C (t0 := 0) (ty := .int) (s0 := 0) (d0 := 0) (z0 := 6) cs_X0_34 (Or.inl ⟨by rw [(kn_0_6 hk1)]; decide, by rw [(kn_0_6 hk0)]; decide, rfl, rfl⟩) (wf_lt hw_19 (kn_0_6 hk1) rfl) (wf_lt hw_19 (kn_0_6 hk0) rfl) (wf_len hw_19 (kn_0_6 hk1) rfl rfl (by decide)) (wf_len hw_19 (kn_0_6 hk0) rfl rfl (by decide)) c_20.1 c_20.2.1 c_20.2.2.1 (by decide) (by decide) (by decide) c_20.2.2.2.1 c_20.2.2.2.2 (fun _ _ => rfl) (by decide) (by decide) (Nat.le_of_ble_eq_true rfl) dX0_copyFrom_67 (fun h_21 e_22 => ?_)
  have f := f h_21 e_22
  have hw_23 := wf_cp e_22 hw_19
  exact ab_vret C dX0_copyFrom_70 ⟨hw_23, rfl, f⟩
/-! X0_forget -/
def rm_X0_forget : Room := { frames := 2, cells := 0, slots := 0, locals := 100 }
def wp_X0_forget (a0 : Nat) (x1 : Int32) (h : hp_T) (Q : hp_T → Prop) : Prop :=
  (∀ h_1, h_1 = hp_si h a0 3 ((hp_i h a0 3) &&& (((1 : Int32) <<< (x1 &&& 31)) ^^^ (-1 : Int32))) → (vp_in x1 6) ∧ (∀ h_5, h_5 = hp_si h_1 (a0 + 1) x1.toNatClampNeg (0 : Int32) → (vp_in x1 6) ∧ (∀ h_9, h_9 = hp_si h_5 (a0 + 2) x1.toNatClampNeg (0 : Int32) → (Q h_9))))
set_option maxRecDepth 100000 in
set_option maxHeartbeats 4000000 in
theorem mt_X0_forget {l : Launch} {G : ab_G} {a0 : Nat} {x1 : Int32} {h : hp_T} {Q : hp_T → Prop} (hk0 : ab_k a0 = 0) (hw : wf h) (f : wp_X0_forget a0 x1 h Q) : ab_M l G yX0_forget cX0_forget 2 none rm_X0_forget 0 0 [.ref (G.1 + a0), .int x1] h (po_v Q) := by
  refine ab_intro (own := RX0) (nm := "forget") rfl rfl rfl (Nat.le_of_ble_eq_true rfl) (fun F C => ?_)
  show ab_W l G F 2 (ab_MQ G F (po_v Q) 0 0) 0 0 h [(0, .ref (G.1 + a0)), (1, .int x1)] [] 0
  unfold wp_X0_forget at f
  refine ab_aload_n C 0 dX0_forget_0 rfl rfl ?_
  refine ab_dup C dX0_forget_1 rfl ?_
  refine ab_getI C fl_X0_28 rfl hk0 (wf_lt hw hk0 rfl) dX0_forget_2 ?_
  refine ab_iconst C (v := (1 : Int32)) dX0_forget_5 (by decide) ?_
  refine ab_iload_n C 1 dX0_forget_6 rfl rfl ?_
  refine ab_ishl C dX0_forget_7 ?_
  refine ab_iconst C (v := (-1 : Int32)) dX0_forget_8 (by decide) ?_
  refine ab_ixor C dX0_forget_9 ?_
  refine ab_iand C dX0_forget_10 ?_
  refine ab_putI C fl_X0_28 rfl hk0 (wf_lt hw hk0 rfl) rfl rfl dX0_forget_11 (fun h_1 e_2 => ?_)
  have f := f h_1 e_2
  have hw_3 := wf_si e_2 hw
  refine ab_aload_n C 0 dX0_forget_14 rfl rfl ?_
  refine ab_getR C (q := (a0 + 1)) fl_X0_9 rfl hk0 (wf_lt hw_3 hk0 rfl) (wr_0_5 hw_3 hk0) dX0_forget_15 ?_
  refine ab_iload_n C 1 dX0_forget_18 rfl rfl ?_
  refine ab_iconst C (v := (0 : Int32)) dX0_forget_19 (by decide) ?_
  obtain ⟨c_4, f⟩ := f
  refine ab_iast C (by rw [(kn_0_5 hk0)]; decide) (wf_lt hw_3 (kn_0_5 hk0) rfl) (wf_len hw_3 (kn_0_5 hk0) rfl rfl (by decide)) c_4 (j := x1.toNatClampNeg) rfl dX0_forget_20 (fun h_5 e_6 => ?_)
  have f := f h_5 e_6
  have hw_7 := wf_si e_6 hw_3
  refine ab_aload_n C 0 dX0_forget_21 rfl rfl ?_
  refine ab_getR C (q := (a0 + 2)) fl_X0_15 rfl hk0 (wf_lt hw_7 hk0 rfl) (wr_0_6 hw_7 hk0) dX0_forget_22 ?_
  refine ab_iload_n C 1 dX0_forget_25 rfl rfl ?_
  refine ab_iconst C (v := (0 : Int32)) dX0_forget_26 (by decide) ?_
  obtain ⟨c_8, f⟩ := f
  refine ab_iast C (by rw [(kn_0_6 hk0)]; decide) (wf_lt hw_7 (kn_0_6 hk0) rfl) (wf_len hw_7 (kn_0_6 hk0) rfl rfl (by decide)) c_8 (j := x1.toNatClampNeg) rfl dX0_forget_27 (fun h_9 e_10 => ?_)
  have f := f h_9 e_10
  have hw_11 := wf_si e_10 hw_7
  exact ab_vret C dX0_forget_28 ⟨hw_11, rfl, f⟩
/-! X0_init -/
def rm_X0_init : Room := { frames := 2, cells := 2, slots := 12, locals := 100 }
def wp_X0_init (a0 : Nat) (h : hp_T) (Q : hp_T → Prop) : Prop :=
  (16 ≤ ab_k (hp_n h)) ∧ (∀ h_1, h_1 = hp_na h 6 → (a0 < hp_n h_1) ∧ (∀ h_5, h_5 = hp_sr h_1 a0 5 (some (hp_n h)) → (16 ≤ ab_k (hp_n h_5)) ∧ (∀ h_7, h_7 = hp_na h_5 6 → (a0 < hp_n h_7) ∧ (∀ h_11, h_11 = hp_sr h_7 a0 6 (some (hp_n h_5)) → (Q h_11)))))
set_option maxRecDepth 100000 in
set_option maxHeartbeats 4000000 in
theorem mt_X0_init {l : Launch} {G : ab_G} {a0 : Nat} {h : hp_T} {Q : hp_T → Prop} (hk0 : ab_k a0 = 0) (f : wp_X0_init a0 h Q) : ab_M l G yX0_init cX0_init 1 none rm_X0_init 2 12 [.ref (G.1 + a0)] h (po_r Q) := by
  refine ab_intro (own := RX0) (nm := "<init>") rfl rfl rfl (Nat.le_of_ble_eq_true rfl) (fun F C => ?_)
  show ab_W l G F 1 (ab_MQ G F (po_r Q) 2 12) 0 0 h [(0, .ref (G.1 + a0))] [] 0
  unfold wp_X0_init at f
  refine ab_aload_n C 0 dX0_init_0 rfl rfl ?_
  refine ab_oinit C (b := a0) co_X0 (by decide) (by decide) (Nat.le_of_ble_eq_true rfl) dX0_init_1 ?_
  refine ab_aload_n C 0 dX0_init_4 rfl rfl ?_
  refine ab_bipush C (v := (6 : Int32)) dX0_init_5 (by decide) ?_
  obtain ⟨c_3, f⟩ := f
  refine ab_newI C (k := 0) (n := 0) (N := 6) kw_t73 c_3 (by decide) (by decide) (by decide) (Nat.le_of_ble_eq_true rfl) (Nat.le_of_ble_eq_true rfl) dX0_init_7 (fun h_1 e_2 => ?_)
  have f := f h_1 e_2
  obtain ⟨c_4, f⟩ := f
  refine ab_putR C (q := (hp_n h)) fl_X0_9 rfl (fun _ => rfl) hk0 c_4 (fun _ => rfl) (fun _ => rfl) dX0_init_9 (fun h_5 e_6 => ?_)
  have f := f h_5 e_6
  refine ab_aload_n C 0 dX0_init_12 rfl rfl ?_
  refine ab_bipush C (v := (6 : Int32)) dX0_init_13 (by decide) ?_
  obtain ⟨c_9, f⟩ := f
  refine ab_newI C (k := 1) (n := 6) (N := 6) kw_t73 c_9 (by decide) (by decide) (by decide) (Nat.le_of_ble_eq_true rfl) (Nat.le_of_ble_eq_true rfl) dX0_init_15 (fun h_7 e_8 => ?_)
  have f := f h_7 e_8
  obtain ⟨c_10, f⟩ := f
  refine ab_putR C (q := (hp_n h_5)) fl_X0_15 rfl (fun _ => rfl) hk0 c_10 (fun _ => rfl) (fun _ => rfl) dX0_init_17 (fun h_11 e_12 => ?_)
  have f := f h_11 e_12
  exact ab_vret C dX0_init_20 ⟨rfl, f⟩
/-! X0_isOf -/
def rm_X0_isOf : Room := { frames := 2, cells := 0, slots := 0, locals := 100 }
def wp_X0_isOf_L7 (a0 : Nat) (x1 : Int32) (h : hp_T) (Q : Int32 → Prop) : Nat → Int32 → Int32 → Prop
  | 0 => fun _ _ => False
  | nn + 1 => fun y2 y3 => (((7 : Int32) ≤ y3 → ((y2 = x1 → (Q (1 : Int32))) ∧ (¬ (y2 = x1) → (Q (0 : Int32))))) ∧ (¬ ((7 : Int32) ≤ y3) → ((y2 < 0 → ((y2 = x1 → (Q (1 : Int32))) ∧ (¬ (y2 = x1) → (Q (0 : Int32))))) ∧ (¬ (y2 < 0) → ((y2 = x1 → ((y2 = x1 → (Q (1 : Int32))) ∧ (¬ (y2 = x1) → (Q (0 : Int32))))) ∧ (¬ (y2 = x1) → (vp_in y2 7) ∧ (wp_X0_isOf_L7 a0 x1 h Q nn) (ab_abv y2.toNatClampNeg) (y3 + (1 : Int32))))))))
set_option maxRecDepth 100000 in
set_option maxHeartbeats 4000000 in
theorem bt_X0_isOf_L7 {l : Launch} {G : ab_G} {F : ab_F} {a0 : Nat} {x1 : Int32} {h : hp_T} {Q : Int32 → Prop}  (C : ab_C G F rm_X0_isOf cX0_isOf 4 RX0 (some .boolean) "isOf") (hk0 : ab_k a0 = 0) (hw : wf h)  : ∀ (nn : Nat) (y2 : Int32) (y3 : Int32), wp_X0_isOf_L7 a0 x1 h Q nn y2 y3 → ab_W l G F 4 (ab_MQ G F (po_p h Q) 0 0) 0 0 h [(1, .int x1), (2, .int y2), (3, .int y3)] [] 7 := by
  intro nn
  induction nn with
  | zero =>
    intro y2 y3 f
    exact absurd f id
  | succ nn ih =>
    intro y2 y3 f
    unfold wp_X0_isOf_L7 at f
    refine ab_iload_n C 2 dX0_isOf_7 rfl rfl ?_
    refine ab_bipush C (v := (7 : Int32)) dX0_isOf_8 (by decide) ?_
    refine ab_icmp_ge C (tgt := 34) dX0_isOf_10 (by decide) (fun c_1 => ?_) (fun c_1 => ?_)
    · have f := f.1 c_1
      refine ab_iload_n C 1 dX0_isOf_34 rfl rfl ?_
      refine ab_iload_n C 0 dX0_isOf_35 rfl rfl ?_
      refine ab_icmp_ne C (tgt := 43) dX0_isOf_36 (by decide) (fun c_2 => ?_) (fun c_2 => ?_)
      · have f := f.2 c_2
        refine ab_iconst C (v := (0 : Int32)) dX0_isOf_43 (by decide) ?_
        exact ab_zret C dX0_isOf_44 rfl ⟨rfl, _, rfl, f⟩
      · have f := f.1 c_2
        refine ab_iconst C (v := (1 : Int32)) dX0_isOf_39 (by decide) ?_
        refine ab_goto C (tgt := 44) dX0_isOf_40 (by decide) ?_
        exact ab_zret C dX0_isOf_44 rfl ⟨rfl, _, rfl, f⟩
    · have f := f.2 c_1
      refine ab_iload_n C 1 dX0_isOf_13 rfl rfl ?_
      refine ab_if_lt C (tgt := 34) dX0_isOf_14 (by decide) (fun c_3 => ?_) (fun c_3 => ?_)
      · have f := f.1 c_3
        refine ab_iload_n C 1 dX0_isOf_34 rfl rfl ?_
        refine ab_iload_n C 0 dX0_isOf_35 rfl rfl ?_
        refine ab_icmp_ne C (tgt := 43) dX0_isOf_36 (by decide) (fun c_4 => ?_) (fun c_4 => ?_)
        · have f := f.2 c_4
          refine ab_iconst C (v := (0 : Int32)) dX0_isOf_43 (by decide) ?_
          exact ab_zret C dX0_isOf_44 rfl ⟨rfl, _, rfl, f⟩
        · have f := f.1 c_4
          refine ab_iconst C (v := (1 : Int32)) dX0_isOf_39 (by decide) ?_
          refine ab_goto C (tgt := 44) dX0_isOf_40 (by decide) ?_
          exact ab_zret C dX0_isOf_44 rfl ⟨rfl, _, rfl, f⟩
      · have f := f.2 c_3
        refine ab_iload_n C 1 dX0_isOf_17 rfl rfl ?_
        refine ab_iload_n C 0 dX0_isOf_18 rfl rfl ?_
        refine ab_icmp_eq C (tgt := 34) dX0_isOf_19 (by decide) (fun c_5 => ?_) (fun c_5 => ?_)
        · have f := f.1 c_5
          refine ab_iload_n C 1 dX0_isOf_34 rfl rfl ?_
          refine ab_iload_n C 0 dX0_isOf_35 rfl rfl ?_
          refine ab_icmp_ne C (tgt := 43) dX0_isOf_36 (by decide) (fun c_6 => ?_) (fun c_6 => ?_)
          · have f := f.2 c_6
            refine ab_iconst C (v := (0 : Int32)) dX0_isOf_43 (by decide) ?_
            exact ab_zret C dX0_isOf_44 rfl ⟨rfl, _, rfl, f⟩
          · have f := f.1 c_6
            refine ab_iconst C (v := (1 : Int32)) dX0_isOf_39 (by decide) ?_
            refine ab_goto C (tgt := 44) dX0_isOf_40 (by decide) ?_
            exact ab_zret C dX0_isOf_44 rfl ⟨rfl, _, rfl, f⟩
        · have f := f.2 c_5
          refine ab_getsA C (fun _ h => h.2.2.2.2.2.2.1) dX0_isOf_22 ?_
          refine ab_iload_n C 1 dX0_isOf_25 rfl rfl ?_
          obtain ⟨c_7, f⟩ := f
          refine ab_taldA C c_7 (j := y2.toNatClampNeg) rfl dX0_isOf_26 ?_
          refine ab_istore_n C (lv' := [(2, .int (ab_abv y2.toNatClampNeg)), (1, .int x1), (3, .int y3)]) dX0_isOf_27 rfl (by decide) rfl ?_
          refine ab_iinc C (lv' := [(3, .int (y3 + (1 : Int32))), (2, .int (ab_abv y2.toNatClampNeg)), (1, .int x1)]) 2 (v := (y3 + (1 : Int32))) dX0_isOf_28 rfl rfl (by decide) rfl ?_
          refine ab_goto C (tgt := 7) dX0_isOf_31 (by decide) ?_
          refine ab_sub (lv' := [(1, .int x1), (2, .int (ab_abv y2.toNatClampNeg)), (3, .int (y3 + (1 : Int32)))]) [2, 1, 0] rfl ?_
          exact ih (ab_abv y2.toNatClampNeg) (y3 + (1 : Int32))   f
def wp_X0_isOf (a0 : Nat) (x1 : Int32) (h : hp_T) (Q : Int32 → Prop) : Prop :=
  (∃ n0, wp_X0_isOf_L7 a0 x1 h Q  n0 (hp_i h a0 0) (0 : Int32))
set_option maxRecDepth 100000 in
set_option maxHeartbeats 4000000 in
theorem mt_X0_isOf {l : Launch} {G : ab_G} {a0 : Nat} {x1 : Int32} {h : hp_T} {Q : Int32 → Prop} (hk0 : ab_k a0 = 0) (hw : wf h) (f : wp_X0_isOf a0 x1 h Q) : ab_M l G yX0_isOf cX0_isOf 4 (some .boolean) rm_X0_isOf 0 0 [.ref (G.1 + a0), .int x1] h (po_p h Q) := by
  refine ab_intro (own := RX0) (nm := "isOf") rfl rfl rfl (Nat.le_of_ble_eq_true rfl) (fun F C => ?_)
  show ab_W l G F 4 (ab_MQ G F (po_p h Q) 0 0) 0 0 h [(0, .ref (G.1 + a0)), (1, .int x1)] [] 0
  unfold wp_X0_isOf at f
  refine ab_aload_n C 0 dX0_isOf_0 rfl rfl ?_
  refine ab_getI C fl_X0_18 rfl hk0 (wf_lt hw hk0 rfl) dX0_isOf_1 ?_
  refine ab_istore_n C (lv' := [(2, .int (hp_i h a0 0)), (0, .ref (G.1 + a0)), (1, .int x1)]) dX0_isOf_4 rfl (by decide) rfl ?_
  refine ab_iconst C (v := (0 : Int32)) dX0_isOf_5 (by decide) ?_
  refine ab_istore_n C (lv' := [(3, .int (0 : Int32)), (2, .int (hp_i h a0 0)), (0, .ref (G.1 + a0)), (1, .int x1)]) dX0_isOf_6 rfl (by decide) rfl ?_
  obtain ⟨n0, f⟩ := f
  refine ab_sub (lv' := [(1, .int x1), (2, .int (hp_i h a0 0)), (3, .int (0 : Int32))]) [3, 1, 0] rfl ?_
  exact bt_X0_isOf_L7 C hk0 hw  n0 (hp_i h a0 0) (0 : Int32)   f
/-! X7_within -/
def rm_X7_within : Room := { frames := 2, cells := 0, slots := 0, locals := 100 }
def wp_X7_within (x0 : Int32) (x1 : Int32) (x2 : Int32) (h : hp_T) (Q : Int32 → Prop) : Prop :=
  ((x0 < x1 → (Q (0 : Int32))) ∧ (¬ (x0 < x1) → ((x2 < x0 → (Q (0 : Int32))) ∧ (¬ (x2 < x0) → (Q (1 : Int32))))))
set_option maxRecDepth 100000 in
set_option maxHeartbeats 4000000 in
theorem mt_X7_within {l : Launch} {G : ab_G} {x0 : Int32} {x1 : Int32} {x2 : Int32} {h : hp_T} {Q : Int32 → Prop} (hw : wf h) (f : wp_X7_within x0 x1 x2 h Q) : ab_M l G yX7_within cX7_within 3 (some .boolean) rm_X7_within 0 0 [.int x0, .int x1, .int x2] h (po_p h Q) := by
  refine ab_intro (own := RX7) (nm := "within") rfl rfl rfl (Nat.le_of_ble_eq_true rfl) (fun F C => ?_)
  show ab_W l G F 3 (ab_MQ G F (po_p h Q) 0 0) 0 0 h [(0, .int x0), (1, .int x1), (2, .int x2)] [] 0
  unfold wp_X7_within at f
  refine ab_iload_n C 0 dX7_within_0 rfl rfl ?_
  refine ab_iload_n C 1 dX7_within_1 rfl rfl ?_
  refine ab_icmp_lt C (tgt := 14) dX7_within_2 (by decide) (fun c_1 => ?_) (fun c_1 => ?_)
  · have f := f.1 c_1
    refine ab_iconst C (v := (0 : Int32)) dX7_within_14 (by decide) ?_
    exact ab_zret C dX7_within_15 rfl ⟨rfl, _, rfl, f⟩
  · have f := f.2 c_1
    refine ab_iload_n C 0 dX7_within_5 rfl rfl ?_
    refine ab_iload_n C 2 dX7_within_6 rfl rfl ?_
    refine ab_icmp_gt C (tgt := 14) dX7_within_7 (by decide) (fun c_2 => ?_) (fun c_2 => ?_)
    · have f := f.1 c_2
      refine ab_iconst C (v := (0 : Int32)) dX7_within_14 (by decide) ?_
      exact ab_zret C dX7_within_15 rfl ⟨rfl, _, rfl, f⟩
    · have f := f.2 c_2
      refine ab_iconst C (v := (1 : Int32)) dX7_within_10 (by decide) ?_
      refine ab_goto C (tgt := 15) dX7_within_11 (by decide) ?_
      exact ab_zret C dX7_within_15 rfl ⟨rfl, _, rfl, f⟩
/-! X7_isKnack -/
def rm_X7_isKnack : Room := { frames := 3, cells := 0, slots := 0, locals := 122 }
def wp_X7_isKnack (x0 : Int32) (h : hp_T) (Q : Int32 → Prop) : Prop :=
  wp_X7_within x0 (0 : Int32) (5 : Int32) h (fun v_1 => (bo_ok v_1) ∧ (Q v_1))
set_option maxRecDepth 100000 in
set_option maxHeartbeats 4000000 in
theorem mt_X7_isKnack {l : Launch} {G : ab_G} {x0 : Int32} {h : hp_T} {Q : Int32 → Prop} (hw : wf h) (f : wp_X7_isKnack x0 h Q) : ab_M l G yX7_isKnack cX7_isKnack 1 (some .boolean) rm_X7_isKnack 0 0 [.int x0] h (po_p h Q) := by
  refine ab_intro (own := RX7) (nm := "isKnack") rfl rfl rfl (Nat.le_of_ble_eq_true rfl) (fun F C => ?_)
  show ab_W l G F 1 (ab_MQ G F (po_p h Q) 0 0) 0 0 h [(0, .int x0)] [] 0
  unfold wp_X7_isKnack at f
  refine ab_iload_n C 0 dX7_isKnack_0 rfl rfl ?_
  refine ab_iconst C (v := (0 : Int32)) dX7_isKnack_1 (by decide) ?_
  refine ab_iconst C (v := (5 : Int32)) dX7_isKnack_2 (by decide) ?_
  refine ab_callS C (k := 0) (n := 0) (rest := []) [.int x0, .int (0 : Int32), .int (5 : Int32)] cl_X7_47 (mt_X7_within  hw f) ⟨rfl, rfl, Nat.le_of_ble_eq_true rfl, Nat.le_of_ble_eq_true rfl, Nat.zero_le _, Nat.zero_le _⟩ rfl rfl (Nat.le_of_ble_eq_true rfl) dX7_isKnack_3 (ab_kp (k := 0) (n := 0) (fun v_1 f => ?_))
  obtain ⟨c_2, f⟩ := f
  exact ab_zret C dX7_isKnack_6 (bo_nar c_2) ⟨rfl, _, rfl, f⟩
/-! X0_knows -/
def rm_X0_knows : Room := { frames := 4, cells := 0, slots := 0, locals := 142 }
def wp_X0_knows (a0 : Nat) (x1 : Int32) (h : hp_T) (Q : Int32 → Prop) : Prop :=
  wp_X7_isKnack x1 h (fun v_1 => ((v_1 = 0 → (Q (0 : Int32))) ∧ (¬ (v_1 = 0) → (((((hp_i h a0 3) >>> (x1 &&& 31)) &&& (1 : Int32)) = 0 → (Q (0 : Int32))) ∧ (¬ ((((hp_i h a0 3) >>> (x1 &&& 31)) &&& (1 : Int32)) = 0) → (Q (1 : Int32)))))))
set_option maxRecDepth 100000 in
set_option maxHeartbeats 4000000 in
theorem mt_X0_knows {l : Launch} {G : ab_G} {a0 : Nat} {x1 : Int32} {h : hp_T} {Q : Int32 → Prop} (hk0 : ab_k a0 = 0) (hw : wf h) (f : wp_X0_knows a0 x1 h Q) : ab_M l G yX0_knows cX0_knows 2 (some .boolean) rm_X0_knows 0 0 [.ref (G.1 + a0), .int x1] h (po_p h Q) := by
  refine ab_intro (own := RX0) (nm := "knows") rfl rfl rfl (Nat.le_of_ble_eq_true rfl) (fun F C => ?_)
  show ab_W l G F 2 (ab_MQ G F (po_p h Q) 0 0) 0 0 h [(0, .ref (G.1 + a0)), (1, .int x1)] [] 0
  unfold wp_X0_knows at f
  refine ab_iload_n C 1 dX0_knows_0 rfl rfl ?_
  refine ab_callN C (k := 0) (n := 0) (rest := []) [.int x1] cl_X0_48 (mt_X7_isKnack  hw f) ⟨rfl, rfl, Nat.le_of_ble_eq_true rfl, Nat.le_of_ble_eq_true rfl, Nat.zero_le _, Nat.zero_le _⟩ rfl rfl (Nat.le_of_ble_eq_true rfl) dX0_knows_1 (ab_kp (k := 0) (n := 0) (fun v_1 f => ?_))
  refine ab_if_eq C (tgt := 22) dX0_knows_4 (by decide) (fun c_2 => ?_) (fun c_2 => ?_)
  · have f := f.1 c_2
    refine ab_iconst C (v := (0 : Int32)) dX0_knows_22 (by decide) ?_
    exact ab_zret C dX0_knows_23 rfl ⟨rfl, _, rfl, f⟩
  · have f := f.2 c_2
    refine ab_aload_n C 0 dX0_knows_7 rfl rfl ?_
    refine ab_getI C fl_X0_28 rfl hk0 (wf_lt hw hk0 rfl) dX0_knows_8 ?_
    refine ab_iload_n C 1 dX0_knows_11 rfl rfl ?_
    refine ab_ishr C dX0_knows_12 ?_
    refine ab_iconst C (v := (1 : Int32)) dX0_knows_13 (by decide) ?_
    refine ab_iand C dX0_knows_14 ?_
    refine ab_if_eq C (tgt := 22) dX0_knows_15 (by decide) (fun c_3 => ?_) (fun c_3 => ?_)
    · have f := f.1 c_3
      refine ab_iconst C (v := (0 : Int32)) dX0_knows_22 (by decide) ?_
      exact ab_zret C dX0_knows_23 rfl ⟨rfl, _, rfl, f⟩
    · have f := f.2 c_3
      refine ab_iconst C (v := (1 : Int32)) dX0_knows_18 (by decide) ?_
      refine ab_goto C (tgt := 23) dX0_knows_19 (by decide) ?_
      exact ab_zret C dX0_knows_23 rfl ⟨rfl, _, rfl, f⟩
/-! X0_learn -/
def rm_X0_learn : Room := { frames := 2, cells := 0, slots := 0, locals := 100 }
def wp_X0_learn (a0 : Nat) (x1 : Int32) (x2 : Int32) (h : hp_T) (Q : hp_T → Prop) : Prop :=
  (∀ h_1, h_1 = hp_si h a0 3 ((hp_i h a0 3) ||| ((1 : Int32) <<< (x1 &&& 31))) → (vp_in x1 6) ∧ (∀ h_5, h_5 = hp_si h_1 (a0 + 1) x1.toNatClampNeg x2 → (Q h_5)))
set_option maxRecDepth 100000 in
set_option maxHeartbeats 4000000 in
theorem mt_X0_learn {l : Launch} {G : ab_G} {a0 : Nat} {x1 : Int32} {x2 : Int32} {h : hp_T} {Q : hp_T → Prop} (hk0 : ab_k a0 = 0) (hw : wf h) (f : wp_X0_learn a0 x1 x2 h Q) : ab_M l G yX0_learn cX0_learn 3 none rm_X0_learn 0 0 [.ref (G.1 + a0), .int x1, .int x2] h (po_v Q) := by
  refine ab_intro (own := RX0) (nm := "learn") rfl rfl rfl (Nat.le_of_ble_eq_true rfl) (fun F C => ?_)
  show ab_W l G F 3 (ab_MQ G F (po_v Q) 0 0) 0 0 h [(0, .ref (G.1 + a0)), (1, .int x1), (2, .int x2)] [] 0
  unfold wp_X0_learn at f
  refine ab_aload_n C 0 dX0_learn_0 rfl rfl ?_
  refine ab_dup C dX0_learn_1 rfl ?_
  refine ab_getI C fl_X0_28 rfl hk0 (wf_lt hw hk0 rfl) dX0_learn_2 ?_
  refine ab_iconst C (v := (1 : Int32)) dX0_learn_5 (by decide) ?_
  refine ab_iload_n C 1 dX0_learn_6 rfl rfl ?_
  refine ab_ishl C dX0_learn_7 ?_
  refine ab_ior C dX0_learn_8 ?_
  refine ab_putI C fl_X0_28 rfl hk0 (wf_lt hw hk0 rfl) rfl rfl dX0_learn_9 (fun h_1 e_2 => ?_)
  have f := f h_1 e_2
  have hw_3 := wf_si e_2 hw
  refine ab_aload_n C 0 dX0_learn_12 rfl rfl ?_
  refine ab_getR C (q := (a0 + 1)) fl_X0_9 rfl hk0 (wf_lt hw_3 hk0 rfl) (wr_0_5 hw_3 hk0) dX0_learn_13 ?_
  refine ab_iload_n C 1 dX0_learn_16 rfl rfl ?_
  refine ab_iload_n C 2 dX0_learn_17 rfl rfl ?_
  obtain ⟨c_4, f⟩ := f
  refine ab_iast C (by rw [(kn_0_5 hk0)]; decide) (wf_lt hw_3 (kn_0_5 hk0) rfl) (wf_len hw_3 (kn_0_5 hk0) rfl rfl (by decide)) c_4 (j := x1.toNatClampNeg) rfl dX0_learn_18 (fun h_5 e_6 => ?_)
  have f := f h_5 e_6
  have hw_7 := wf_si e_6 hw_3
  exact ab_vret C dX0_learn_19 ⟨hw_7, rfl, f⟩
/-! X0_learnAll -/
def rm_X0_learnAll : Room := { frames := 3, cells := 0, slots := 0, locals := 122 }
def wp_X0_learnAll_L2 (a0 : Nat) (x1 : Int32) (x2 : Int32) (Q : hp_T → Prop) : Nat → Int32 → hp_T → Prop
  | 0 => fun _ _ => False
  | nn + 1 => fun y3 h => (((6 : Int32) ≤ y3 → (Q h)) ∧ (¬ ((6 : Int32) ≤ y3) → ((((x1 >>> (y3 &&& 31)) &&& (1 : Int32)) = 0 → (wp_X0_learnAll_L2 a0 x1 x2 Q nn) (y3 + (1 : Int32)) h) ∧ (¬ (((x1 >>> (y3 &&& 31)) &&& (1 : Int32)) = 0) → wp_X0_learn a0 y3 x2 h (fun h_3 => (wp_X0_learnAll_L2 a0 x1 x2 Q nn) (y3 + (1 : Int32)) h_3)))))
set_option maxRecDepth 100000 in
set_option maxHeartbeats 4000000 in
theorem bt_X0_learnAll_L2 {l : Launch} {G : ab_G} {F : ab_F} {a0 : Nat} {x1 : Int32} {x2 : Int32} {Q : hp_T → Prop}  (C : ab_C G F rm_X0_learnAll cX0_learnAll 4 RX0 none "learnAll") (hk0 : ab_k a0 = 0)  : ∀ (nn : Nat) (y3 : Int32) (h : hp_T), wf h → wp_X0_learnAll_L2 a0 x1 x2 Q nn y3 h → ab_W l G F 4 (ab_MQ G F (po_v Q) 0 0) 0 0 h [(0, .ref (G.1 + a0)), (1, .int x1), (2, .int x2), (3, .int y3)] [] 2 := by
  intro nn
  induction nn with
  | zero =>
    intro y3 h hw f
    exact absurd f id
  | succ nn ih =>
    intro y3 h hw f
    unfold wp_X0_learnAll_L2 at f
    refine ab_iload_n C 3 dX0_learnAll_2 rfl rfl ?_
    refine ab_bipush C (v := (6 : Int32)) dX0_learnAll_3 (by decide) ?_
    refine ab_icmp_ge C (tgt := 28) dX0_learnAll_5 (by decide) (fun c_1 => ?_) (fun c_1 => ?_)
    · have f := f.1 c_1
      exact ab_vret C dX0_learnAll_28 ⟨hw, rfl, f⟩
    · have f := f.2 c_1
      refine ab_iload_n C 1 dX0_learnAll_8 rfl rfl ?_
      refine ab_iload_n C 3 dX0_learnAll_9 rfl rfl ?_
      refine ab_ishr C dX0_learnAll_10 ?_
      refine ab_iconst C (v := (1 : Int32)) dX0_learnAll_11 (by decide) ?_
      refine ab_iand C dX0_learnAll_12 ?_
      refine ab_if_eq C (tgt := 22) dX0_learnAll_13 (by decide) (fun c_2 => ?_) (fun c_2 => ?_)
      · have f := f.1 c_2
        refine ab_iinc C (lv' := [(3, .int (y3 + (1 : Int32))), (0, .ref (G.1 + a0)), (1, .int x1), (2, .int x2)]) 3 (v := (y3 + (1 : Int32))) dX0_learnAll_22 rfl rfl (by decide) rfl ?_
        refine ab_goto C (tgt := 2) dX0_learnAll_25 (by decide) ?_
        refine ab_sub (lv' := [(0, .ref (G.1 + a0)), (1, .int x1), (2, .int x2), (3, .int (y3 + (1 : Int32)))]) [1, 2, 3, 0] rfl ?_
        exact ih (y3 + (1 : Int32)) h  hw f
      · have f := f.2 c_2
        refine ab_aload_n C 0 dX0_learnAll_16 rfl rfl ?_
        refine ab_iload_n C 3 dX0_learnAll_17 rfl rfl ?_
        refine ab_iload_n C 2 dX0_learnAll_18 rfl rfl ?_
        refine ab_callV C (k := 0) (n := 0) (rest := []) [.int y3, .int x2] cl_X0_44 (mt_X0_learn hk0 hw f) rfl (by decide) hk0 (wf_lt hw hk0 rfl) ⟨rfl, rfl, Nat.le_of_ble_eq_true rfl, Nat.le_of_ble_eq_true rfl, Nat.zero_le _, Nat.zero_le _⟩ rfl rfl (Nat.le_of_ble_eq_true rfl) dX0_learnAll_19 (ab_kv (k := 0) (n := 0) (fun h_3 hw_4 f => ?_))
        refine ab_iinc C (lv' := [(3, .int (y3 + (1 : Int32))), (0, .ref (G.1 + a0)), (1, .int x1), (2, .int x2)]) 3 (v := (y3 + (1 : Int32))) dX0_learnAll_22 rfl rfl (by decide) rfl ?_
        refine ab_goto C (tgt := 2) dX0_learnAll_25 (by decide) ?_
        refine ab_sub (lv' := [(0, .ref (G.1 + a0)), (1, .int x1), (2, .int x2), (3, .int (y3 + (1 : Int32)))]) [1, 2, 3, 0] rfl ?_
        exact ih (y3 + (1 : Int32)) h_3  hw_4 f
def wp_X0_learnAll (a0 : Nat) (x1 : Int32) (x2 : Int32) (h : hp_T) (Q : hp_T → Prop) : Prop :=
  (∃ n0, wp_X0_learnAll_L2 a0 x1 x2 Q  n0 (0 : Int32) h)
set_option maxRecDepth 100000 in
set_option maxHeartbeats 4000000 in
theorem mt_X0_learnAll {l : Launch} {G : ab_G} {a0 : Nat} {x1 : Int32} {x2 : Int32} {h : hp_T} {Q : hp_T → Prop} (hk0 : ab_k a0 = 0) (hw : wf h) (f : wp_X0_learnAll a0 x1 x2 h Q) : ab_M l G yX0_learnAll cX0_learnAll 4 none rm_X0_learnAll 0 0 [.ref (G.1 + a0), .int x1, .int x2] h (po_v Q) := by
  refine ab_intro (own := RX0) (nm := "learnAll") rfl rfl rfl (Nat.le_of_ble_eq_true rfl) (fun F C => ?_)
  show ab_W l G F 4 (ab_MQ G F (po_v Q) 0 0) 0 0 h [(0, .ref (G.1 + a0)), (1, .int x1), (2, .int x2)] [] 0
  unfold wp_X0_learnAll at f
  refine ab_iconst C (v := (0 : Int32)) dX0_learnAll_0 (by decide) ?_
  refine ab_istore_n C (lv' := [(3, .int (0 : Int32)), (0, .ref (G.1 + a0)), (1, .int x1), (2, .int x2)]) dX0_learnAll_1 rfl (by decide) rfl ?_
  obtain ⟨n0, f⟩ := f
  refine ab_sub (lv' := [(0, .ref (G.1 + a0)), (1, .int x1), (2, .int x2), (3, .int (0 : Int32))]) [1, 2, 3, 0] rfl ?_
  exact bt_X0_learnAll_L2 C hk0   n0 (0 : Int32) h  hw f
/-! X0_settle -/
def rm_X0_settle : Room := { frames := 3, cells := 0, slots := 0, locals := 121 }
def wp_X0_settle_L23 (a0 : Nat) (x1 : Int32) (x2 : Int32) (Q : hp_T → Prop) : Nat → Int32 → hp_T → Prop
  | 0 => fun _ _ => False
  | nn + 1 => fun y3 h => (((6 : Int32) ≤ y3 → (Q h)) ∧ (¬ ((6 : Int32) ≤ y3) → wp_X0_forget a0 y3 h (fun h_11 => (wp_X0_settle_L23 a0 x1 x2 Q nn) (y3 + (1 : Int32)) h_11)))
set_option maxRecDepth 100000 in
set_option maxHeartbeats 4000000 in
theorem bt_X0_settle_L23 {l : Launch} {G : ab_G} {F : ab_F} {a0 : Nat} {x1 : Int32} {x2 : Int32} {Q : hp_T → Prop}  (C : ab_C G F rm_X0_settle cX0_settle 4 RX0 none "settle") (hk0 : ab_k a0 = 0)  : ∀ (nn : Nat) (y3 : Int32) (h : hp_T), wf h → wp_X0_settle_L23 a0 x1 x2 Q nn y3 h → ab_W l G F 4 (ab_MQ G F (po_v Q) 0 0) 0 0 h [(0, .ref (G.1 + a0)), (3, .int y3)] [] 23 := by
  intro nn
  induction nn with
  | zero =>
    intro y3 h hw f
    exact absurd f id
  | succ nn ih =>
    intro y3 h hw f
    unfold wp_X0_settle_L23 at f
    refine ab_iload_n C 1 dX0_settle_23 rfl rfl ?_
    refine ab_bipush C (v := (6 : Int32)) dX0_settle_24 (by decide) ?_
    refine ab_icmp_ge C (tgt := 40) dX0_settle_26 (by decide) (fun c_10 => ?_) (fun c_10 => ?_)
    · have f := f.1 c_10
      exact ab_vret C dX0_settle_40 ⟨hw, rfl, f⟩
    · have f := f.2 c_10
      refine ab_aload_n C 0 dX0_settle_29 rfl rfl ?_
      refine ab_iload_n C 1 dX0_settle_30 rfl rfl ?_
      refine ab_callV C (k := 0) (n := 0) (rest := []) [.int y3] cl_X0_40 (mt_X0_forget hk0 hw f) rfl (by decide) hk0 (wf_lt hw hk0 rfl) ⟨rfl, rfl, Nat.le_of_ble_eq_true rfl, Nat.le_of_ble_eq_true rfl, Nat.zero_le _, Nat.zero_le _⟩ rfl rfl (Nat.le_of_ble_eq_true rfl) dX0_settle_31 (ab_kv (k := 0) (n := 0) (fun h_11 hw_12 f => ?_))
      refine ab_iinc C (lv' := [(3, .int (y3 + (1 : Int32))), (0, .ref (G.1 + a0))]) 1 (v := (y3 + (1 : Int32))) dX0_settle_34 rfl rfl (by decide) rfl ?_
      refine ab_goto C (tgt := 23) dX0_settle_37 (by decide) ?_
      refine ab_sub (lv' := [(0, .ref (G.1 + a0)), (3, .int (y3 + (1 : Int32)))]) [1, 0] rfl ?_
      exact ih (y3 + (1 : Int32)) h_11  hw_12 f
def wp_X0_settle (a0 : Nat) (x1 : Int32) (x2 : Int32) (h : hp_T) (Q : hp_T → Prop) : Prop :=
  (∀ h_1, h_1 = hp_si h a0 0 (x1 / (10 : Int32)) → (∀ h_4, h_4 = hp_si h_1 a0 1 (x1 - x1 / (10 : Int32) * (10 : Int32)) → (∀ h_7, h_7 = hp_si h_4 a0 2 x2 → (∃ n0, wp_X0_settle_L23 a0 x1 x2 Q  n0 (0 : Int32) h_7))))
set_option maxRecDepth 100000 in
set_option maxHeartbeats 4000000 in
theorem mt_X0_settle {l : Launch} {G : ab_G} {a0 : Nat} {x1 : Int32} {x2 : Int32} {h : hp_T} {Q : hp_T → Prop} (hk0 : ab_k a0 = 0) (hw : wf h) (f : wp_X0_settle a0 x1 x2 h Q) : ab_M l G yX0_settle cX0_settle 4 none rm_X0_settle 0 0 [.ref (G.1 + a0), .int x1, .int x2] h (po_v Q) := by
  refine ab_intro (own := RX0) (nm := "settle") rfl rfl rfl (Nat.le_of_ble_eq_true rfl) (fun F C => ?_)
  show ab_W l G F 4 (ab_MQ G F (po_v Q) 0 0) 0 0 h [(0, .ref (G.1 + a0)), (1, .int x1), (2, .int x2)] [] 0
  unfold wp_X0_settle at f
  refine ab_aload_n C 0 dX0_settle_0 rfl rfl ?_
  refine ab_iload_n C 1 dX0_settle_1 rfl rfl ?_
  refine ab_bipush C (v := (10 : Int32)) dX0_settle_2 (by decide) ?_
  refine ab_idiv C dX0_settle_4 (by decide) ?_
  refine ab_putI C fl_X0_18 rfl hk0 (wf_lt hw hk0 rfl) rfl rfl dX0_settle_5 (fun h_1 e_2 => ?_)
  have f := f h_1 e_2
  have hw_3 := wf_si e_2 hw
  refine ab_aload_n C 0 dX0_settle_8 rfl rfl ?_
  refine ab_iload_n C 1 dX0_settle_9 rfl rfl ?_
  refine ab_bipush C (v := (10 : Int32)) dX0_settle_10 (by decide) ?_
  refine ab_irem C dX0_settle_12 (by decide) ?_
  refine ab_putI C fl_X0_22 rfl hk0 (wf_lt hw_3 hk0 rfl) rfl rfl dX0_settle_13 (fun h_4 e_5 => ?_)
  have f := f h_4 e_5
  have hw_6 := wf_si e_5 hw_3
  refine ab_aload_n C 0 dX0_settle_16 rfl rfl ?_
  refine ab_iload_n C 2 dX0_settle_17 rfl rfl ?_
  refine ab_putI C fl_X0_25 rfl hk0 (wf_lt hw_6 hk0 rfl) rfl rfl dX0_settle_18 (fun h_7 e_8 => ?_)
  have f := f h_7 e_8
  have hw_9 := wf_si e_8 hw_6
  refine ab_iconst C (v := (0 : Int32)) dX0_settle_21 (by decide) ?_
  refine ab_istore_n C (lv' := [(3, .int (0 : Int32)), (0, .ref (G.1 + a0)), (1, .int x1), (2, .int x2)]) dX0_settle_22 rfl (by decide) rfl ?_
  obtain ⟨n0, f⟩ := f
  refine ab_sub (lv' := [(0, .ref (G.1 + a0)), (3, .int (0 : Int32))]) [1, 0] rfl ?_
  exact bt_X0_settle_L23 C hk0   n0 (0 : Int32) h_7  hw_9 f
/-! X0_stays -/
def rm_X0_stays : Room := { frames := 2, cells := 0, slots := 0, locals := 100 }
def wp_X0_stays (a0 : Nat) (x1 : Int32) (h : hp_T) (Q : Int32 → Prop) : Prop :=
  (((hp_i h a0 0) = (5 : Int32) → (¬ ((hp_i h a0 1) + (2 : Int32)) = 0) ∧ (((x1 - x1 / ((hp_i h a0 1) + (2 : Int32)) * ((hp_i h a0 1) + (2 : Int32))) = 0 → (Q (1 : Int32))) ∧ (¬ ((x1 - x1 / ((hp_i h a0 1) + (2 : Int32)) * ((hp_i h a0 1) + (2 : Int32))) = 0) → (Q (0 : Int32))))) ∧ (¬ ((hp_i h a0 0) = (5 : Int32)) → (Q (0 : Int32))))
set_option maxRecDepth 100000 in
set_option maxHeartbeats 4000000 in
theorem mt_X0_stays {l : Launch} {G : ab_G} {a0 : Nat} {x1 : Int32} {h : hp_T} {Q : Int32 → Prop} (hk0 : ab_k a0 = 0) (hw : wf h) (f : wp_X0_stays a0 x1 h Q) : ab_M l G yX0_stays cX0_stays 2 (some .boolean) rm_X0_stays 0 0 [.ref (G.1 + a0), .int x1] h (po_p h Q) := by
  refine ab_intro (own := RX0) (nm := "stays") rfl rfl rfl (Nat.le_of_ble_eq_true rfl) (fun F C => ?_)
  show ab_W l G F 2 (ab_MQ G F (po_p h Q) 0 0) 0 0 h [(0, .ref (G.1 + a0)), (1, .int x1)] [] 0
  unfold wp_X0_stays at f
  refine ab_aload_n C 0 dX0_stays_0 rfl rfl ?_
  refine ab_getI C fl_X0_18 rfl hk0 (wf_lt hw hk0 rfl) dX0_stays_1 ?_
  refine ab_iconst C (v := (5 : Int32)) dX0_stays_4 (by decide) ?_
  refine ab_icmp_ne C (tgt := 23) dX0_stays_5 (by decide) (fun c_1 => ?_) (fun c_1 => ?_)
  · have f := f.2 c_1
    refine ab_iconst C (v := (0 : Int32)) dX0_stays_23 (by decide) ?_
    exact ab_zret C dX0_stays_24 rfl ⟨rfl, _, rfl, f⟩
  · have f := f.1 c_1
    refine ab_iload_n C 1 dX0_stays_8 rfl rfl ?_
    refine ab_aload_n C 0 dX0_stays_9 rfl rfl ?_
    refine ab_getI C fl_X0_22 rfl hk0 (wf_lt hw hk0 rfl) dX0_stays_10 ?_
    refine ab_iconst C (v := (2 : Int32)) dX0_stays_13 (by decide) ?_
    refine ab_iadd C dX0_stays_14 ?_
    obtain ⟨c_2, f⟩ := f
    refine ab_irem C dX0_stays_15 c_2 ?_
    refine ab_if_ne C (tgt := 23) dX0_stays_16 (by decide) (fun c_3 => ?_) (fun c_3 => ?_)
    · have f := f.2 c_3
      refine ab_iconst C (v := (0 : Int32)) dX0_stays_23 (by decide) ?_
      exact ab_zret C dX0_stays_24 rfl ⟨rfl, _, rfl, f⟩
    · have f := f.1 c_3
      refine ab_iconst C (v := (1 : Int32)) dX0_stays_19 (by decide) ?_
      refine ab_goto C (tgt := 24) dX0_stays_20 (by decide) ?_
      exact ab_zret C dX0_stays_24 rfl ⟨rfl, _, rfl, f⟩
/-! X0_tellsOf -/
def rm_X0_tellsOf : Room := { frames := 2, cells := 0, slots := 0, locals := 100 }
def wp_X0_tellsOf (a0 : Nat) (x1 : Int32) (h : hp_T) (Q : Int32 → Prop) : Prop :=
  (vp_in x1 6) ∧ (((hp_i h a0 0) = (3 : Int32) → (Q (if (0 : Int32) < (if ((hp_i h (a0 + 1) x1.toNatClampNeg) + (hp_i h a0 1)) < (999 : Int32) then ((hp_i h (a0 + 1) x1.toNatClampNeg) + (hp_i h a0 1)) else (999 : Int32)) then (if ((hp_i h (a0 + 1) x1.toNatClampNeg) + (hp_i h a0 1)) < (999 : Int32) then ((hp_i h (a0 + 1) x1.toNatClampNeg) + (hp_i h a0 1)) else (999 : Int32)) else (0 : Int32)))) ∧ (¬ ((hp_i h a0 0) = (3 : Int32)) → (((hp_i h a0 0) = (4 : Int32) → (Q (if (0 : Int32) < (if ((hp_i h (a0 + 1) x1.toNatClampNeg) + (x1 - x1 / (2 : Int32) * (2 : Int32))) < (999 : Int32) then ((hp_i h (a0 + 1) x1.toNatClampNeg) + (x1 - x1 / (2 : Int32) * (2 : Int32))) else (999 : Int32)) then (if ((hp_i h (a0 + 1) x1.toNatClampNeg) + (x1 - x1 / (2 : Int32) * (2 : Int32))) < (999 : Int32) then ((hp_i h (a0 + 1) x1.toNatClampNeg) + (x1 - x1 / (2 : Int32) * (2 : Int32))) else (999 : Int32)) else (0 : Int32)))) ∧ (¬ ((hp_i h a0 0) = (4 : Int32)) → (Q (if (0 : Int32) < (if (hp_i h (a0 + 1) x1.toNatClampNeg) < (999 : Int32) then (hp_i h (a0 + 1) x1.toNatClampNeg) else (999 : Int32)) then (if (hp_i h (a0 + 1) x1.toNatClampNeg) < (999 : Int32) then (hp_i h (a0 + 1) x1.toNatClampNeg) else (999 : Int32)) else (0 : Int32)))))))
set_option maxRecDepth 100000 in
set_option maxHeartbeats 4000000 in
theorem mt_X0_tellsOf {l : Launch} {G : ab_G} {a0 : Nat} {x1 : Int32} {h : hp_T} {Q : Int32 → Prop} (hk0 : ab_k a0 = 0) (hw : wf h) (f : wp_X0_tellsOf a0 x1 h Q) : ab_M l G yX0_tellsOf cX0_tellsOf 3 (some .int) rm_X0_tellsOf 0 0 [.ref (G.1 + a0), .int x1] h (po_p h Q) := by
  refine ab_intro (own := RX0) (nm := "tellsOf") rfl rfl rfl (Nat.le_of_ble_eq_true rfl) (fun F C => ?_)
  show ab_W l G F 3 (ab_MQ G F (po_p h Q) 0 0) 0 0 h [(0, .ref (G.1 + a0)), (1, .int x1)] [] 0
  unfold wp_X0_tellsOf at f
  refine ab_aload_n C 0 dX0_tellsOf_0 rfl rfl ?_
  refine ab_getR C (q := (a0 + 1)) fl_X0_9 rfl hk0 (wf_lt hw hk0 rfl) (wr_0_5 hw hk0) dX0_tellsOf_1 ?_
  refine ab_iload_n C 1 dX0_tellsOf_4 rfl rfl ?_
  obtain ⟨c_1, f⟩ := f
  refine ab_iald C (by rw [(kn_0_5 hk0)]; decide) (wf_lt hw (kn_0_5 hk0) rfl) (wf_len hw (kn_0_5 hk0) rfl rfl (by decide)) c_1 (j := x1.toNatClampNeg) rfl dX0_tellsOf_5 ?_
  refine ab_istore_n C (lv' := [(2, .int (hp_i h (a0 + 1) x1.toNatClampNeg)), (0, .ref (G.1 + a0)), (1, .int x1)]) dX0_tellsOf_6 rfl (by decide) rfl ?_
  refine ab_aload_n C 1 dX0_tellsOf_7 rfl rfl ?_
  refine ab_getI C fl_X0_18 rfl hk0 (wf_lt hw hk0 rfl) dX0_tellsOf_8 ?_
  refine ab_iconst C (v := (3 : Int32)) dX0_tellsOf_11 (by decide) ?_
  refine ab_icmp_ne C (tgt := 25) dX0_tellsOf_12 (by decide) (fun c_2 => ?_) (fun c_2 => ?_)
  · have f := f.2 c_2
    refine ab_aload_n C 1 dX0_tellsOf_25 rfl rfl ?_
    refine ab_getI C fl_X0_18 rfl hk0 (wf_lt hw hk0 rfl) dX0_tellsOf_26 ?_
    refine ab_iconst C (v := (4 : Int32)) dX0_tellsOf_29 (by decide) ?_
    refine ab_icmp_ne C (tgt := 39) dX0_tellsOf_30 (by decide) (fun c_3 => ?_) (fun c_3 => ?_)
    · have f := f.2 c_3
      refine ab_iconst C (v := (0 : Int32)) dX0_tellsOf_39 (by decide) ?_
      refine ab_sipush C (v := (999 : Int32)) dX0_tellsOf_40 (by decide) ?_
      refine ab_iload_n C 0 dX0_tellsOf_43 rfl rfl ?_
      refine ab_mmin C cm_X0_55 (by decide) (by decide) (by decide) (by decide) (Nat.le_of_ble_eq_true rfl) dX0_tellsOf_44 ?_
      refine ab_mmax C cm_X0_61 (by decide) (by decide) (by decide) (by decide) (Nat.le_of_ble_eq_true rfl) dX0_tellsOf_47 ?_
      exact ab_iret C dX0_tellsOf_50 ⟨rfl, _, rfl, f⟩
    · have f := f.1 c_3
      refine ab_iload_n C 0 dX0_tellsOf_33 rfl rfl ?_
      refine ab_iload_n C 2 dX0_tellsOf_34 rfl rfl ?_
      refine ab_iconst C (v := (2 : Int32)) dX0_tellsOf_35 (by decide) ?_
      refine ab_irem C dX0_tellsOf_36 (by decide) ?_
      refine ab_iadd C dX0_tellsOf_37 ?_
      refine ab_istore_n C (lv' := [(2, .int ((hp_i h (a0 + 1) x1.toNatClampNeg) + (x1 - x1 / (2 : Int32) * (2 : Int32)))), (0, .ref (G.1 + a0)), (1, .int x1)]) dX0_tellsOf_38 rfl (by decide) rfl ?_
      refine ab_iconst C (v := (0 : Int32)) dX0_tellsOf_39 (by decide) ?_
      refine ab_sipush C (v := (999 : Int32)) dX0_tellsOf_40 (by decide) ?_
      refine ab_iload_n C 0 dX0_tellsOf_43 rfl rfl ?_
      refine ab_mmin C cm_X0_55 (by decide) (by decide) (by decide) (by decide) (Nat.le_of_ble_eq_true rfl) dX0_tellsOf_44 ?_
      refine ab_mmax C cm_X0_61 (by decide) (by decide) (by decide) (by decide) (Nat.le_of_ble_eq_true rfl) dX0_tellsOf_47 ?_
      exact ab_iret C dX0_tellsOf_50 ⟨rfl, _, rfl, f⟩
  · have f := f.1 c_2
    refine ab_iload_n C 0 dX0_tellsOf_15 rfl rfl ?_
    refine ab_aload_n C 1 dX0_tellsOf_16 rfl rfl ?_
    refine ab_getI C fl_X0_22 rfl hk0 (wf_lt hw hk0 rfl) dX0_tellsOf_17 ?_
    refine ab_iadd C dX0_tellsOf_20 ?_
    refine ab_istore_n C (lv' := [(2, .int ((hp_i h (a0 + 1) x1.toNatClampNeg) + (hp_i h a0 1))), (0, .ref (G.1 + a0)), (1, .int x1)]) dX0_tellsOf_21 rfl (by decide) rfl ?_
    refine ab_goto C (tgt := 39) dX0_tellsOf_22 (by decide) ?_
    refine ab_iconst C (v := (0 : Int32)) dX0_tellsOf_39 (by decide) ?_
    refine ab_sipush C (v := (999 : Int32)) dX0_tellsOf_40 (by decide) ?_
    refine ab_iload_n C 0 dX0_tellsOf_43 rfl rfl ?_
    refine ab_mmin C cm_X0_55 (by decide) (by decide) (by decide) (by decide) (Nat.le_of_ble_eq_true rfl) dX0_tellsOf_44 ?_
    refine ab_mmax C cm_X0_61 (by decide) (by decide) (by decide) (by decide) (Nat.le_of_ble_eq_true rfl) dX0_tellsOf_47 ?_
    exact ab_iret C dX0_tellsOf_50 ⟨rfl, _, rfl, f⟩
/-! X1_holds -/
def rm_X1_holds : Room := { frames := 2, cells := 0, slots := 0, locals := 100 }
def wp_X1_holds (a0 : Nat) (x1 : Int32) (x2 : Int32) (h : hp_T) (Q : Int32 → Prop) : Prop :=
  ((x1 < 0 → (Q (0 : Int32))) ∧ (¬ (x1 < 0) → ((x2 < 0 → (Q (0 : Int32))) ∧ (¬ (x2 < 0) → (((hp_i h a0 1) < x2 → (Q (0 : Int32))) ∧ (¬ ((hp_i h a0 1) < x2) → ((((hp_i h a0 1) - x2) < x1 → (Q (0 : Int32))) ∧ (¬ (((hp_i h a0 1) - x2) < x1) → (Q (1 : Int32))))))))))
set_option maxRecDepth 100000 in
set_option maxHeartbeats 4000000 in
theorem mt_X1_holds {l : Launch} {G : ab_G} {a0 : Nat} {x1 : Int32} {x2 : Int32} {h : hp_T} {Q : Int32 → Prop} (hk0 : ab_k a0 = 1) (hw : wf h) (f : wp_X1_holds a0 x1 x2 h Q) : ab_M l G yX1_holds cX1_holds 3 (some .boolean) rm_X1_holds 0 0 [.ref (G.1 + a0), .int x1, .int x2] h (po_p h Q) := by
  refine ab_intro (own := RX1) (nm := "holds") rfl rfl rfl (Nat.le_of_ble_eq_true rfl) (fun F C => ?_)
  show ab_W l G F 3 (ab_MQ G F (po_p h Q) 0 0) 0 0 h [(0, .ref (G.1 + a0)), (1, .int x1), (2, .int x2)] [] 0
  unfold wp_X1_holds at f
  refine ab_iload_n C 1 dX1_holds_0 rfl rfl ?_
  refine ab_if_lt C (tgt := 30) dX1_holds_1 (by decide) (fun c_1 => ?_) (fun c_1 => ?_)
  · have f := f.1 c_1
    refine ab_iconst C (v := (0 : Int32)) dX1_holds_30 (by decide) ?_
    exact ab_zret C dX1_holds_31 rfl ⟨rfl, _, rfl, f⟩
  · have f := f.2 c_1
    refine ab_iload_n C 2 dX1_holds_4 rfl rfl ?_
    refine ab_if_lt C (tgt := 30) dX1_holds_5 (by decide) (fun c_2 => ?_) (fun c_2 => ?_)
    · have f := f.1 c_2
      refine ab_iconst C (v := (0 : Int32)) dX1_holds_30 (by decide) ?_
      exact ab_zret C dX1_holds_31 rfl ⟨rfl, _, rfl, f⟩
    · have f := f.2 c_2
      refine ab_iload_n C 2 dX1_holds_8 rfl rfl ?_
      refine ab_aload_n C 0 dX1_holds_9 rfl rfl ?_
      refine ab_getI C fl_X1_19 rfl hk0 (wf_lt hw hk0 rfl) dX1_holds_10 ?_
      refine ab_icmp_gt C (tgt := 30) dX1_holds_13 (by decide) (fun c_3 => ?_) (fun c_3 => ?_)
      · have f := f.1 c_3
        refine ab_iconst C (v := (0 : Int32)) dX1_holds_30 (by decide) ?_
        exact ab_zret C dX1_holds_31 rfl ⟨rfl, _, rfl, f⟩
      · have f := f.2 c_3
        refine ab_iload_n C 1 dX1_holds_16 rfl rfl ?_
        refine ab_aload_n C 0 dX1_holds_17 rfl rfl ?_
        refine ab_getI C fl_X1_19 rfl hk0 (wf_lt hw hk0 rfl) dX1_holds_18 ?_
        refine ab_iload_n C 2 dX1_holds_21 rfl rfl ?_
        refine ab_isub C dX1_holds_22 ?_
        refine ab_icmp_gt C (tgt := 30) dX1_holds_23 (by decide) (fun c_4 => ?_) (fun c_4 => ?_)
        · have f := f.1 c_4
          refine ab_iconst C (v := (0 : Int32)) dX1_holds_30 (by decide) ?_
          exact ab_zret C dX1_holds_31 rfl ⟨rfl, _, rfl, f⟩
        · have f := f.2 c_4
          refine ab_iconst C (v := (1 : Int32)) dX1_holds_26 (by decide) ?_
          refine ab_goto C (tgt := 31) dX1_holds_27 (by decide) ?_
          exact ab_zret C dX1_holds_31 rfl ⟨rfl, _, rfl, f⟩
/-! X1_init -/
def rm_X1_init : Room := { frames := 2, cells := 1, slots := 24, locals := 100 }
def wp_X1_init (a0 : Nat) (h : hp_T) (Q : hp_T → Prop) : Prop :=
  (16 ≤ ab_k (hp_n h)) ∧ (∀ h_1, h_1 = hp_na h 24 → (a0 < hp_n h_1) ∧ (∀ h_5, h_5 = hp_sr h_1 a0 2 (some (hp_n h)) → (Q h_5)))
set_option maxRecDepth 100000 in
set_option maxHeartbeats 4000000 in
theorem mt_X1_init {l : Launch} {G : ab_G} {a0 : Nat} {h : hp_T} {Q : hp_T → Prop} (hk0 : ab_k a0 = 1) (f : wp_X1_init a0 h Q) : ab_M l G yX1_init cX1_init 1 none rm_X1_init 1 24 [.ref (G.1 + a0)] h (po_r Q) := by
  refine ab_intro (own := RX1) (nm := "<init>") rfl rfl rfl (Nat.le_of_ble_eq_true rfl) (fun F C => ?_)
  show ab_W l G F 1 (ab_MQ G F (po_r Q) 1 24) 0 0 h [(0, .ref (G.1 + a0))] [] 0
  unfold wp_X1_init at f
  refine ab_aload_n C 0 dX1_init_0 rfl rfl ?_
  refine ab_oinit C (b := a0) co_X1 (by decide) (by decide) (Nat.le_of_ble_eq_true rfl) dX1_init_1 ?_
  refine ab_aload_n C 0 dX1_init_4 rfl rfl ?_
  refine ab_bipush C (v := (24 : Int32)) dX1_init_5 (by decide) ?_
  obtain ⟨c_3, f⟩ := f
  refine ab_newI C (k := 0) (n := 0) (N := 24) kw_t73 c_3 (by decide) (by decide) (by decide) (Nat.le_of_ble_eq_true rfl) (Nat.le_of_ble_eq_true rfl) dX1_init_7 (fun h_1 e_2 => ?_)
  have f := f h_1 e_2
  obtain ⟨c_4, f⟩ := f
  refine ab_putR C (q := (hp_n h)) fl_X1_9 rfl (fun _ => rfl) hk0 c_4 (fun _ => rfl) (fun _ => rfl) dX1_init_9 (fun h_5 e_6 => ?_)
  have f := f h_5 e_6
  exact ab_vret C dX1_init_12 ⟨rfl, f⟩
/-! X1_isMissing -/
def rm_X1_isMissing : Room := { frames := 2, cells := 0, slots := 0, locals := 100 }
def wp_X1_isMissing (a0 : Nat) (h : hp_T) (Q : Int32 → Prop) : Prop :=
  (((hp_i h a0 0) = 0 → (Q (1 : Int32))) ∧ (¬ ((hp_i h a0 0) = 0) → (Q (0 : Int32))))
set_option maxRecDepth 100000 in
set_option maxHeartbeats 4000000 in
theorem mt_X1_isMissing {l : Launch} {G : ab_G} {a0 : Nat} {h : hp_T} {Q : Int32 → Prop} (hk0 : ab_k a0 = 1) (hw : wf h) (f : wp_X1_isMissing a0 h Q) : ab_M l G yX1_isMissing cX1_isMissing 1 (some .boolean) rm_X1_isMissing 0 0 [.ref (G.1 + a0)] h (po_p h Q) := by
  refine ab_intro (own := RX1) (nm := "isMissing") rfl rfl rfl (Nat.le_of_ble_eq_true rfl) (fun F C => ?_)
  show ab_W l G F 1 (ab_MQ G F (po_p h Q) 0 0) 0 0 h [(0, .ref (G.1 + a0))] [] 0
  unfold wp_X1_isMissing at f
  refine ab_aload_n C 0 dX1_isMissing_0 rfl rfl ?_
  refine ab_getI C fl_X1_15 rfl hk0 (wf_lt hw hk0 rfl) dX1_isMissing_1 ?_
  refine ab_if_ne C (tgt := 11) dX1_isMissing_4 (by decide) (fun c_1 => ?_) (fun c_1 => ?_)
  · have f := f.2 c_1
    refine ab_iconst C (v := (0 : Int32)) dX1_isMissing_11 (by decide) ?_
    exact ab_zret C dX1_isMissing_12 rfl ⟨rfl, _, rfl, f⟩
  · have f := f.1 c_1
    refine ab_iconst C (v := (1 : Int32)) dX1_isMissing_7 (by decide) ?_
    refine ab_goto C (tgt := 12) dX1_isMissing_8 (by decide) ?_
    exact ab_zret C dX1_isMissing_12 rfl ⟨rfl, _, rfl, f⟩
/-! X1_lay -/
def rm_X1_lay : Room := { frames := 2, cells := 0, slots := 0, locals := 100 }
def wp_X1_lay_L12 (a0 : Nat) (x1 : Int32) (x2 : Int32) (Q : hp_T → Prop) : Nat → Int32 → hp_T → Prop
  | 0 => fun _ _ => False
  | nn + 1 => fun y3 h => (((24 : Int32) ≤ y3 → (Q h)) ∧ (¬ ((24 : Int32) ≤ y3) → (vp_in y3 24) ∧ (∀ h_9, h_9 = hp_si h (a0 + 1) y3.toNatClampNeg (0 : Int32) → (wp_X1_lay_L12 a0 x1 x2 Q nn) (y3 + (1 : Int32)) h_9)))
set_option maxRecDepth 100000 in
set_option maxHeartbeats 4000000 in
theorem bt_X1_lay_L12 {l : Launch} {G : ab_G} {F : ab_F} {a0 : Nat} {x1 : Int32} {x2 : Int32} {Q : hp_T → Prop}  (C : ab_C G F rm_X1_lay cX1_lay 4 RX1 none "lay") (hk0 : ab_k a0 = 1)  : ∀ (nn : Nat) (y3 : Int32) (h : hp_T), wf h → wp_X1_lay_L12 a0 x1 x2 Q nn y3 h → ab_W l G F 4 (ab_MQ G F (po_v Q) 0 0) 0 0 h [(0, .ref (G.1 + a0)), (3, .int y3)] [] 12 := by
  intro nn
  induction nn with
  | zero =>
    intro y3 h hw f
    exact absurd f id
  | succ nn ih =>
    intro y3 h hw f
    unfold wp_X1_lay_L12 at f
    refine ab_iload_n C 1 dX1_lay_12 rfl rfl ?_
    refine ab_bipush C (v := (24 : Int32)) dX1_lay_13 (by decide) ?_
    refine ab_icmp_ge C (tgt := 31) dX1_lay_15 (by decide) (fun c_7 => ?_) (fun c_7 => ?_)
    · have f := f.1 c_7
      exact ab_vret C dX1_lay_31 ⟨hw, rfl, f⟩
    · have f := f.2 c_7
      refine ab_aload_n C 0 dX1_lay_18 rfl rfl ?_
      refine ab_getR C (q := (a0 + 1)) fl_X1_9 rfl hk0 (wf_lt hw hk0 rfl) (wr_1_2 hw hk0) dX1_lay_19 ?_
      refine ab_iload_n C 1 dX1_lay_22 rfl rfl ?_
      refine ab_iconst C (v := (0 : Int32)) dX1_lay_23 (by decide) ?_
      obtain ⟨c_8, f⟩ := f
      refine ab_iast C (by rw [(kn_1_2 hk0)]; decide) (wf_lt hw (kn_1_2 hk0) rfl) (wf_len hw (kn_1_2 hk0) rfl rfl (by decide)) c_8 (j := y3.toNatClampNeg) rfl dX1_lay_24 (fun h_9 e_10 => ?_)
      have f := f h_9 e_10
      have hw_11 := wf_si e_10 hw
      refine ab_iinc C (lv' := [(3, .int (y3 + (1 : Int32))), (0, .ref (G.1 + a0))]) 1 (v := (y3 + (1 : Int32))) dX1_lay_25 rfl rfl (by decide) rfl ?_
      refine ab_goto C (tgt := 12) dX1_lay_28 (by decide) ?_
      refine ab_sub (lv' := [(0, .ref (G.1 + a0)), (3, .int (y3 + (1 : Int32)))]) [1, 0] rfl ?_
      exact ih (y3 + (1 : Int32)) h_9  hw_11 f
def wp_X1_lay (a0 : Nat) (x1 : Int32) (x2 : Int32) (h : hp_T) (Q : hp_T → Prop) : Prop :=
  (∀ h_1, h_1 = hp_si h a0 0 x1 → (∀ h_4, h_4 = hp_si h_1 a0 1 x2 → (∃ n0, wp_X1_lay_L12 a0 x1 x2 Q  n0 (0 : Int32) h_4)))
set_option maxRecDepth 100000 in
set_option maxHeartbeats 4000000 in
theorem mt_X1_lay {l : Launch} {G : ab_G} {a0 : Nat} {x1 : Int32} {x2 : Int32} {h : hp_T} {Q : hp_T → Prop} (hk0 : ab_k a0 = 1) (hw : wf h) (f : wp_X1_lay a0 x1 x2 h Q) : ab_M l G yX1_lay cX1_lay 4 none rm_X1_lay 0 0 [.ref (G.1 + a0), .int x1, .int x2] h (po_v Q) := by
  refine ab_intro (own := RX1) (nm := "lay") rfl rfl rfl (Nat.le_of_ble_eq_true rfl) (fun F C => ?_)
  show ab_W l G F 4 (ab_MQ G F (po_v Q) 0 0) 0 0 h [(0, .ref (G.1 + a0)), (1, .int x1), (2, .int x2)] [] 0
  unfold wp_X1_lay at f
  refine ab_aload_n C 0 dX1_lay_0 rfl rfl ?_
  refine ab_iload_n C 1 dX1_lay_1 rfl rfl ?_
  refine ab_putI C fl_X1_15 rfl hk0 (wf_lt hw hk0 rfl) rfl rfl dX1_lay_2 (fun h_1 e_2 => ?_)
  have f := f h_1 e_2
  have hw_3 := wf_si e_2 hw
  refine ab_aload_n C 0 dX1_lay_5 rfl rfl ?_
  refine ab_iload_n C 2 dX1_lay_6 rfl rfl ?_
  refine ab_putI C fl_X1_19 rfl hk0 (wf_lt hw_3 hk0 rfl) rfl rfl dX1_lay_7 (fun h_4 e_5 => ?_)
  have f := f h_4 e_5
  have hw_6 := wf_si e_5 hw_3
  refine ab_iconst C (v := (0 : Int32)) dX1_lay_10 (by decide) ?_
  refine ab_istore_n C (lv' := [(3, .int (0 : Int32)), (0, .ref (G.1 + a0)), (1, .int x1), (2, .int x2)]) dX1_lay_11 rfl (by decide) rfl ?_
  obtain ⟨n0, f⟩ := f
  refine ab_sub (lv' := [(0, .ref (G.1 + a0)), (3, .int (0 : Int32))]) [1, 0] rfl ?_
  exact bt_X1_lay_L12 C hk0   n0 (0 : Int32) h_4  hw_6 f
/-! X1_write -/
def rm_X1_write : Room := { frames := 2, cells := 0, slots := 0, locals := 100 }
def wp_X1_write (a0 : Nat) (x1 : Int32) (x2 : Int32) (h : hp_T) (Q : hp_T → Prop) : Prop :=
  (((hp_i h a0 0) = (8 : Int32) → (vp_in x1 24) ∧ (∀ h_12, h_12 = hp_si h (a0 + 1) x1.toNatClampNeg x2.toInt8.toInt32 → (Q h_12))) ∧ (¬ ((hp_i h a0 0) = (8 : Int32)) → (((hp_i h a0 0) = (16 : Int32) → (vp_in x1 24) ∧ (∀ h_8, h_8 = hp_si h (a0 + 1) x1.toNatClampNeg x2.toInt16.toInt32 → (Q h_8))) ∧ (¬ ((hp_i h a0 0) = (16 : Int32)) → (vp_in x1 24) ∧ (∀ h_4, h_4 = hp_si h (a0 + 1) x1.toNatClampNeg x2 → (Q h_4))))))
set_option maxRecDepth 100000 in
set_option maxHeartbeats 4000000 in
theorem mt_X1_write {l : Launch} {G : ab_G} {a0 : Nat} {x1 : Int32} {x2 : Int32} {h : hp_T} {Q : hp_T → Prop} (hk0 : ab_k a0 = 1) (hw : wf h) (f : wp_X1_write a0 x1 x2 h Q) : ab_M l G yX1_write cX1_write 3 none rm_X1_write 0 0 [.ref (G.1 + a0), .int x1, .int x2] h (po_v Q) := by
  refine ab_intro (own := RX1) (nm := "write") rfl rfl rfl (Nat.le_of_ble_eq_true rfl) (fun F C => ?_)
  show ab_W l G F 3 (ab_MQ G F (po_v Q) 0 0) 0 0 h [(0, .ref (G.1 + a0)), (1, .int x1), (2, .int x2)] [] 0
  unfold wp_X1_write at f
  refine ab_aload_n C 0 dX1_write_0 rfl rfl ?_
  refine ab_getI C fl_X1_15 rfl hk0 (wf_lt hw hk0 rfl) dX1_write_1 ?_
  refine ab_bipush C (v := (8 : Int32)) dX1_write_4 (by decide) ?_
  refine ab_icmp_ne C (tgt := 20) dX1_write_6 (by decide) (fun c_1 => ?_) (fun c_1 => ?_)
  · have f := f.2 c_1
    refine ab_aload_n C 0 dX1_write_20 rfl rfl ?_
    refine ab_getI C fl_X1_15 rfl hk0 (wf_lt hw hk0 rfl) dX1_write_21 ?_
    refine ab_bipush C (v := (16 : Int32)) dX1_write_24 (by decide) ?_
    refine ab_icmp_ne C (tgt := 40) dX1_write_26 (by decide) (fun c_2 => ?_) (fun c_2 => ?_)
    · have f := f.2 c_2
      refine ab_aload_n C 0 dX1_write_40 rfl rfl ?_
      refine ab_getR C (q := (a0 + 1)) fl_X1_9 rfl hk0 (wf_lt hw hk0 rfl) (wr_1_2 hw hk0) dX1_write_41 ?_
      refine ab_iload_n C 1 dX1_write_44 rfl rfl ?_
      refine ab_iload_n C 2 dX1_write_45 rfl rfl ?_
      obtain ⟨c_3, f⟩ := f
      refine ab_iast C (by rw [(kn_1_2 hk0)]; decide) (wf_lt hw (kn_1_2 hk0) rfl) (wf_len hw (kn_1_2 hk0) rfl rfl (by decide)) c_3 (j := x1.toNatClampNeg) rfl dX1_write_46 (fun h_4 e_5 => ?_)
      have f := f h_4 e_5
      have hw_6 := wf_si e_5 hw
      exact ab_vret C dX1_write_47 ⟨hw_6, rfl, f⟩
    · have f := f.1 c_2
      refine ab_aload_n C 0 dX1_write_29 rfl rfl ?_
      refine ab_getR C (q := (a0 + 1)) fl_X1_9 rfl hk0 (wf_lt hw hk0 rfl) (wr_1_2 hw hk0) dX1_write_30 ?_
      refine ab_iload_n C 1 dX1_write_33 rfl rfl ?_
      refine ab_iload_n C 2 dX1_write_34 rfl rfl ?_
      refine ab_i2s C dX1_write_35 ?_
      obtain ⟨c_7, f⟩ := f
      refine ab_iast C (by rw [(kn_1_2 hk0)]; decide) (wf_lt hw (kn_1_2 hk0) rfl) (wf_len hw (kn_1_2 hk0) rfl rfl (by decide)) c_7 (j := x1.toNatClampNeg) rfl dX1_write_36 (fun h_8 e_9 => ?_)
      have f := f h_8 e_9
      have hw_10 := wf_si e_9 hw
      refine ab_goto C (tgt := 47) dX1_write_37 (by decide) ?_
      exact ab_vret C dX1_write_47 ⟨hw_10, rfl, f⟩
  · have f := f.1 c_1
    refine ab_aload_n C 0 dX1_write_9 rfl rfl ?_
    refine ab_getR C (q := (a0 + 1)) fl_X1_9 rfl hk0 (wf_lt hw hk0 rfl) (wr_1_2 hw hk0) dX1_write_10 ?_
    refine ab_iload_n C 1 dX1_write_13 rfl rfl ?_
    refine ab_iload_n C 2 dX1_write_14 rfl rfl ?_
    refine ab_i2b C dX1_write_15 ?_
    obtain ⟨c_11, f⟩ := f
    refine ab_iast C (by rw [(kn_1_2 hk0)]; decide) (wf_lt hw (kn_1_2 hk0) rfl) (wf_len hw (kn_1_2 hk0) rfl rfl (by decide)) c_11 (j := x1.toNatClampNeg) rfl dX1_write_16 (fun h_12 e_13 => ?_)
    have f := f h_12 e_13
    have hw_14 := wf_si e_13 hw
    refine ab_goto C (tgt := 47) dX1_write_17 (by decide) ?_
    exact ab_vret C dX1_write_47 ⟨hw_14, rfl, f⟩
/-! X3_copyFrom -/
def rm_X3_copyFrom : Room := { frames := 2, cells := 0, slots := 0, locals := 100 }
def wp_X3_copyFrom (a0 : Nat) (a1 : Nat) (h : hp_T) (Q : hp_T → Prop) : Prop :=
  (∀ h_1, h_1 = hp_si h a0 0 (hp_i h a1 0) → (∀ h_4, h_4 = hp_si h_1 a0 1 (hp_i h_1 a1 1) → (∀ h_7, h_7 = hp_si h_4 a0 2 (hp_i h_4 a1 2) → (∀ h_10, h_10 = hp_si h_7 a0 3 (hp_i h_7 a1 3) → (Q h_10)))))
set_option maxRecDepth 100000 in
set_option maxHeartbeats 4000000 in
theorem mt_X3_copyFrom {l : Launch} {G : ab_G} {a0 : Nat} {a1 : Nat} {h : hp_T} {Q : hp_T → Prop} (hk0 : ab_k a0 = 3) (hk1 : ab_k a1 = 3) (hw : wf h) (f : wp_X3_copyFrom a0 a1 h Q) : ab_M l G yX3_copyFrom cX3_copyFrom 2 none rm_X3_copyFrom 0 0 [.ref (G.1 + a0), .ref (G.1 + a1)] h (po_v Q) := by
  refine ab_intro (own := RX3) (nm := "copyFrom") rfl rfl rfl (Nat.le_of_ble_eq_true rfl) (fun F C => ?_)
  show ab_W l G F 2 (ab_MQ G F (po_v Q) 0 0) 0 0 h [(0, .ref (G.1 + a0)), (1, .ref (G.1 + a1))] [] 0
  unfold wp_X3_copyFrom at f
  refine ab_aload_n C 0 dX3_copyFrom_0 rfl rfl ?_
  refine ab_aload_n C 1 dX3_copyFrom_1 rfl rfl ?_
  refine ab_getI C fl_X3_9 rfl hk1 (wf_lt hw hk1 rfl) dX3_copyFrom_2 ?_
  refine ab_putI C fl_X3_9 rfl hk0 (wf_lt hw hk0 rfl) rfl rfl dX3_copyFrom_5 (fun h_1 e_2 => ?_)
  have f := f h_1 e_2
  have hw_3 := wf_si e_2 hw
  refine ab_aload_n C 0 dX3_copyFrom_8 rfl rfl ?_
  refine ab_aload_n C 1 dX3_copyFrom_9 rfl rfl ?_
  refine ab_getI C fl_X3_15 rfl hk1 (wf_lt hw_3 hk1 rfl) dX3_copyFrom_10 ?_
  refine ab_putI C fl_X3_15 rfl hk0 (wf_lt hw_3 hk0 rfl) rfl rfl dX3_copyFrom_13 (fun h_4 e_5 => ?_)
  have f := f h_4 e_5
  have hw_6 := wf_si e_5 hw_3
  refine ab_aload_n C 0 dX3_copyFrom_16 rfl rfl ?_
  refine ab_aload_n C 1 dX3_copyFrom_17 rfl rfl ?_
  refine ab_getI C fl_X3_18 rfl hk1 (wf_lt hw_6 hk1 rfl) dX3_copyFrom_18 ?_
  refine ab_putI C fl_X3_18 rfl hk0 (wf_lt hw_6 hk0 rfl) rfl rfl dX3_copyFrom_21 (fun h_7 e_8 => ?_)
  have f := f h_7 e_8
  have hw_9 := wf_si e_8 hw_6
  refine ab_aload_n C 0 dX3_copyFrom_24 rfl rfl ?_
  refine ab_aload_n C 1 dX3_copyFrom_25 rfl rfl ?_
  refine ab_getI C fl_X3_21 rfl hk1 (wf_lt hw_9 hk1 rfl) dX3_copyFrom_26 ?_
  refine ab_putI C fl_X3_21 rfl hk0 (wf_lt hw_9 hk0 rfl) rfl rfl dX3_copyFrom_29 (fun h_10 e_11 => ?_)
  have f := f h_10 e_11
  have hw_12 := wf_si e_11 hw_9
  exact ab_vret C dX3_copyFrom_32 ⟨hw_12, rfl, f⟩
/-! X3_init -/
def rm_X3_init : Room := { frames := 2, cells := 0, slots := 0, locals := 100 }
def wp_X3_init (a0 : Nat) (h : hp_T) (Q : hp_T → Prop) : Prop :=
  (Q h)
set_option maxRecDepth 100000 in
set_option maxHeartbeats 4000000 in
theorem mt_X3_init {l : Launch} {G : ab_G} {a0 : Nat} {h : hp_T} {Q : hp_T → Prop} (hk0 : ab_k a0 = 3) (f : wp_X3_init a0 h Q) : ab_M l G yX3_init cX3_init 1 none rm_X3_init 0 0 [.ref (G.1 + a0)] h (po_r Q) := by
  refine ab_intro (own := RX3) (nm := "<init>") rfl rfl rfl (Nat.le_of_ble_eq_true rfl) (fun F C => ?_)
  show ab_W l G F 1 (ab_MQ G F (po_r Q) 0 0) 0 0 h [(0, .ref (G.1 + a0))] [] 0
  unfold wp_X3_init at f
  refine ab_aload_n C 0 dX3_init_0 rfl rfl ?_
  refine ab_oinit C (b := a0) co_X3 (by decide) (by decide) (Nat.le_of_ble_eq_true rfl) dX3_init_1 ?_
  exact ab_vret C dX3_init_4 ⟨rfl, f⟩
/-! X3_tryWith -/
def rm_X3_tryWith : Room := { frames := 2, cells := 0, slots := 0, locals := 100 }
def wp_X3_tryWith (a0 : Nat) (x1 : Int32) (h : hp_T) (Q : hp_T → Prop) : Prop :=
  (((hp_i h a0 1) = 0 → (Q h)) ∧ (¬ ((hp_i h a0 1) = 0) → ((x1 < (hp_i h a0 1) → (∀ h_3, h_3 = hp_si h a0 3 (if ((hp_i h a0 3) + (1 : Int32)) < (999999 : Int32) then ((hp_i h a0 3) + (1 : Int32)) else (999999 : Int32)) → (Q h_3))) ∧ (¬ (x1 < (hp_i h a0 1)) → (∀ h_6, h_6 = hp_si h a0 2 (if ((hp_i h a0 2) + (1 : Int32)) < (999999 : Int32) then ((hp_i h a0 2) + (1 : Int32)) else (999999 : Int32)) → (Q h_6))))))
set_option maxRecDepth 100000 in
set_option maxHeartbeats 4000000 in
theorem mt_X3_tryWith {l : Launch} {G : ab_G} {a0 : Nat} {x1 : Int32} {h : hp_T} {Q : hp_T → Prop} (hk0 : ab_k a0 = 3) (hw : wf h) (f : wp_X3_tryWith a0 x1 h Q) : ab_M l G yX3_tryWith cX3_tryWith 2 none rm_X3_tryWith 0 0 [.ref (G.1 + a0), .int x1] h (po_v Q) := by
  refine ab_intro (own := RX3) (nm := "tryWith") rfl rfl rfl (Nat.le_of_ble_eq_true rfl) (fun F C => ?_)
  show ab_W l G F 2 (ab_MQ G F (po_v Q) 0 0) 0 0 h [(0, .ref (G.1 + a0)), (1, .int x1)] [] 0
  unfold wp_X3_tryWith at f
  refine ab_aload_n C 0 dX3_tryWith_0 rfl rfl ?_
  refine ab_getI C fl_X3_15 rfl hk0 (wf_lt hw hk0 rfl) dX3_tryWith_1 ?_
  refine ab_if_ne C (tgt := 8) dX3_tryWith_4 (by decide) (fun c_1 => ?_) (fun c_1 => ?_)
  · have f := f.2 c_1
    refine ab_iload_n C 1 dX3_tryWith_8 rfl rfl ?_
    refine ab_aload_n C 0 dX3_tryWith_9 rfl rfl ?_
    refine ab_getI C fl_X3_15 rfl hk0 (wf_lt hw hk0 rfl) dX3_tryWith_10 ?_
    refine ab_icmp_lt C (tgt := 34) dX3_tryWith_13 (by decide) (fun c_2 => ?_) (fun c_2 => ?_)
    · have f := f.1 c_2
      refine ab_aload_n C 0 dX3_tryWith_34 rfl rfl ?_
      refine ab_ldc C kw_t527 dX3_tryWith_35 ?_
      refine ab_aload_n C 0 dX3_tryWith_37 rfl rfl ?_
      refine ab_getI C fl_X3_21 rfl hk0 (wf_lt hw hk0 rfl) dX3_tryWith_38 ?_
      refine ab_iconst C (v := (1 : Int32)) dX3_tryWith_41 (by decide) ?_
      refine ab_iadd C dX3_tryWith_42 ?_
      refine ab_mmin C cm_X3_25 (by decide) (by decide) (by decide) (by decide) (Nat.le_of_ble_eq_true rfl) dX3_tryWith_43 ?_
      refine ab_putI C fl_X3_21 rfl hk0 (wf_lt hw hk0 rfl) rfl rfl dX3_tryWith_46 (fun h_3 e_4 => ?_)
      have f := f h_3 e_4
      have hw_5 := wf_si e_4 hw
      exact ab_vret C dX3_tryWith_49 ⟨hw_5, rfl, f⟩
    · have f := f.2 c_2
      refine ab_aload_n C 0 dX3_tryWith_16 rfl rfl ?_
      refine ab_ldc C kw_t527 dX3_tryWith_17 ?_
      refine ab_aload_n C 0 dX3_tryWith_19 rfl rfl ?_
      refine ab_getI C fl_X3_18 rfl hk0 (wf_lt hw hk0 rfl) dX3_tryWith_20 ?_
      refine ab_iconst C (v := (1 : Int32)) dX3_tryWith_23 (by decide) ?_
      refine ab_iadd C dX3_tryWith_24 ?_
      refine ab_mmin C cm_X3_25 (by decide) (by decide) (by decide) (by decide) (Nat.le_of_ble_eq_true rfl) dX3_tryWith_25 ?_
      refine ab_putI C fl_X3_18 rfl hk0 (wf_lt hw hk0 rfl) rfl rfl dX3_tryWith_28 (fun h_6 e_7 => ?_)
      have f := f h_6 e_7
      have hw_8 := wf_si e_7 hw
      refine ab_goto C (tgt := 49) dX3_tryWith_31 (by decide) ?_
      exact ab_vret C dX3_tryWith_49 ⟨hw_8, rfl, f⟩
  · have f := f.1 c_1
    exact ab_vret C dX3_tryWith_7 ⟨hw, rfl, f⟩
/-! X6_begin -/
def rm_X6_begin : Room := { frames := 2, cells := 0, slots := 0, locals := 100 }
def wp_X6_begin (x1 : Int32) (h : hp_T) (Q : hp_T → Prop) : Prop :=
  (((30 : Int32) ≤ (hp_i h 93 4) → (Q h)) ∧ (¬ ((30 : Int32) ≤ (hp_i h 93 4)) → (vp_in (hp_i h 93 4) 30) ∧ (∀ h_3, h_3 = hp_si h 94 ((hp_i h 93 4).toNatClampNeg) x1 → (∀ h_6, h_6 = hp_si h_3 93 4 ((hp_i h_3 93 4) + (1 : Int32)) → (Q h_6)))))
set_option maxRecDepth 100000 in
set_option maxHeartbeats 4000000 in
theorem mt_X6_begin {l : Launch} {G : ab_G} {x1 : Int32} {h : hp_T} {Q : hp_T → Prop} (hw : wf h) (f : wp_X6_begin x1 h Q) : ab_M l G yX6_begin cX6_begin 2 none rm_X6_begin 0 0 [.ref (G.1 + 93), .int x1] h (po_v Q) := by
  refine ab_intro (own := RX6) (nm := "begin") rfl rfl rfl (Nat.le_of_ble_eq_true rfl) (fun F C => ?_)
  show ab_W l G F 2 (ab_MQ G F (po_v Q) 0 0) 0 0 h [(0, .ref (G.1 + 93)), (1, .int x1)] [] 0
  unfold wp_X6_begin at f
  refine ab_aload_n C 0 dX6_begin_0 rfl rfl ?_
  refine ab_getI C fl_X6_25 rfl kd_93 (wf_lt hw kd_93 rfl) dX6_begin_1 ?_
  refine ab_bipush C (v := (30 : Int32)) dX6_begin_4 (by decide) ?_
  refine ab_icmp_ge C (tgt := 29) dX6_begin_6 (by decide) (fun c_1 => ?_) (fun c_1 => ?_)
  · have f := f.1 c_1
    exact ab_vret C dX6_begin_29 ⟨hw, rfl, f⟩
  · have f := f.2 c_1
    refine ab_aload_n C 0 dX6_begin_9 rfl rfl ?_
    refine ab_getR C (q := 94) fl_X6_9 rfl kd_93 (wf_lt hw kd_93 rfl) (wr_6_3 hw) dX6_begin_10 ?_
    refine ab_aload_n C 0 dX6_begin_13 rfl rfl ?_
    refine ab_getI C fl_X6_25 rfl kd_93 (wf_lt hw kd_93 rfl) dX6_begin_14 ?_
    refine ab_iload_n C 1 dX6_begin_17 rfl rfl ?_
    obtain ⟨c_2, f⟩ := f
    refine ab_iast C (by rw [kd_94]; decide) (wf_lt hw kd_94 rfl) (wf_len hw kd_94 rfl rfl (by decide)) c_2 (j := (hp_i h 93 4).toNatClampNeg) rfl dX6_begin_18 (fun h_3 e_4 => ?_)
    have f := f h_3 e_4
    have hw_5 := wf_si e_4 hw
    refine ab_aload_n C 0 dX6_begin_19 rfl rfl ?_
    refine ab_dup C dX6_begin_20 rfl ?_
    refine ab_getI C fl_X6_25 rfl kd_93 (wf_lt hw_5 kd_93 rfl) dX6_begin_21 ?_
    refine ab_iconst C (v := (1 : Int32)) dX6_begin_24 (by decide) ?_
    refine ab_iadd C dX6_begin_25 ?_
    refine ab_putI C fl_X6_25 rfl kd_93 (wf_lt hw_5 kd_93 rfl) rfl rfl dX6_begin_26 (fun h_6 e_7 => ?_)
    have f := f h_6 e_7
    have hw_8 := wf_si e_7 hw_5
    exact ab_vret C dX6_begin_29 ⟨hw_8, rfl, f⟩
/-! X6_part -/
def rm_X6_part : Room := { frames := 2, cells := 0, slots := 0, locals := 100 }
def wp_X6_part (x1 : Int32) (x2 : Int32) (h : hp_T) (Q : Int32 → hp_T → Prop) : Prop :=
  ((x2 = 0 → (∀ h_3, h_3 = hp_si h 93 5 (1 : Int32) → (Q (0 : Int32) h_3))) ∧ (¬ (x2 = 0) → (¬ x2 = 0) ∧ (Q (x1 / x2) h)))
set_option maxRecDepth 100000 in
set_option maxHeartbeats 4000000 in
theorem mt_X6_part {l : Launch} {G : ab_G} {x1 : Int32} {x2 : Int32} {h : hp_T} {Q : Int32 → hp_T → Prop} (hw : wf h) (f : wp_X6_part x1 x2 h Q) : ab_M l G yX6_part cX6_part 3 (some .int) rm_X6_part 0 0 [.ref (G.1 + 93), .int x1, .int x2] h (po_h Q) := by
  refine ab_intro (own := RX6) (nm := "part") rfl rfl rfl (Nat.le_of_ble_eq_true rfl) (fun F C => ?_)
  show ab_W l G F 3 (ab_MQ G F (po_h Q) 0 0) 0 0 h [(0, .ref (G.1 + 93)), (1, .int x1), (2, .int x2)] [] 0
  unfold wp_X6_part at f
  refine ab_iload_n C 2 dX6_part_0 rfl rfl ?_
  refine ab_if_ne C (tgt := 11) dX6_part_1 (by decide) (fun c_1 => ?_) (fun c_1 => ?_)
  · have f := f.2 c_1
    refine ab_iload_n C 1 dX6_part_11 rfl rfl ?_
    refine ab_iload_n C 2 dX6_part_12 rfl rfl ?_
    obtain ⟨c_2, f⟩ := f
    refine ab_idiv C dX6_part_13 c_2 ?_
    exact ab_iret C dX6_part_14 ⟨hw, _, rfl, f⟩
  · have f := f.1 c_1
    refine ab_aload_n C 0 dX6_part_4 rfl rfl ?_
    refine ab_iconst C (v := (1 : Int32)) dX6_part_5 (by decide) ?_
    refine ab_putI C fl_X6_28 rfl kd_93 (wf_lt hw kd_93 rfl) rfl rfl dX6_part_6 (fun h_3 e_4 => ?_)
    have f := f h_3 e_4
    have hw_5 := wf_si e_4 hw
    refine ab_iconst C (v := (0 : Int32)) dX6_part_9 (by decide) ?_
    exact ab_iret C dX6_part_10 ⟨hw_5, _, rfl, f⟩
abbrev rt_X6 : Type := (Int32 → Int32 → Int32 → Int32 → hp_T → (Int32 → hp_T → Prop) → Prop) × (Int32 → Int32 → Int32 → hp_T → (Int32 → hp_T → Prop) → Prop) × (Int32 → Int32 → Int32 → hp_T → (Int32 → hp_T → Prop) → Prop) × (Int32 → Int32 → Int32 → Int32 → hp_T → (Int32 → hp_T → Prop) → Prop)
def rr_X6 (d : Nat) : Room := { frames := d + 7, cells := 0, slots := 0, locals := 64 * d + 400 }
def ih_X6 (l : Launch) (G : ab_G) (rc : rt_X6) (d : Nat) : Prop := (∀ (x0 : Int32) (x1 : Int32) (x2 : Int32) (x3 : Int32) (h : hp_T) (Q : Int32 → hp_T → Prop), wf h → rc.1 x0 x1 x2 x3 h Q → ab_M l G yX6_speakFrom cX6_speakFrom 8 (some .int) (rr_X6 d) 0 0 [.ref (G.1 + 93), .int x0, .int x1, .int x2, .int x3] h (po_h Q)) ∧ (∀ (x0 : Int32) (x1 : Int32) (x2 : Int32) (h : hp_T) (Q : Int32 → hp_T → Prop), wf h → rc.2.1 x0 x1 x2 h Q → ab_M l G yX6_run cX6_run 4 (some .int) (rr_X6 d) 0 0 [.ref (G.1 + 93), .int x0, .int x1, .int x2] h (po_h Q)) ∧ (∀ (x0 : Int32) (x1 : Int32) (x2 : Int32) (h : hp_T) (Q : Int32 → hp_T → Prop), wf h → rc.2.2.1 x0 x1 x2 h Q → ab_M l G yX6_own cX6_own 4 (some .int) (rr_X6 d) 0 0 [.ref (G.1 + 93), .int x0, .int x1, .int x2] h (po_h Q)) ∧ (∀ (x0 : Int32) (x1 : Int32) (x2 : Int32) (x3 : Int32) (h : hp_T) (Q : Int32 → hp_T → Prop), wf h → rc.2.2.2 x0 x1 x2 x3 h Q → ab_M l G yX6_above cX6_above 5 (some .int) (rr_X6 d) 0 0 [.ref (G.1 + 93), .int x0, .int x1, .int x2, .int x3] h (po_h Q))
/-! X6_speakFrom -/
def wp_X6_speakFrom_L6 (rc : rt_X6) (x1 : Int32) (x2 : Int32) (x3 : Int32) (x4 : Int32) (Q : Int32 → hp_T → Prop) : Nat → Int32 → Int32 → hp_T → Prop
  | 0 => fun _ _ _ => False
  | nn + 1 => fun y5 y6 h => (((7 : Int32) ≤ y6 → (Q (0 : Int32) h)) ∧ (¬ ((7 : Int32) ≤ y6) → ((y5 < 0 → (Q (0 : Int32) h)) ∧ (¬ (y5 < 0) → (vp_in (((4 : Int32) * y5) + x2) 28) ∧ (((ab_bod ((((4 : Int32) * y5) + x2).toNatClampNeg)) = 0 → (vp_in y5 7) ∧ (wp_X6_speakFrom_L6 rc x1 x2 x3 x4 Q nn) (ab_abv y5.toNatClampNeg) (y6 + (1 : Int32)) h) ∧ (¬ ((ab_bod ((((4 : Int32) * y5) + x2).toNatClampNeg)) = 0) → rc.2.1 (ab_bod ((((4 : Int32) * y5) + x2).toNatClampNeg)) x3 (x4 + (1 : Int32)) h (fun v_6 h_7 => (Q v_6 h_7))))))))
set_option maxRecDepth 100000 in
set_option maxHeartbeats 4000000 in
theorem bt_X6_speakFrom_L6 {l : Launch} {G : ab_G} {rc : rt_X6} {d : Nat} {F : ab_F} {x1 : Int32} {x2 : Int32} {x3 : Int32} {x4 : Int32} {Q : Int32 → hp_T → Prop}  (C : ab_C G F (rr_X6 (d + 1)) cX6_speakFrom 8 RX6 (some .int) "speakFrom") (ih0 : ih_X6 l G rc d)   : ∀ (nn : Nat) (y5 : Int32) (y6 : Int32) (h : hp_T), wf h → wp_X6_speakFrom_L6 rc x1 x2 x3 x4 Q nn y5 y6 h → ab_W l G F 8 (ab_MQ G F (po_h Q) 0 0) 0 0 h [(0, .ref (G.1 + 93)), (2, .int x2), (3, .int x3), (4, .int x4), (5, .int y5), (6, .int y6)] [] 6 := by
  intro nn
  induction nn with
  | zero =>
    intro y5 y6 h hw f
    exact absurd f id
  | succ nn ih =>
    intro y5 y6 h hw f
    unfold wp_X6_speakFrom_L6 at f
    refine ab_iload C 5 dX6_speakFrom_6 rfl ?_
    refine ab_bipush C (v := (7 : Int32)) dX6_speakFrom_8 (by decide) ?_
    refine ab_icmp_ge C (tgt := 61) dX6_speakFrom_10 (by decide) (fun c_1 => ?_) (fun c_1 => ?_)
    · have f := f.1 c_1
      refine ab_iconst C (v := (0 : Int32)) dX6_speakFrom_61 (by decide) ?_
      exact ab_iret C dX6_speakFrom_62 ⟨hw, _, rfl, f⟩
    · have f := f.2 c_1
      refine ab_iload C 4 dX6_speakFrom_13 rfl ?_
      refine ab_if_lt C (tgt := 61) dX6_speakFrom_15 (by decide) (fun c_2 => ?_) (fun c_2 => ?_)
      · have f := f.1 c_2
        refine ab_iconst C (v := (0 : Int32)) dX6_speakFrom_61 (by decide) ?_
        exact ab_iret C dX6_speakFrom_62 ⟨hw, _, rfl, f⟩
      · have f := f.2 c_2
        refine ab_getsB C kw_t642 dX6_speakFrom_18 ?_
        refine ab_iconst C (v := (4 : Int32)) dX6_speakFrom_21 (by decide) ?_
        refine ab_iload C 4 dX6_speakFrom_22 rfl ?_
        refine ab_imul C dX6_speakFrom_24 ?_
        refine ab_iload_n C 1 dX6_speakFrom_25 rfl rfl ?_
        refine ab_iadd C dX6_speakFrom_26 ?_
        obtain ⟨c_3, f⟩ := f
        refine ab_taldB C c_3 (j := (((4 : Int32) * y5) + x2).toNatClampNeg) rfl dX6_speakFrom_27 ?_
        refine ab_istore C (lv' := [(7, .int (ab_bod ((((4 : Int32) * y5) + x2).toNatClampNeg))), (0, .ref (G.1 + 93)), (2, .int x2), (3, .int x3), (4, .int x4), (5, .int y5), (6, .int y6)]) dX6_speakFrom_28 (by decide) rfl ?_
        refine ab_iload C 0 dX6_speakFrom_30 rfl ?_
        refine ab_if_eq C (tgt := 47) dX6_speakFrom_32 (by decide) (fun c_4 => ?_) (fun c_4 => ?_)
        · have f := f.1 c_4
          refine ab_getsA C (fun _ h => h.2.2.2.2.2.2.2.1) dX6_speakFrom_47 ?_
          refine ab_iload C 5 dX6_speakFrom_50 rfl ?_
          obtain ⟨c_5, f⟩ := f
          refine ab_taldA C c_5 (j := y5.toNatClampNeg) rfl dX6_speakFrom_52 ?_
          refine ab_istore C (lv' := [(5, .int (ab_abv y5.toNatClampNeg)), (7, .int (ab_bod ((((4 : Int32) * y5) + x2).toNatClampNeg))), (0, .ref (G.1 + 93)), (2, .int x2), (3, .int x3), (4, .int x4), (6, .int y6)]) dX6_speakFrom_53 (by decide) rfl ?_
          refine ab_iinc C (lv' := [(6, .int (y6 + (1 : Int32))), (5, .int (ab_abv y5.toNatClampNeg)), (7, .int (ab_bod ((((4 : Int32) * y5) + x2).toNatClampNeg))), (0, .ref (G.1 + 93)), (2, .int x2), (3, .int x3), (4, .int x4)]) 6 (v := (y6 + (1 : Int32))) dX6_speakFrom_55 rfl rfl (by decide) rfl ?_
          refine ab_goto C (tgt := 6) dX6_speakFrom_58 (by decide) ?_
          refine ab_sub (lv' := [(0, .ref (G.1 + 93)), (2, .int x2), (3, .int x3), (4, .int x4), (5, .int (ab_abv y5.toNatClampNeg)), (6, .int (y6 + (1 : Int32)))]) [3, 4, 5, 6, 1, 0] rfl ?_
          exact ih (ab_abv y5.toNatClampNeg) (y6 + (1 : Int32)) h  hw f
        · have f := f.2 c_4
          refine ab_aload_n C 1 dX6_speakFrom_35 rfl rfl ?_
          refine ab_iload C 0 dX6_speakFrom_36 rfl ?_
          refine ab_iload_n C 3 dX6_speakFrom_38 rfl rfl ?_
          refine ab_iload C 4 dX6_speakFrom_39 rfl ?_
          refine ab_iconst C (v := (1 : Int32)) dX6_speakFrom_41 (by decide) ?_
          refine ab_iadd C dX6_speakFrom_42 ?_
          refine ab_callV C (k := 0) (n := 0) (rest := []) [.int (ab_bod ((((4 : Int32) * y5) + x2).toNatClampNeg)), .int x3, .int (x4 + (1 : Int32))] cl_X6_42 (ih0.2.1 (ab_bod ((((4 : Int32) * y5) + x2).toNatClampNeg)) x3 (x4 + (1 : Int32)) h _ hw f) rfl (by decide) kd_93 (wf_lt hw kd_93 rfl) ⟨rfl, rfl, Nat.le_of_eq (Nat.add_right_comm d 7 1), (by show 8 + (4 + 11) + (64 * d + 400) ≤ 64 * (d + 1) + 400; omega), Nat.zero_le _, Nat.zero_le _⟩ rfl rfl (Nat.le_of_ble_eq_true rfl) dX6_speakFrom_43 (ab_kh (k := 0) (n := 0) (fun v_6 h_7 hw_8 f => ?_))
          exact ab_iret C dX6_speakFrom_46 ⟨hw_8, _, rfl, f⟩
def wp_X6_speakFrom (rc : rt_X6) (x1 : Int32) (x2 : Int32) (x3 : Int32) (x4 : Int32) (h : hp_T) (Q : Int32 → hp_T → Prop) : Prop :=
  (∃ n0, wp_X6_speakFrom_L6 rc x1 x2 x3 x4 Q  n0 x1 (0 : Int32) h)
set_option maxRecDepth 100000 in
set_option maxHeartbeats 4000000 in
theorem mt_X6_speakFrom {l : Launch} {G : ab_G} {rc : rt_X6} {d : Nat} {x1 : Int32} {x2 : Int32} {x3 : Int32} {x4 : Int32} {h : hp_T} {Q : Int32 → hp_T → Prop} (ih0 : ih_X6 l G rc d) (hw : wf h) (f : wp_X6_speakFrom rc x1 x2 x3 x4 h Q) : ab_M l G yX6_speakFrom cX6_speakFrom 8 (some .int) (rr_X6 (d + 1)) 0 0 [.ref (G.1 + 93), .int x1, .int x2, .int x3, .int x4] h (po_h Q) := by
  refine ab_intro (own := RX6) (nm := "speakFrom") rfl rfl rfl (Nat.le_of_ble_eq_true rfl) (fun F C => ?_)
  show ab_W l G F 8 (ab_MQ G F (po_h Q) 0 0) 0 0 h [(0, .ref (G.1 + 93)), (1, .int x1), (2, .int x2), (3, .int x3), (4, .int x4)] [] 0
  unfold wp_X6_speakFrom at f
  refine ab_iload_n C 1 dX6_speakFrom_0 rfl rfl ?_
  refine ab_istore C (lv' := [(5, .int x1), (0, .ref (G.1 + 93)), (1, .int x1), (2, .int x2), (3, .int x3), (4, .int x4)]) dX6_speakFrom_1 (by decide) rfl ?_
  refine ab_iconst C (v := (0 : Int32)) dX6_speakFrom_3 (by decide) ?_
  refine ab_istore C (lv' := [(6, .int (0 : Int32)), (5, .int x1), (0, .ref (G.1 + 93)), (1, .int x1), (2, .int x2), (3, .int x3), (4, .int x4)]) dX6_speakFrom_4 (by decide) rfl ?_
  obtain ⟨n0, f⟩ := f
  refine ab_sub (lv' := [(0, .ref (G.1 + 93)), (2, .int x2), (3, .int x3), (4, .int x4), (5, .int x1), (6, .int (0 : Int32))]) [2, 4, 5, 6, 1, 0] rfl ?_
  exact bt_X6_speakFrom_L6 C ih0    n0 x1 (0 : Int32) h  hw f
/-! X6_run -/
def wp_X6_run (rc : rt_X6) (x1 : Int32) (x2 : Int32) (x3 : Int32) (h : hp_T) (Q : Int32 → hp_T → Prop) : Prop :=
  (((hp_i h 93 5) = 0 → ((x3 ≤ (30 : Int32) → wp_X6_begin x1 h (fun h_3 => ((x1 = (10 : Int32) → (Q (x2 + (hp_i h_3 93 1)) h_3)) ∧ (¬ (x1 = (10 : Int32)) → ((x1 = (11 : Int32) → rc.2.2.1 (0 : Int32) x2 x3 h_3 (fun v_7 h_8 => (Q (v_7 * (2 : Int32)) h_8))) ∧ (¬ (x1 = (11 : Int32)) → ((x1 = (12 : Int32) → rc.2.2.1 (1 : Int32) x2 x3 h_3 (fun v_11 h_12 => (Q (v_11 - (hp_i h_12 93 2)) h_12))) ∧ (¬ (x1 = (12 : Int32)) → ((x1 = (13 : Int32) → wp_X6_part x2 ((hp_i h_3 93 2) - (hp_i h_3 93 1)) h_3 (fun v_15 h_16 => (Q v_15 h_16))) ∧ (¬ (x1 = (13 : Int32)) → ((x1 = (20 : Int32) → rc.2.2.2 x1 (0 : Int32) x2 x3 h_3 (fun v_19 h_20 => (Q (v_19 - (6 : Int32)) h_20))) ∧ (¬ (x1 = (20 : Int32)) → ((x1 = (21 : Int32) → rc.2.2.2 x1 (3 : Int32) x2 x3 h_3 (fun v_23 h_24 => rc.2.2.1 (1 : Int32) (1 : Int32) x3 h_24 (fun v_26 h_27 => (Q (v_23 + v_26) h_27)))) ∧ (¬ (x1 = (21 : Int32)) → ((x1 = (30 : Int32) → rc.2.2.2 x1 (1 : Int32) x2 x3 h_3 (fun v_30 h_31 => (Q ((0 : Int32) - v_30) h_31))) ∧ (¬ (x1 = (30 : Int32)) → ((x1 = (40 : Int32) → rc.2.2.2 x1 (2 : Int32) (x2 / (2 : Int32)) x3 h_3 (fun v_34 h_35 => (Q v_34 h_35))) ∧ (¬ (x1 = (40 : Int32)) → ((x1 = (50 : Int32) → rc.2.2.2 x1 (0 : Int32) x2 x3 h_3 (fun v_38 h_39 => (Q (v_38 * (3 : Int32)) h_39))) ∧ (¬ (x1 = (50 : Int32)) → ((x1 = (51 : Int32) → rc.2.2.2 x1 (2 : Int32) x2 x3 h_3 (fun v_42 h_43 => (Q (v_42 ^^^ (hp_i h_43 93 1)) h_43))) ∧ (¬ (x1 = (51 : Int32)) → ((x1 = (60 : Int32) → rc.2.2.2 x1 (1 : Int32) (x2 + (1 : Int32)) x3 h_3 (fun v_46 h_47 => (Q v_46 h_47))) ∧ (¬ (x1 = (60 : Int32)) → ((x1 = (70 : Int32) → (Q (5 : Int32) h_3)) ∧ (¬ (x1 = (70 : Int32)) → ((x1 = (71 : Int32) → rc.2.2.2 x1 (1 : Int32) x2 x3 h_3 (fun v_51 h_52 => (Q (v_51 + (hp_i h_52 93 2)) h_52))) ∧ (¬ (x1 = (71 : Int32)) → (Q (0 : Int32) h_3))))))))))))))))))))))))))))) ∧ (¬ (x3 ≤ (30 : Int32)) → (Q (0 : Int32) h)))) ∧ (¬ ((hp_i h 93 5) = 0) → (Q (0 : Int32) h)))
set_option maxRecDepth 100000 in
set_option maxHeartbeats 4000000 in
theorem mt_X6_run {l : Launch} {G : ab_G} {rc : rt_X6} {d : Nat} {x1 : Int32} {x2 : Int32} {x3 : Int32} {h : hp_T} {Q : Int32 → hp_T → Prop} (ih0 : ih_X6 l G rc d) (hw : wf h) (f : wp_X6_run rc x1 x2 x3 h Q) : ab_M l G yX6_run cX6_run 4 (some .int) (rr_X6 (d + 1)) 0 0 [.ref (G.1 + 93), .int x1, .int x2, .int x3] h (po_h Q) := by
  refine ab_intro (own := RX6) (nm := "run") rfl rfl rfl (Nat.le_of_ble_eq_true rfl) (fun F C => ?_)
  show ab_W l G F 4 (ab_MQ G F (po_h Q) 0 0) 0 0 h [(0, .ref (G.1 + 93)), (1, .int x1), (2, .int x2), (3, .int x3)] [] 0
  unfold wp_X6_run at f
  refine ab_aload_n C 0 dX6_run_0 rfl rfl ?_
  refine ab_getI C fl_X6_28 rfl kd_93 (wf_lt hw kd_93 rfl) dX6_run_1 ?_
  refine ab_if_ne C (tgt := 13) dX6_run_4 (by decide) (fun c_1 => ?_) (fun c_1 => ?_)
  · have f := f.2 c_1
    refine ab_iconst C (v := (0 : Int32)) dX6_run_13 (by decide) ?_
    exact ab_iret C dX6_run_14 ⟨hw, _, rfl, f⟩
  · have f := f.1 c_1
    refine ab_iload_n C 3 dX6_run_7 rfl rfl ?_
    refine ab_bipush C (v := (30 : Int32)) dX6_run_8 (by decide) ?_
    refine ab_icmp_le C (tgt := 15) dX6_run_10 (by decide) (fun c_2 => ?_) (fun c_2 => ?_)
    · have f := f.1 c_2
      refine ab_aload_n C 0 dX6_run_15 rfl rfl ?_
      refine ab_iload_n C 1 dX6_run_16 rfl rfl ?_
      refine ab_callV C (k := 0) (n := 0) (rest := []) [.int x1] cl_X6_46 (mt_X6_begin  hw f) rfl (by decide) kd_93 (wf_lt hw kd_93 rfl) ⟨rfl, rfl, Nat.le_trans (Nat.le_of_ble_eq_true rfl) (Nat.le_add_left 7 (d + 1)), Nat.le_trans (Nat.le_of_ble_eq_true rfl) (Nat.le_add_left 400 (64 * (d + 1))), Nat.zero_le _, Nat.zero_le _⟩ rfl rfl (Nat.le_of_ble_eq_true rfl) dX6_run_17 (ab_kv (k := 0) (n := 0) (fun h_3 hw_4 f => ?_))
      refine ab_iload_n C 1 dX6_run_20 rfl rfl ?_
      by_cases c_5 : x1 = (10 : Int32)
      · have f := f.1 c_5
        refine ab_lookC C (off := 115) (tgt := 136) dX6_run_21 c_5 (by decide) (by decide) (by decide) ?_
        refine ab_iload_n C 2 dX6_run_136 rfl rfl ?_
        refine ab_aload_n C 0 dX6_run_137 rfl rfl ?_
        refine ab_getI C fl_X6_19 rfl kd_93 (wf_lt hw_4 kd_93 rfl) dX6_run_138 ?_
        refine ab_iadd C dX6_run_141 ?_
        exact ab_iret C dX6_run_142 ⟨hw_4, _, rfl, f⟩
      have f := f.2 c_5
      by_cases c_6 : x1 = (11 : Int32)
      · have f := f.1 c_6
        refine ab_lookC C (off := 122) (tgt := 143) dX6_run_21 c_6 (by decide) (by decide) (by decide) ?_
        refine ab_aload_n C 0 dX6_run_143 rfl rfl ?_
        refine ab_iconst C (v := (0 : Int32)) dX6_run_144 (by decide) ?_
        refine ab_iload_n C 2 dX6_run_145 rfl rfl ?_
        refine ab_iload_n C 3 dX6_run_146 rfl rfl ?_
        refine ab_callV C (k := 0) (n := 0) (rest := []) [.int (0 : Int32), .int x2, .int x3] cl_X6_50 (ih0.2.2.1 (0 : Int32) x2 x3 h_3 _ hw_4 f) rfl (by decide) kd_93 (wf_lt hw_4 kd_93 rfl) ⟨rfl, rfl, Nat.le_of_eq (Nat.add_right_comm d 7 1), (by show 8 + (4 + 11) + (64 * d + 400) ≤ 64 * (d + 1) + 400; omega), Nat.zero_le _, Nat.zero_le _⟩ rfl rfl (Nat.le_of_ble_eq_true rfl) dX6_run_147 (ab_kh (k := 0) (n := 0) (fun v_7 h_8 hw_9 f => ?_))
        refine ab_iconst C (v := (2 : Int32)) dX6_run_150 (by decide) ?_
        refine ab_imul C dX6_run_151 ?_
        exact ab_iret C dX6_run_152 ⟨hw_9, _, rfl, f⟩
      have f := f.2 c_6
      by_cases c_10 : x1 = (12 : Int32)
      · have f := f.1 c_10
        refine ab_lookC C (off := 132) (tgt := 153) dX6_run_21 c_10 (by decide) (by decide) (by decide) ?_
        refine ab_aload_n C 0 dX6_run_153 rfl rfl ?_
        refine ab_iconst C (v := (1 : Int32)) dX6_run_154 (by decide) ?_
        refine ab_iload_n C 2 dX6_run_155 rfl rfl ?_
        refine ab_iload_n C 3 dX6_run_156 rfl rfl ?_
        refine ab_callV C (k := 0) (n := 0) (rest := []) [.int (1 : Int32), .int x2, .int x3] cl_X6_50 (ih0.2.2.1 (1 : Int32) x2 x3 h_3 _ hw_4 f) rfl (by decide) kd_93 (wf_lt hw_4 kd_93 rfl) ⟨rfl, rfl, Nat.le_of_eq (Nat.add_right_comm d 7 1), (by show 8 + (4 + 11) + (64 * d + 400) ≤ 64 * (d + 1) + 400; omega), Nat.zero_le _, Nat.zero_le _⟩ rfl rfl (Nat.le_of_ble_eq_true rfl) dX6_run_157 (ab_kh (k := 0) (n := 0) (fun v_11 h_12 hw_13 f => ?_))
        refine ab_aload_n C 0 dX6_run_160 rfl rfl ?_
        refine ab_getI C fl_X6_22 rfl kd_93 (wf_lt hw_13 kd_93 rfl) dX6_run_161 ?_
        refine ab_isub C dX6_run_164 ?_
        exact ab_iret C dX6_run_165 ⟨hw_13, _, rfl, f⟩
      have f := f.2 c_10
      by_cases c_14 : x1 = (13 : Int32)
      · have f := f.1 c_14
        refine ab_lookC C (off := 145) (tgt := 166) dX6_run_21 c_14 (by decide) (by decide) (by decide) ?_
        refine ab_aload_n C 0 dX6_run_166 rfl rfl ?_
        refine ab_iload_n C 2 dX6_run_167 rfl rfl ?_
        refine ab_aload_n C 0 dX6_run_168 rfl rfl ?_
        refine ab_getI C fl_X6_22 rfl kd_93 (wf_lt hw_4 kd_93 rfl) dX6_run_169 ?_
        refine ab_aload_n C 0 dX6_run_172 rfl rfl ?_
        refine ab_getI C fl_X6_19 rfl kd_93 (wf_lt hw_4 kd_93 rfl) dX6_run_173 ?_
        refine ab_isub C dX6_run_176 ?_
        refine ab_callV C (k := 0) (n := 0) (rest := []) [.int x2, .int ((hp_i h_3 93 2) - (hp_i h_3 93 1))] cl_X6_53 (mt_X6_part  hw_4 f) rfl (by decide) kd_93 (wf_lt hw_4 kd_93 rfl) ⟨rfl, rfl, Nat.le_trans (Nat.le_of_ble_eq_true rfl) (Nat.le_add_left 7 (d + 1)), Nat.le_trans (Nat.le_of_ble_eq_true rfl) (Nat.le_add_left 400 (64 * (d + 1))), Nat.zero_le _, Nat.zero_le _⟩ rfl rfl (Nat.le_of_ble_eq_true rfl) dX6_run_177 (ab_kh (k := 0) (n := 0) (fun v_15 h_16 hw_17 f => ?_))
        exact ab_iret C dX6_run_180 ⟨hw_17, _, rfl, f⟩
      have f := f.2 c_14
      by_cases c_18 : x1 = (20 : Int32)
      · have f := f.1 c_18
        refine ab_lookC C (off := 160) (tgt := 181) dX6_run_21 c_18 (by decide) (by decide) (by decide) ?_
        refine ab_aload_n C 0 dX6_run_181 rfl rfl ?_
        refine ab_iload_n C 1 dX6_run_182 rfl rfl ?_
        refine ab_iconst C (v := (0 : Int32)) dX6_run_183 (by decide) ?_
        refine ab_iload_n C 2 dX6_run_184 rfl rfl ?_
        refine ab_iload_n C 3 dX6_run_185 rfl rfl ?_
        refine ab_callV C (k := 0) (n := 0) (rest := []) [.int x1, .int (0 : Int32), .int x2, .int x3] cl_X6_57 (ih0.2.2.2 x1 (0 : Int32) x2 x3 h_3 _ hw_4 f) rfl (by decide) kd_93 (wf_lt hw_4 kd_93 rfl) ⟨rfl, rfl, Nat.le_of_eq (Nat.add_right_comm d 7 1), (by show 8 + (5 + 11) + (64 * d + 400) ≤ 64 * (d + 1) + 400; omega), Nat.zero_le _, Nat.zero_le _⟩ rfl rfl (Nat.le_of_ble_eq_true rfl) dX6_run_186 (ab_kh (k := 0) (n := 0) (fun v_19 h_20 hw_21 f => ?_))
        refine ab_bipush C (v := (6 : Int32)) dX6_run_189 (by decide) ?_
        refine ab_isub C dX6_run_191 ?_
        exact ab_iret C dX6_run_192 ⟨hw_21, _, rfl, f⟩
      have f := f.2 c_18
      by_cases c_22 : x1 = (21 : Int32)
      · have f := f.1 c_22
        refine ab_lookC C (off := 172) (tgt := 193) dX6_run_21 c_22 (by decide) (by decide) (by decide) ?_
        refine ab_aload_n C 0 dX6_run_193 rfl rfl ?_
        refine ab_iload_n C 1 dX6_run_194 rfl rfl ?_
        refine ab_iconst C (v := (3 : Int32)) dX6_run_195 (by decide) ?_
        refine ab_iload_n C 2 dX6_run_196 rfl rfl ?_
        refine ab_iload_n C 3 dX6_run_197 rfl rfl ?_
        refine ab_callV C (k := 0) (n := 0) (rest := []) [.int x1, .int (3 : Int32), .int x2, .int x3] cl_X6_57 (ih0.2.2.2 x1 (3 : Int32) x2 x3 h_3 _ hw_4 f) rfl (by decide) kd_93 (wf_lt hw_4 kd_93 rfl) ⟨rfl, rfl, Nat.le_of_eq (Nat.add_right_comm d 7 1), (by show 8 + (5 + 11) + (64 * d + 400) ≤ 64 * (d + 1) + 400; omega), Nat.zero_le _, Nat.zero_le _⟩ rfl rfl (Nat.le_of_ble_eq_true rfl) dX6_run_198 (ab_kh (k := 0) (n := 0) (fun v_23 h_24 hw_25 f => ?_))
        refine ab_aload_n C 0 dX6_run_201 rfl rfl ?_
        refine ab_iconst C (v := (1 : Int32)) dX6_run_202 (by decide) ?_
        refine ab_iconst C (v := (1 : Int32)) dX6_run_203 (by decide) ?_
        refine ab_iload_n C 3 dX6_run_204 rfl rfl ?_
        refine ab_callV C (k := 0) (n := 0) (rest := [.int v_23]) [.int (1 : Int32), .int (1 : Int32), .int x3] cl_X6_50 (ih0.2.2.1 (1 : Int32) (1 : Int32) x3 h_24 _ hw_25 f) rfl (by decide) kd_93 (wf_lt hw_25 kd_93 rfl) ⟨rfl, rfl, Nat.le_of_eq (Nat.add_right_comm d 7 1), (by show 8 + (4 + 11) + (64 * d + 400) ≤ 64 * (d + 1) + 400; omega), Nat.zero_le _, Nat.zero_le _⟩ rfl rfl (Nat.le_of_ble_eq_true rfl) dX6_run_205 (ab_kh (k := 0) (n := 0) (fun v_26 h_27 hw_28 f => ?_))
        refine ab_iadd C dX6_run_208 ?_
        exact ab_iret C dX6_run_209 ⟨hw_28, _, rfl, f⟩
      have f := f.2 c_22
      by_cases c_29 : x1 = (30 : Int32)
      · have f := f.1 c_29
        refine ab_lookC C (off := 189) (tgt := 210) dX6_run_21 c_29 (by decide) (by decide) (by decide) ?_
        refine ab_iconst C (v := (0 : Int32)) dX6_run_210 (by decide) ?_
        refine ab_aload_n C 0 dX6_run_211 rfl rfl ?_
        refine ab_iload_n C 1 dX6_run_212 rfl rfl ?_
        refine ab_iconst C (v := (1 : Int32)) dX6_run_213 (by decide) ?_
        refine ab_iload_n C 2 dX6_run_214 rfl rfl ?_
        refine ab_iload_n C 3 dX6_run_215 rfl rfl ?_
        refine ab_callV C (k := 0) (n := 0) (rest := [.int (0 : Int32)]) [.int x1, .int (1 : Int32), .int x2, .int x3] cl_X6_57 (ih0.2.2.2 x1 (1 : Int32) x2 x3 h_3 _ hw_4 f) rfl (by decide) kd_93 (wf_lt hw_4 kd_93 rfl) ⟨rfl, rfl, Nat.le_of_eq (Nat.add_right_comm d 7 1), (by show 8 + (5 + 11) + (64 * d + 400) ≤ 64 * (d + 1) + 400; omega), Nat.zero_le _, Nat.zero_le _⟩ rfl rfl (Nat.le_of_ble_eq_true rfl) dX6_run_216 (ab_kh (k := 0) (n := 0) (fun v_30 h_31 hw_32 f => ?_))
        refine ab_isub C dX6_run_219 ?_
        exact ab_iret C dX6_run_220 ⟨hw_32, _, rfl, f⟩
      have f := f.2 c_29
      by_cases c_33 : x1 = (40 : Int32)
      · have f := f.1 c_33
        refine ab_lookC C (off := 200) (tgt := 221) dX6_run_21 c_33 (by decide) (by decide) (by decide) ?_
        refine ab_aload_n C 0 dX6_run_221 rfl rfl ?_
        refine ab_iload_n C 1 dX6_run_222 rfl rfl ?_
        refine ab_iconst C (v := (2 : Int32)) dX6_run_223 (by decide) ?_
        refine ab_iload_n C 2 dX6_run_224 rfl rfl ?_
        refine ab_iconst C (v := (2 : Int32)) dX6_run_225 (by decide) ?_
        refine ab_idiv C dX6_run_226 (by decide) ?_
        refine ab_iload_n C 3 dX6_run_227 rfl rfl ?_
        refine ab_callV C (k := 0) (n := 0) (rest := []) [.int x1, .int (2 : Int32), .int (x2 / (2 : Int32)), .int x3] cl_X6_57 (ih0.2.2.2 x1 (2 : Int32) (x2 / (2 : Int32)) x3 h_3 _ hw_4 f) rfl (by decide) kd_93 (wf_lt hw_4 kd_93 rfl) ⟨rfl, rfl, Nat.le_of_eq (Nat.add_right_comm d 7 1), (by show 8 + (5 + 11) + (64 * d + 400) ≤ 64 * (d + 1) + 400; omega), Nat.zero_le _, Nat.zero_le _⟩ rfl rfl (Nat.le_of_ble_eq_true rfl) dX6_run_228 (ab_kh (k := 0) (n := 0) (fun v_34 h_35 hw_36 f => ?_))
        exact ab_iret C dX6_run_231 ⟨hw_36, _, rfl, f⟩
      have f := f.2 c_33
      by_cases c_37 : x1 = (50 : Int32)
      · have f := f.1 c_37
        refine ab_lookC C (off := 211) (tgt := 232) dX6_run_21 c_37 (by decide) (by decide) (by decide) ?_
        refine ab_aload_n C 0 dX6_run_232 rfl rfl ?_
        refine ab_iload_n C 1 dX6_run_233 rfl rfl ?_
        refine ab_iconst C (v := (0 : Int32)) dX6_run_234 (by decide) ?_
        refine ab_iload_n C 2 dX6_run_235 rfl rfl ?_
        refine ab_iload_n C 3 dX6_run_236 rfl rfl ?_
        refine ab_callV C (k := 0) (n := 0) (rest := []) [.int x1, .int (0 : Int32), .int x2, .int x3] cl_X6_57 (ih0.2.2.2 x1 (0 : Int32) x2 x3 h_3 _ hw_4 f) rfl (by decide) kd_93 (wf_lt hw_4 kd_93 rfl) ⟨rfl, rfl, Nat.le_of_eq (Nat.add_right_comm d 7 1), (by show 8 + (5 + 11) + (64 * d + 400) ≤ 64 * (d + 1) + 400; omega), Nat.zero_le _, Nat.zero_le _⟩ rfl rfl (Nat.le_of_ble_eq_true rfl) dX6_run_237 (ab_kh (k := 0) (n := 0) (fun v_38 h_39 hw_40 f => ?_))
        refine ab_iconst C (v := (3 : Int32)) dX6_run_240 (by decide) ?_
        refine ab_imul C dX6_run_241 ?_
        exact ab_iret C dX6_run_242 ⟨hw_40, _, rfl, f⟩
      have f := f.2 c_37
      by_cases c_41 : x1 = (51 : Int32)
      · have f := f.1 c_41
        refine ab_lookC C (off := 222) (tgt := 243) dX6_run_21 c_41 (by decide) (by decide) (by decide) ?_
        refine ab_aload_n C 0 dX6_run_243 rfl rfl ?_
        refine ab_iload_n C 1 dX6_run_244 rfl rfl ?_
        refine ab_iconst C (v := (2 : Int32)) dX6_run_245 (by decide) ?_
        refine ab_iload_n C 2 dX6_run_246 rfl rfl ?_
        refine ab_iload_n C 3 dX6_run_247 rfl rfl ?_
        refine ab_callV C (k := 0) (n := 0) (rest := []) [.int x1, .int (2 : Int32), .int x2, .int x3] cl_X6_57 (ih0.2.2.2 x1 (2 : Int32) x2 x3 h_3 _ hw_4 f) rfl (by decide) kd_93 (wf_lt hw_4 kd_93 rfl) ⟨rfl, rfl, Nat.le_of_eq (Nat.add_right_comm d 7 1), (by show 8 + (5 + 11) + (64 * d + 400) ≤ 64 * (d + 1) + 400; omega), Nat.zero_le _, Nat.zero_le _⟩ rfl rfl (Nat.le_of_ble_eq_true rfl) dX6_run_248 (ab_kh (k := 0) (n := 0) (fun v_42 h_43 hw_44 f => ?_))
        refine ab_aload_n C 0 dX6_run_251 rfl rfl ?_
        refine ab_getI C fl_X6_19 rfl kd_93 (wf_lt hw_44 kd_93 rfl) dX6_run_252 ?_
        refine ab_ixor C dX6_run_255 ?_
        exact ab_iret C dX6_run_256 ⟨hw_44, _, rfl, f⟩
      have f := f.2 c_41
      by_cases c_45 : x1 = (60 : Int32)
      · have f := f.1 c_45
        refine ab_lookC C (off := 236) (tgt := 257) dX6_run_21 c_45 (by decide) (by decide) (by decide) ?_
        refine ab_aload_n C 0 dX6_run_257 rfl rfl ?_
        refine ab_iload_n C 1 dX6_run_258 rfl rfl ?_
        refine ab_iconst C (v := (1 : Int32)) dX6_run_259 (by decide) ?_
        refine ab_iload_n C 2 dX6_run_260 rfl rfl ?_
        refine ab_iconst C (v := (1 : Int32)) dX6_run_261 (by decide) ?_
        refine ab_iadd C dX6_run_262 ?_
        refine ab_iload_n C 3 dX6_run_263 rfl rfl ?_
        refine ab_callV C (k := 0) (n := 0) (rest := []) [.int x1, .int (1 : Int32), .int (x2 + (1 : Int32)), .int x3] cl_X6_57 (ih0.2.2.2 x1 (1 : Int32) (x2 + (1 : Int32)) x3 h_3 _ hw_4 f) rfl (by decide) kd_93 (wf_lt hw_4 kd_93 rfl) ⟨rfl, rfl, Nat.le_of_eq (Nat.add_right_comm d 7 1), (by show 8 + (5 + 11) + (64 * d + 400) ≤ 64 * (d + 1) + 400; omega), Nat.zero_le _, Nat.zero_le _⟩ rfl rfl (Nat.le_of_ble_eq_true rfl) dX6_run_264 (ab_kh (k := 0) (n := 0) (fun v_46 h_47 hw_48 f => ?_))
        exact ab_iret C dX6_run_267 ⟨hw_48, _, rfl, f⟩
      have f := f.2 c_45
      by_cases c_49 : x1 = (70 : Int32)
      · have f := f.1 c_49
        refine ab_lookC C (off := 247) (tgt := 268) dX6_run_21 c_49 (by decide) (by decide) (by decide) ?_
        refine ab_iconst C (v := (5 : Int32)) dX6_run_268 (by decide) ?_
        exact ab_iret C dX6_run_269 ⟨hw_4, _, rfl, f⟩
      have f := f.2 c_49
      by_cases c_50 : x1 = (71 : Int32)
      · have f := f.1 c_50
        refine ab_lookC C (off := 249) (tgt := 270) dX6_run_21 c_50 (by decide) (by decide) (by decide) ?_
        refine ab_aload_n C 0 dX6_run_270 rfl rfl ?_
        refine ab_iload_n C 1 dX6_run_271 rfl rfl ?_
        refine ab_iconst C (v := (1 : Int32)) dX6_run_272 (by decide) ?_
        refine ab_iload_n C 2 dX6_run_273 rfl rfl ?_
        refine ab_iload_n C 3 dX6_run_274 rfl rfl ?_
        refine ab_callV C (k := 0) (n := 0) (rest := []) [.int x1, .int (1 : Int32), .int x2, .int x3] cl_X6_57 (ih0.2.2.2 x1 (1 : Int32) x2 x3 h_3 _ hw_4 f) rfl (by decide) kd_93 (wf_lt hw_4 kd_93 rfl) ⟨rfl, rfl, Nat.le_of_eq (Nat.add_right_comm d 7 1), (by show 8 + (5 + 11) + (64 * d + 400) ≤ 64 * (d + 1) + 400; omega), Nat.zero_le _, Nat.zero_le _⟩ rfl rfl (Nat.le_of_ble_eq_true rfl) dX6_run_275 (ab_kh (k := 0) (n := 0) (fun v_51 h_52 hw_53 f => ?_))
        refine ab_aload_n C 0 dX6_run_278 rfl rfl ?_
        refine ab_getI C fl_X6_22 rfl kd_93 (wf_lt hw_53 kd_93 rfl) dX6_run_279 ?_
        refine ab_iadd C dX6_run_282 ?_
        exact ab_iret C dX6_run_283 ⟨hw_53, _, rfl, f⟩
      have f := f.2 c_50
      refine ab_lookup C (off := 263) (tgt := 284) dX6_run_21 (by decide) ?_ (by decide) ?_
      · exact ab_lout [(10, 115), (11, 122), (12, 132), (13, 145), (20, 160), (21, 172), (30, 189), (40, 200), (50, 211), (51, 222), (60, 236), (70, 247), (71, 249)] (List.forall_mem_cons.mpr ⟨ab_ne c_5, (List.forall_mem_cons.mpr ⟨ab_ne c_6, (List.forall_mem_cons.mpr ⟨ab_ne c_10, (List.forall_mem_cons.mpr ⟨ab_ne c_14, (List.forall_mem_cons.mpr ⟨ab_ne c_18, (List.forall_mem_cons.mpr ⟨ab_ne c_22, (List.forall_mem_cons.mpr ⟨ab_ne c_29, (List.forall_mem_cons.mpr ⟨ab_ne c_33, (List.forall_mem_cons.mpr ⟨ab_ne c_37, (List.forall_mem_cons.mpr ⟨ab_ne c_41, (List.forall_mem_cons.mpr ⟨ab_ne c_45, (List.forall_mem_cons.mpr ⟨ab_ne c_49, (List.forall_mem_cons.mpr ⟨ab_ne c_50, (fun _ h => absurd h List.not_mem_nil)⟩)⟩)⟩)⟩)⟩)⟩)⟩)⟩)⟩)⟩)⟩)⟩)⟩)
      · skip
        refine ab_iconst C (v := (0 : Int32)) dX6_run_284 (by decide) ?_
        exact ab_iret C dX6_run_285 ⟨hw_4, _, rfl, f⟩
    · have f := f.2 c_2
      refine ab_iconst C (v := (0 : Int32)) dX6_run_13 (by decide) ?_
      exact ab_iret C dX6_run_14 ⟨hw, _, rfl, f⟩
/-! X6_own -/
def wp_X6_own (rc : rt_X6) (x1 : Int32) (x2 : Int32) (x3 : Int32) (h : hp_T) (Q : Int32 → hp_T → Prop) : Prop :=
  rc.1 (hp_i h 93 0) x1 x2 x3 h (fun v_1 h_2 => (Q v_1 h_2))
set_option maxRecDepth 100000 in
set_option maxHeartbeats 4000000 in
theorem mt_X6_own {l : Launch} {G : ab_G} {rc : rt_X6} {d : Nat} {x1 : Int32} {x2 : Int32} {x3 : Int32} {h : hp_T} {Q : Int32 → hp_T → Prop} (ih0 : ih_X6 l G rc d) (hw : wf h) (f : wp_X6_own rc x1 x2 x3 h Q) : ab_M l G yX6_own cX6_own 4 (some .int) (rr_X6 (d + 1)) 0 0 [.ref (G.1 + 93), .int x1, .int x2, .int x3] h (po_h Q) := by
  refine ab_intro (own := RX6) (nm := "own") rfl rfl rfl (Nat.le_of_ble_eq_true rfl) (fun F C => ?_)
  show ab_W l G F 4 (ab_MQ G F (po_h Q) 0 0) 0 0 h [(0, .ref (G.1 + 93)), (1, .int x1), (2, .int x2), (3, .int x3)] [] 0
  unfold wp_X6_own at f
  refine ab_aload_n C 0 dX6_own_0 rfl rfl ?_
  refine ab_aload_n C 0 dX6_own_1 rfl rfl ?_
  refine ab_getI C fl_X6_15 rfl kd_93 (wf_lt hw kd_93 rfl) dX6_own_2 ?_
  refine ab_iload_n C 1 dX6_own_5 rfl rfl ?_
  refine ab_iload_n C 2 dX6_own_6 rfl rfl ?_
  refine ab_iload_n C 3 dX6_own_7 rfl rfl ?_
  refine ab_callV C (k := 0) (n := 0) (rest := []) [.int (hp_i h 93 0), .int x1, .int x2, .int x3] cl_X6_32 (ih0.1 (hp_i h 93 0) x1 x2 x3 h _ hw f) rfl (by decide) kd_93 (wf_lt hw kd_93 rfl) ⟨rfl, rfl, Nat.le_of_eq (Nat.add_right_comm d 7 1), (by show 8 + (8 + 11) + (64 * d + 400) ≤ 64 * (d + 1) + 400; omega), Nat.zero_le _, Nat.zero_le _⟩ rfl rfl (Nat.le_of_ble_eq_true rfl) dX6_own_8 (ab_kh (k := 0) (n := 0) (fun v_1 h_2 hw_3 f => ?_))
  exact ab_iret C dX6_own_11 ⟨hw_3, _, rfl, f⟩
/-! X6_above -/
def wp_X6_above (rc : rt_X6) (x1 : Int32) (x2 : Int32) (x3 : Int32) (x4 : Int32) (h : hp_T) (Q : Int32 → hp_T → Prop) : Prop :=
  (vp_in ((x1 / (10 : Int32)) - (1 : Int32)) 7) ∧ rc.1 (ab_abv (((x1 / (10 : Int32)) - (1 : Int32)).toNatClampNeg)) x2 x3 x4 h (fun v_2 h_3 => (Q v_2 h_3))
set_option maxRecDepth 100000 in
set_option maxHeartbeats 4000000 in
theorem mt_X6_above {l : Launch} {G : ab_G} {rc : rt_X6} {d : Nat} {x1 : Int32} {x2 : Int32} {x3 : Int32} {x4 : Int32} {h : hp_T} {Q : Int32 → hp_T → Prop} (ih0 : ih_X6 l G rc d) (hw : wf h) (f : wp_X6_above rc x1 x2 x3 x4 h Q) : ab_M l G yX6_above cX6_above 5 (some .int) (rr_X6 (d + 1)) 0 0 [.ref (G.1 + 93), .int x1, .int x2, .int x3, .int x4] h (po_h Q) := by
  refine ab_intro (own := RX6) (nm := "above") rfl rfl rfl (Nat.le_of_ble_eq_true rfl) (fun F C => ?_)
  show ab_W l G F 5 (ab_MQ G F (po_h Q) 0 0) 0 0 h [(0, .ref (G.1 + 93)), (1, .int x1), (2, .int x2), (3, .int x3), (4, .int x4)] [] 0
  unfold wp_X6_above at f
  refine ab_aload_n C 0 dX6_above_0 rfl rfl ?_
  refine ab_getsA C (fun _ h => h.2.2.2.2.2.2.2.1) dX6_above_1 ?_
  refine ab_iload_n C 1 dX6_above_4 rfl rfl ?_
  refine ab_bipush C (v := (10 : Int32)) dX6_above_5 (by decide) ?_
  refine ab_idiv C dX6_above_7 (by decide) ?_
  refine ab_iconst C (v := (1 : Int32)) dX6_above_8 (by decide) ?_
  refine ab_isub C dX6_above_9 ?_
  obtain ⟨c_1, f⟩ := f
  refine ab_taldA C c_1 (j := ((x1 / (10 : Int32)) - (1 : Int32)).toNatClampNeg) rfl dX6_above_10 ?_
  refine ab_iload_n C 2 dX6_above_11 rfl rfl ?_
  refine ab_iload_n C 3 dX6_above_12 rfl rfl ?_
  refine ab_iload C 4 dX6_above_13 rfl ?_
  refine ab_callV C (k := 0) (n := 0) (rest := []) [.int (ab_abv (((x1 / (10 : Int32)) - (1 : Int32)).toNatClampNeg)), .int x2, .int x3, .int x4] cl_X6_32 (ih0.1 (ab_abv (((x1 / (10 : Int32)) - (1 : Int32)).toNatClampNeg)) x2 x3 x4 h _ hw f) rfl (by decide) kd_93 (wf_lt hw kd_93 rfl) ⟨rfl, rfl, Nat.le_of_eq (Nat.add_right_comm d 7 1), (by show 8 + (8 + 11) + (64 * d + 400) ≤ 64 * (d + 1) + 400; omega), Nat.zero_le _, Nat.zero_le _⟩ rfl rfl (Nat.le_of_ble_eq_true rfl) dX6_above_15 (ab_kh (k := 0) (n := 0) (fun v_2 h_3 hw_4 f => ?_))
  exact ab_iret C dX6_above_18 ⟨hw_4, _, rfl, f⟩
def wr_X6 : Nat → rt_X6
  | 0 => (fun _ _ _ _ _ _ => False, fun _ _ _ _ _ => False, fun _ _ _ _ _ => False, fun _ _ _ _ _ _ => False)
  | d + 1 => (fun x0 x1 x2 x3 h Q => wp_X6_speakFrom (wr_X6 d) x0 x1 x2 x3 h Q, fun x0 x1 x2 h Q => wp_X6_run (wr_X6 d) x0 x1 x2 h Q, fun x0 x1 x2 h Q => wp_X6_own (wr_X6 d) x0 x1 x2 h Q, fun x0 x1 x2 x3 h Q => wp_X6_above (wr_X6 d) x0 x1 x2 x3 h Q)
theorem mr_X6 (l : Launch) (G : ab_G) : ∀ d, ih_X6 l G (wr_X6 d) d := by
  intro d
  induction d with
  | zero => exact ⟨fun _ _ _ _ _ _ _ f => absurd f id, fun _ _ _ _ _ _ f => absurd f id, fun _ _ _ _ _ _ f => absurd f id, fun _ _ _ _ _ _ _ f => absurd f id⟩
  | succ d ih => exact ⟨fun _ _ _ _ _ _ hw f => mt_X6_speakFrom (rc := wr_X6 d) ih hw f, fun _ _ _ _ _ hw f => mt_X6_run (rc := wr_X6 d) ih hw f, fun _ _ _ _ _ hw f => mt_X6_own (rc := wr_X6 d) ih hw f, fun _ _ _ _ _ _ hw f => mt_X6_above (rc := wr_X6 d) ih hw f⟩
/-! X6_init -/
def rm_X6_init : Room := { frames := 2, cells := 1, slots := 30, locals := 100 }
def wp_X6_init (h : hp_T) (Q : hp_T → Prop) : Prop :=
  (16 ≤ ab_k (hp_n h)) ∧ (∀ h_1, h_1 = hp_na h 30 → (93 < hp_n h_1) ∧ (∀ h_5, h_5 = hp_sr h_1 93 3 (some (hp_n h)) → (Q h_5)))
set_option maxRecDepth 100000 in
set_option maxHeartbeats 4000000 in
theorem mt_X6_init {l : Launch} {G : ab_G}  {h : hp_T} {Q : hp_T → Prop} (f : wp_X6_init h Q) : ab_M l G yX6_init cX6_init 1 none rm_X6_init 1 30 [.ref (G.1 + 93)] h (po_r Q) := by
  refine ab_intro (own := RX6) (nm := "<init>") rfl rfl rfl (Nat.le_of_ble_eq_true rfl) (fun F C => ?_)
  show ab_W l G F 1 (ab_MQ G F (po_r Q) 1 30) 0 0 h [(0, .ref (G.1 + 93))] [] 0
  unfold wp_X6_init at f
  refine ab_aload_n C 0 dX6_init_0 rfl rfl ?_
  refine ab_oinit C (b := 93) co_X6 (by decide) (by decide) (Nat.le_of_ble_eq_true rfl) dX6_init_1 ?_
  refine ab_aload_n C 0 dX6_init_4 rfl rfl ?_
  refine ab_bipush C (v := (30 : Int32)) dX6_init_5 (by decide) ?_
  obtain ⟨c_3, f⟩ := f
  refine ab_newI C (k := 0) (n := 0) (N := 30) kw_t73 c_3 (by decide) (by decide) (by decide) (Nat.le_of_ble_eq_true rfl) (Nat.le_of_ble_eq_true rfl) dX6_init_7 (fun h_1 e_2 => ?_)
  have f := f h_1 e_2
  obtain ⟨c_4, f⟩ := f
  refine ab_putR C (q := (hp_n h)) fl_X6_9 rfl (fun _ => rfl) kd_93 c_4 (fun _ => rfl) (fun _ => rfl) dX6_init_9 (fun h_5 e_6 => ?_)
  have f := f h_5 e_6
  exact ab_vret C dX6_init_12 ⟨rfl, f⟩
/-! X6_speak -/
def rm_X6_speak : Room := { frames := 48, cells := 0, slots := 0, locals := 2987 }
def wp_X6_speak (x1 : Int32) (x2 : Int32) (x3 : Int32) (x4 : Int32) (x5 : Int32) (h : hp_T) (Q : Int32 → hp_T → Prop) : Prop :=
  (∀ h_1, h_1 = hp_si h 93 0 x1 → (∀ h_4, h_4 = hp_si h_1 93 1 x2 → (∀ h_7, h_7 = hp_si h_4 93 2 x3 → (∀ h_10, h_10 = hp_si h_7 93 4 (0 : Int32) → (∀ h_13, h_13 = hp_si h_10 93 5 (0 : Int32) → (wr_X6 40).1 (hp_i h_13 93 0) x4 x5 (0 : Int32) h_13 (fun v_16 h_17 => (Q v_16 h_17)))))))
set_option maxRecDepth 100000 in
set_option maxHeartbeats 4000000 in
theorem mt_X6_speak {l : Launch} {G : ab_G} {x1 : Int32} {x2 : Int32} {x3 : Int32} {x4 : Int32} {x5 : Int32} {h : hp_T} {Q : Int32 → hp_T → Prop} (hw : wf h) (f : wp_X6_speak x1 x2 x3 x4 x5 h Q) : ab_M l G yX6_speak cX6_speak 6 (some .int) rm_X6_speak 0 0 [.ref (G.1 + 93), .int x1, .int x2, .int x3, .int x4, .int x5] h (po_h Q) := by
  refine ab_intro (own := RX6) (nm := "speak") rfl rfl rfl (Nat.le_of_ble_eq_true rfl) (fun F C => ?_)
  show ab_W l G F 6 (ab_MQ G F (po_h Q) 0 0) 0 0 h [(0, .ref (G.1 + 93)), (1, .int x1), (2, .int x2), (3, .int x3), (4, .int x4), (5, .int x5)] [] 0
  unfold wp_X6_speak at f
  refine ab_aload_n C 0 dX6_speak_0 rfl rfl ?_
  refine ab_iload_n C 1 dX6_speak_1 rfl rfl ?_
  refine ab_putI C fl_X6_15 rfl kd_93 (wf_lt hw kd_93 rfl) rfl rfl dX6_speak_2 (fun h_1 e_2 => ?_)
  have f := f h_1 e_2
  have hw_3 := wf_si e_2 hw
  refine ab_aload_n C 0 dX6_speak_5 rfl rfl ?_
  refine ab_iload_n C 2 dX6_speak_6 rfl rfl ?_
  refine ab_putI C fl_X6_19 rfl kd_93 (wf_lt hw_3 kd_93 rfl) rfl rfl dX6_speak_7 (fun h_4 e_5 => ?_)
  have f := f h_4 e_5
  have hw_6 := wf_si e_5 hw_3
  refine ab_aload_n C 0 dX6_speak_10 rfl rfl ?_
  refine ab_iload_n C 3 dX6_speak_11 rfl rfl ?_
  refine ab_putI C fl_X6_22 rfl kd_93 (wf_lt hw_6 kd_93 rfl) rfl rfl dX6_speak_12 (fun h_7 e_8 => ?_)
  have f := f h_7 e_8
  have hw_9 := wf_si e_8 hw_6
  refine ab_aload_n C 0 dX6_speak_15 rfl rfl ?_
  refine ab_iconst C (v := (0 : Int32)) dX6_speak_16 (by decide) ?_
  refine ab_putI C fl_X6_25 rfl kd_93 (wf_lt hw_9 kd_93 rfl) rfl rfl dX6_speak_17 (fun h_10 e_11 => ?_)
  have f := f h_10 e_11
  have hw_12 := wf_si e_11 hw_9
  refine ab_aload_n C 0 dX6_speak_20 rfl rfl ?_
  refine ab_iconst C (v := (0 : Int32)) dX6_speak_21 (by decide) ?_
  refine ab_putI C fl_X6_28 rfl kd_93 (wf_lt hw_12 kd_93 rfl) rfl rfl dX6_speak_22 (fun h_13 e_14 => ?_)
  have f := f h_13 e_14
  have hw_15 := wf_si e_14 hw_12
  refine ab_aload_n C 0 dX6_speak_25 rfl rfl ?_
  refine ab_aload_n C 0 dX6_speak_26 rfl rfl ?_
  refine ab_getI C fl_X6_15 rfl kd_93 (wf_lt hw_15 kd_93 rfl) dX6_speak_27 ?_
  refine ab_iload C 4 dX6_speak_30 rfl ?_
  refine ab_iload C 5 dX6_speak_32 rfl ?_
  refine ab_iconst C (v := (0 : Int32)) dX6_speak_34 (by decide) ?_
  refine ab_callV C (k := 0) (n := 0) (rest := []) [.int (hp_i h_13 93 0), .int x4, .int x5, .int (0 : Int32)] cl_X6_32 ((mr_X6 l G 40).1 (hp_i h_13 93 0) x4 x5 (0 : Int32) h_13 _ hw_15 f) rfl (by decide) kd_93 (wf_lt hw_15 kd_93 rfl) ⟨rfl, rfl, Nat.le_of_ble_eq_true rfl, Nat.le_of_ble_eq_true rfl, Nat.zero_le _, Nat.zero_le _⟩ rfl rfl (Nat.le_of_ble_eq_true rfl) dX6_speak_35 (ab_kh (k := 0) (n := 0) (fun v_16 h_17 hw_18 f => ?_))
  exact ab_iret C dX6_speak_38 ⟨hw_18, _, rfl, f⟩
