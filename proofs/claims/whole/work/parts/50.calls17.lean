/-! ===== PURE: the calls: sheets moved, rosters ===== -/
theorem lg_gt {x y : Int64} : (0 < lg_cmp x y) = ¬ x ≤ y := by
  unfold lg_cmp
  simp only [gt_iff_lt, Int64.lt_iff_toInt_lt, Int64.le_iff_toInt_le, ← Int64.toInt_inj]
  by_cases h1 : y.toInt < x.toInt
  · simp [h1]
  · by_cases h2 : x.toInt = y.toInt
    · simp [h2]
    · simp [h1, h2]
theorem lsm32 {i n z : Int32} : (i.toInt64 + n.toInt64 ≤ z.toInt64) = (i.toInt + n.toInt ≤ z.toInt) := by
  have a1 := Int32.toInt_lt i
  have a2 := Int32.le_toInt i
  have b1 := Int32.toInt_lt n
  have b2 := Int32.le_toInt n
  rw [Int64.le_iff_toInt_le, Int64.toInt_add, Int32.toInt_toInt64, Int32.toInt_toInt64, Int32.toInt_toInt64, Int.bmod_def]
  apply propext
  omega
abbrev OKm (i n : Int32) (L : Nat) : Prop := 0 ≤ i.toInt ∧ 0 ≤ n.toInt ∧ i.toInt + n.toInt ≤ (L : Int)
theorem w_holds {a L : Nat} {i n : Int32} {h : hp_T} {Q : Int32 → Prop} (e : hp_i h a 1 = nI L) (hL : L ≤ 24) (q1 : OKm i n L → Q 1) (q0 : ¬ OKm i n L → Q 0) : wp_X1_holds a i n h Q := by
  have e0 : (0 : Int32).toInt = 0 := rfl
  have eL : (nI L).toInt = L := i_nI (by omega)
  have b1 := Int32.toInt_lt n
  unfold wp_X1_holds
  rw [e]
  refine ⟨fun z => q0 ?_, fun z => ⟨fun z2 => q0 ?_, fun z2 => ⟨fun z3 => q0 ?_, fun z3 => ⟨fun z4 => q0 ?_, fun z4 => q1 ?_⟩⟩⟩⟩
  · rw [i_lt] at z; unfold OKm; omega
  · rw [i_lt] at z2; unfold OKm; omega
  · rw [i_lt] at z z2 z3; unfold OKm; omega
  · rw [i_lt] at z z2 z3
    rw [i_lt, i_sub (by omega) (by omega)] at z4
    unfold OKm; omega
  · rw [i_lt] at z z2 z3
    rw [i_lt, i_sub (by omega) (by omega)] at z4
    unfold OKm; omega
theorem x_standing {t L : Nat} {i n : Int32} {h : hp_T} {Q : Int32 → Prop} (ht : t < 4) (e : hp_i h 114 t = nI L) (hL : L ≤ 24) (hn : 0 ≤ n.toInt) (q1 : OKm i n L → Q 1) (q0 : ¬ OKm i n L → Q 0) : wp_X8_isStanding (nI t) i n h Q := by
  have e0 : (0 : Int32).toInt = 0 := rfl
  have eL : (nI L).toInt = L := i_nI (by omega)
  unfold wp_X8_isStanding
  rw [nI_clamp (n := t) (by omega), e, lg_gt, lsm32, eL]
  refine ⟨fun z => q0 ?_, fun z => ⟨vp_in_nI ht (by decide), fun z2 => q0 ?_, fun z2 => q1 ?_⟩⟩
  · rw [i_lt] at z; unfold OKm; omega
  · rw [i_lt] at z; unfold OKm; omega
  · rw [i_lt] at z; unfold OKm; omega
theorem OKm_nat {i n : Int32} {L : Nat} (hL : L ≤ 24) (k : OKm i n L) : ∃ a m, i = nI a ∧ n = nI m ∧ a + m ≤ L := by
  obtain ⟨k1, k2, k3⟩ := k
  refine ⟨i.toInt.toNat, n.toInt.toNat, ?_, ?_, by omega⟩
  · rw [i_eq, i_nI (by omega)]; omega
  · rw [i_eq, i_nI (by omega)]; omega
theorem ix_sh3 {s i k : Nat} : (24 : Int32) * nI s + nI i + nI k = nI (24 * s + i + k) := by rw [ix_sh, nI_add]
theorem cp_o {h : hp_T} {a i b j n c k : Nat} (hc : c ≠ b) : hp_i (hp_cp h a i b j n) c k = hp_i h c k := by rw [hp_i_cp, if_neg hc]
theorem m_move2 {s a t b n : Nat} {Q : Int32 → hp_T → Prop} (ht : t < 4) (hb : b + n ≤ 24) : ∀ (r k nn : Nat) (h : hp_T), k + r = n → r < nn → (∀ h1, fr (fun c _ => c = 115) h h1 → (∀ w, hp_i h1 115 w = if 24 * t + b + k ≤ w ∧ w < 24 * t + b + n then hp_i h 116 (w - (24 * t + b)) else hp_i h 115 w) → Q (nI n) h1) → wp_X8_move_L144 (nI s) (nI a) (nI t) (nI b) (nI n) Q nn (nI k) h := by
  intro r
  induction r with
  | zero =>
    intro k nn h hk hn hq
    obtain ⟨nn, rfl⟩ : ∃ m, nn = m + 1 := ⟨nn - 1, by omega⟩
    unfold wp_X8_move_L144
    have : k = n := by omega
    subst this
    exact ⟨fun _ => hq h fr.refl (fun w => (if_neg (by omega)).symm), fun z => absurd (nI_le (Nat.le_refl _) (by omega)) z⟩
  | succ r ih =>
    intro k nn h hk hn hq
    obtain ⟨nn, rfl⟩ : ∃ m, nn = m + 1 := ⟨nn - 1, by omega⟩
    unfold wp_X8_move_L144
    rw [ix_sh3, nI_clamp (n := 24 * t + b + k) (by omega), nI_clamp (n := k) (by omega), show nI k + 1 = nI (k + 1) from nI_1 k]
    refine ⟨fun z => absurd z (nI_ge (by omega) (by omega)), fun _ => ⟨vp_in_nI (by omega) (by decide), vp_in_nI (by omega) (by decide), ?_⟩⟩
    rintro h1 rfl
    refine ih (k + 1) nn _ (by omega) (by omega) ?_
    intro h2 f2 e2
    refine hq h2 ((fr_si (P := fun c _ => c = 115) rfl).trans f2) (fun w => ?_)
    rw [e2 w, hp_i_si, hp_i_si, if_neg (show ¬ (116 = 115 ∧ _) by omega)]
    by_cases g : w = 24 * t + b + k
    · subst g
      rw [if_neg (by omega), if_pos ⟨rfl, rfl⟩, if_pos (by omega)]
      congr 1; omega
    · rw [if_neg (show ¬ (115 = 115 ∧ w = 24 * t + b + k) from fun z => g z.2)]
      by_cases g2 : 24 * t + b + (k + 1) ≤ w ∧ w < 24 * t + b + n
      · rw [if_pos g2, if_pos (by omega)]
      · rw [if_neg g2, if_neg (by omega)]
theorem m_move1 {s a t b n : Nat} {Q : Int32 → hp_T → Prop} (hs : s < 4) (ha : a + n ≤ 24) : ∀ (r k nn : Nat) (h : hp_T), k + r = n → r < nn → (∀ h1, fr (fun c _ => c = 116) h h1 → (∀ w, k ≤ w → w < n → hp_i h1 116 w = hp_i h 115 (24 * s + a + w)) → (∀ w, w < k → hp_i h1 116 w = hp_i h 116 w) → ∃ n0, wp_X8_move_L144 (nI s) (nI a) (nI t) (nI b) (nI n) Q n0 0 h1) → wp_X8_move_L107 (nI s) (nI a) (nI t) (nI b) (nI n) Q nn (nI k) h := by
  intro r
  induction r with
  | zero =>
    intro k nn h hk hn hq
    obtain ⟨nn, rfl⟩ : ∃ m, nn = m + 1 := ⟨nn - 1, by omega⟩
    unfold wp_X8_move_L107
    have : k = n := by omega
    subst this
    exact ⟨fun _ => hq h fr.refl (fun w h1 h2 => by omega) (fun _ _ => rfl), fun z => absurd (nI_le (Nat.le_refl _) (by omega)) z⟩
  | succ r ih =>
    intro k nn h hk hn hq
    obtain ⟨nn, rfl⟩ : ∃ m, nn = m + 1 := ⟨nn - 1, by omega⟩
    unfold wp_X8_move_L107
    rw [ix_sh3, nI_clamp (n := 24 * s + a + k) (by omega), nI_clamp (n := k) (by omega), show nI k + 1 = nI (k + 1) from nI_1 k]
    refine ⟨fun z => absurd z (nI_ge (by omega) (by omega)), fun _ => ⟨vp_in_nI (by omega) (by decide), vp_in_nI (by omega) (by decide), ?_⟩⟩
    rintro h1 rfl
    refine ih (k + 1) nn _ (by omega) (by omega) ?_
    intro h2 f2 e2 o2
    refine hq h2 ((fr_si (P := fun c _ => c = 116) rfl).trans f2) (fun w g1 g2 => ?_) (fun w g => ?_)
    · by_cases g : w = k
      · subst g
        rw [o2 w (by omega), hp_i_si, if_pos ⟨rfl, rfl⟩]
      · rw [e2 w (by omega) g2, hp_i_si, if_neg (by omega)]
    · rw [o2 w (by omega), hp_i_si, if_neg (by omega)]
theorem c_move {x i y j n : Int32} {h : hp_T} (I : Inv h) : wp_X7_move x i y j n h (fun r1 h1 => wp_X8_move x i y j n h1 (fun r2 h2 => r1 = r2 ∧ Inv h2)) := by
  unfold wp_X7_move
  simp only [w_isSheet, bi_0, er1, er2, er5]
  refine ⟨fun z => ?_, fun z => ⟨fun z2 => ?_, fun z2 => ?_⟩⟩
  · unfold wp_X8_move
    simp only [x_isSheet, bi_0]
    exact ⟨fun _ => f1 I, fun w => absurd z w⟩
  · unfold wp_X8_move
    simp only [x_isSheet, bi_0]
    exact ⟨fun w => absurd w z, fun _ => ⟨fun _ => f1 I, fun w => absurd z2 w⟩⟩
  obtain ⟨s, hs, rfl⟩ := nat_of (n := 3) (Classical.not_not.mp z) rfl
  obtain ⟨t, ht, rfl⟩ := nat_of (n := 3) (Classical.not_not.mp z2) rfl
  have s4 : s < 4 := by omega
  have t4 : t < 4 := by omega
  have vs : vp_in (nI s) 4 := vp_in_nI s4 (by decide)
  have vt : vp_in (nI t) 4 := vp_in_nI t4 (by decide)
  have cs : (nI s).toNatClampNeg = s := nI_clamp (by omega)
  have ct : (nI t).toNatClampNeg = t := nI_clamp (by omega)
  obtain ⟨a1, a2, a3, a4⟩ := I.su s s4
  obtain ⟨b1, b2, b3, b4⟩ := I.su t t4
  obtain ⟨L, hL, eL⟩ := rg_nI 24 a3 rfl (by decide)
  obtain ⟨M, hM, eM⟩ := rg_nI 24 b3 rfl (by decide)
  have ref : ∀ (h' : hp_T) (Q : Int32 → hp_T → Prop), hp_i h' 113 = hp_i h 113 → hp_i h' 114 = hp_i h 114 → (hp_i h 113 s = 0 → wp_X8_errs (-1000000002) h' Q) → (hp_i h 113 t = 0 → wp_X8_errs (-1000000002) h' Q) → (¬ hp_i h 113 s = 0 → ¬ hp_i h 113 t = 0 → ¬ hp_i h 113 s = hp_i h 113 t → wp_X8_errs (-1000000005) h' Q) → (¬ hp_i h 113 s = 0 → ¬ hp_i h 113 t = 0 → hp_i h 113 s = hp_i h 113 t → ¬ (OKm i n L ∧ OKm j n M) → wp_X8_errs (-1000000001) h' Q) → (¬ hp_i h 113 s = 0 → ¬ hp_i h 113 t = 0 → hp_i h 113 s = hp_i h 113 t → OKm i n L → OKm j n M → ∃ n0, wp_X8_move_L107 (nI s) i (nI t) j n Q n0 0 h') → wp_X8_move (nI s) i (nI t) j n h' Q := by
    intro h' Q r3 r4 q1 q2 q3 q4 q5
    have e0 : (0 : Int32).toInt = 0 := rfl
    unfold wp_X8_move
    simp only [x_isSheet, bi_0]
    rw [cs, ct, r3]
    refine ⟨fun w => absurd w z, fun _ => ⟨fun w => absurd w z2, fun _ => ⟨vs, q1, fun g1 => ⟨vt, q2, fun g2 => ⟨vs, vt, fun g3 => ⟨fun g4 => ?_, fun g4 => ?_⟩, fun g3 => q3 g1 g2 g3⟩⟩⟩⟩⟩
    · rw [i_lt] at g4
      exact q4 g1 g2 g3 (fun w => by have := w.1.2.1; omega)
    · rw [i_lt] at g4
      refine x_standing s4 (by rw [r4, eL]) hL (by omega) (fun k1 => ⟨fun w => absurd w (by decide), fun _ => ?_⟩) (fun k1 => ⟨fun _ => q4 g1 g2 g3 (fun w => k1 w.1), fun w => absurd rfl w⟩)
      exact x_standing t4 (by rw [r4, eM]) hM (by omega) (fun k2 => ⟨fun w => absurd w (by decide), fun _ => q5 g1 g2 g3 k1 k2⟩) (fun k2 => ⟨fun _ => q4 g1 g2 g3 (fun w => k2 w.2), fun w => absurd rfl w⟩)
  have R3 : ∀ k, hp_i (er h k) 113 = hp_i h 113 := fun k => er_row (by decide)
  have R4 : ∀ k, hp_i (er h k) 114 = hp_i h 114 := fun k => er_row (by decide)
  unfold wp_X1_isMissing
  rw [cs, ct, a1, b1]
  refine ⟨vs, vt, fun e => ⟨fun w => absurd w (by decide), fun _ => ?_⟩, fun e => ⟨fun _ => ⟨fun e' => ⟨fun w => absurd w (by decide), fun _ => ?_⟩, fun e' => ⟨fun _ => ⟨fun g => ?_, fun g => ?_⟩, fun w => absurd rfl w⟩⟩, fun w => absurd rfl w⟩⟩
  · exact ref _ _ (R3 _) (R4 _) (fun _ => f2 I) (fun _ => f2 I) (fun w => absurd e w) (fun w => absurd e w) (fun w => absurd e w)
  · exact ref _ _ (R3 _) (R4 _) (fun _ => f2 I) (fun _ => f2 I) (fun _ w => absurd e' w) (fun _ w => absurd e' w) (fun _ w => absurd e' w)
  · have bad : ¬ (OKm i n L ∧ OKm j n M) → wp_X8_move (nI s) i (nI t) j n (er h 0) (fun r2 h2 => (-1000000001 : Int32) = r2 ∧ Inv h2) := fun k => ref _ _ (R3 _) (R4 _) (fun w => absurd w e) (fun w => absurd w e') (fun _ _ w => absurd g w) (fun _ _ _ _ => f1 I) (fun _ _ _ k1 k2 => absurd ⟨k1, k2⟩ k)
    refine w_holds (by rw [a2, eL]) hL (fun k1 => ⟨fun w => absurd w (by decide), fun _ => ?_⟩) (fun k1 => ⟨fun _ => bad (fun w => k1 w.1), fun w => absurd rfl w⟩)
    refine w_holds (by rw [b2, eM]) hM (fun k2 => ⟨fun w => absurd w (by decide), fun _ => ?_⟩) (fun k2 => ⟨fun _ => bad (fun w => k2 w.2), fun w => absurd rfl w⟩)
    obtain ⟨a, m, rfl, rfl, hm⟩ := OKm_nat hL k1
    obtain ⟨b, m', rfl, em, hm'⟩ := OKm_nat hM k2
    have : m = m' := (nI_eq (by omega) (by omega)).mp em
    subst this
    have ca : (nI a).toNatClampNeg = a := nI_clamp (by omega)
    have cb : (nI b).toNatClampNeg = b := nI_clamp (by omega)
    have cm' : (nI m).toNatClampNeg = m := nI_clamp (by omega)
    rw [ca, cb, cm']
    refine ⟨?_, ?_⟩
    · unfold cp_ok
      rw [ca, cb, cm']
      exact ⟨nI_pos (by omega), nI_pos (by omega), nI_pos (by omega), by omega, by omega⟩
    rintro h1 rfl
    refine ref _ _ ?_ ?_ (fun w => absurd w e) (fun w => absurd w e') (fun _ _ w => absurd g w) (fun _ _ _ w => absurd ⟨k1, k2⟩ w) (fun _ _ _ _ _ => ?_)
    · funext w; exact cp_o (by omega)
    · funext w; exact cp_o (by omega)
    refine ⟨m + 1, m_move1 s4 (by omega) m 0 (m + 1) _ (by omega) (by omega) ?_⟩
    intro h2 fa ea _
    refine ⟨m + 1, m_move2 t4 (by omega) m 0 (m + 1) _ (by omega) (by omega) ?_⟩
    intro h3 fb eb
    refine ⟨rfl, Inv_sh I (((fr_cp (P := Psh) (fun _ => Or.inl (by omega))).trans (fa.mono fun c k z => Or.inr (by have z : c = 116 := z; omega))).trans (fb.mono fun c k z => Or.inr (by have z : c = 115 := z; omega))) ?_⟩
    have o : ∀ c w, c ≠ 97 + 2 * t + 1 → c ≠ 116 → c ≠ 115 → hp_i h3 c w = hp_i h c w := fun c w g1 g2 g3 => by
      rw [fb.2 c w (fun z => g3 z), fa.2 c w (fun z => g2 z), cp_o g1]
    intro u hu
    obtain ⟨s1, s2, s3, s4'⟩ := I.su u hu
    rw [o (97 + 2 * u) 0 (by omega) (by omega) (by omega), o (97 + 2 * u) 1 (by omega) (by omega) (by omega), o 113 _ (by omega) (by omega) (by omega), o 114 _ (by omega) (by omega) (by omega)]
    refine ⟨s1, s2, s3, fun k hk => ?_⟩
    have r115 : ∀ w, hp_i h2 115 w = hp_i h 115 w := fun w => by rw [fa.2 115 w (by omega), cp_o (by omega)]
    rw [eb, fb.2 _ _ (show ¬ 97 + 2 * u + 1 = 115 by omega), fa.2 _ _ (show ¬ 97 + 2 * u + 1 = 116 by omega), r115]
    by_cases gu : u = t
    · subst gu
      rw [hp_i_cp, if_pos rfl]
      by_cases gk : b ≤ k ∧ k < b + m
      · rw [pk_cpy_in gk.1 gk.2, if_pos (by omega), ea _ (by omega) (by omega), cp_o (by omega), a4 _ (by omega)]
        congr 1; omega
      · rw [pk_cpy_out (by omega), if_neg (by omega)]
        exact s4' k hk
    · rw [cp_o (by omega), if_neg (by omega)]
      exact s4' k hk
  · exact ref _ _ (R3 _) (R4 _) (fun w => absurd w e) (fun w => absurd w e') (fun _ _ _ => f5 I) (fun _ _ w => absurd w g) (fun _ _ w => absurd w g)
