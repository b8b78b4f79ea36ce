/-! ===== PURE: the calls: sheets laid, put, judged ===== -/
abbrev Psh : Nat → Nat → Prop := fun a _ => (97 ≤ a ∧ a < 105) ∨ (113 ≤ a ∧ a < 117)
theorem Inv_sh {h h2 : hp_T} (I : Inv h) (f : fr Psh h h2) (hs : Isu h2) : Inv h2 := by
  have hw := I.n
  have e : ex Psh (fun _ _ => False) h h2 := f.ex
  obtain ⟨i1, i2, i3, i4, i5, i6, i7, i8⟩ := I
  exact ⟨f.wf i1, by rw [f.n]; exact i2, i3.ex hw e (fun a j z => ⟨by omega, by omega, lt117_16 (by omega)⟩) (fun _ _ z => absurd z id), i4.ex hw e (fun a j z => ⟨by omega, by omega, lt117_16 (by omega), by omega, by omega⟩) (fun _ _ z => absurd z id), i5.ex hw e (fun a j z => by omega), i6.ex hw e (fun a j z => by omega), hs, i8.ex hw e (fun a j z => by omega)⟩
theorem w_lay_L {a : Nat} {x1 x2 : Int32} {Q : hp_T → Prop} : ∀ (r i nn : Nat) (h : hp_T), i + r = 24 → r < nn → (∀ h1, fr (fun c _ => c = a + 1) h h1 → (∀ j, hp_i h1 (a + 1) j = if i ≤ j ∧ j < 24 then 0 else hp_i h (a + 1) j) → Q h1) → wp_X1_lay_L12 a x1 x2 Q nn (nI i) h := by
  intro r
  induction r with
  | zero =>
    intro i nn h hi hn hq
    obtain ⟨nn, rfl⟩ : ∃ m, nn = m + 1 := ⟨nn - 1, by omega⟩
    unfold wp_X1_lay_L12
    have : i = 24 := by omega
    subst this
    exact ⟨fun _ => hq h fr.refl (fun j => (if_neg (by omega)).symm), fun z => absurd (by decide) z⟩
  | succ r ih =>
    intro i nn h hi hn hq
    obtain ⟨nn, rfl⟩ : ∃ m, nn = m + 1 := ⟨nn - 1, by omega⟩
    unfold wp_X1_lay_L12
    refine ⟨fun z => absurd z (nI_ge (b := 24) (by omega) (by decide)), fun _ => ⟨vp_in_nI (by omega) (by decide), ?_⟩⟩
    rintro h1 rfl
    rw [nI_clamp (n := i) (by omega), show nI i + 1 = nI (i + 1) from nI_1 i]
    refine ih (i + 1) nn _ (by omega) (by omega) ?_
    intro h2 f2 e2
    refine hq h2 ((fr_si (P := fun c _ => c = a + 1) rfl).trans f2) (fun j => ?_)
    rw [e2 j, hp_i_si]
    by_cases g : j = i
    · subst g
      rw [if_neg (show ¬ (j + 1 ≤ j ∧ j < 24) by omega), if_pos ⟨rfl, rfl⟩, if_pos (show j ≤ j ∧ j < 24 by omega)]
    · rw [if_neg (show ¬ (a + 1 = a + 1 ∧ j = i) from fun z => g z.2)]
      by_cases g2 : i + 1 ≤ j ∧ j < 24
      · rw [if_pos g2, if_pos (show i ≤ j ∧ j < 24 by omega)]
      · rw [if_neg g2, if_neg (show ¬ (i ≤ j ∧ j < 24) by omega)]
theorem w_lay {a : Nat} {x1 x2 : Int32} {h : hp_T} {Q : hp_T → Prop} (hq : ∀ h1, fr (fun c _ => c = a ∨ c = a + 1) h h1 → hp_i h1 a 0 = x1 → hp_i h1 a 1 = x2 → (∀ j, j < 24 → hp_i h1 (a + 1) j = 0) → Q h1) : wp_X1_lay a x1 x2 h Q := by
  unfold wp_X1_lay
  rintro h1 rfl
  rintro h2 rfl
  refine ⟨25, w_lay_L 24 0 25 _ rfl (by decide) ?_⟩
  intro h3 f3 e3
  refine hq h3 (((fr_si (P := fun c _ => c = a ∨ c = a + 1) (Or.inl rfl)).si (Or.inl rfl)).trans (f3.mono fun c j z => Or.inr z)) ?_ ?_ ?_
  · rw [f3.2 a 0 (by omega), hp_i_si, if_neg (by omega), hp_i_si, if_pos ⟨rfl, rfl⟩]
  · rw [f3.2 a 1 (by omega), hp_i_si, if_pos ⟨rfl, rfl⟩]
  · intro j hj
    rw [e3 j, if_pos ⟨Nat.zero_le j, hj⟩]
theorem m_lay_L {t : Nat} {x2 x3 : Int32} {Q : Int32 → hp_T → Prop} (ht : t < 4) : ∀ (r i nn : Nat) (h : hp_T), i + r = 24 → r < nn → (∀ h1, fr (fun c _ => c = 115) h h1 → (∀ j, hp_i h1 115 j = if 24 * t + i ≤ j ∧ j < 24 * t + 24 then 0 else hp_i h 115 j) → Q 1 h1) → wp_X8_sheet_L105 (nI t) x2 x3 Q nn (nI i) h := by
  intro r
  induction r with
  | zero =>
    intro i nn h hi hn hq
    obtain ⟨nn, rfl⟩ : ∃ m, nn = m + 1 := ⟨nn - 1, by omega⟩
    unfold wp_X8_sheet_L105
    have : i = 24 := by omega
    subst this
    exact ⟨fun _ => hq h fr.refl (fun j => (if_neg (by omega)).symm), fun z => absurd (by decide) z⟩
  | succ r ih =>
    intro i nn h hi hn hq
    obtain ⟨nn, rfl⟩ : ∃ m, nn = m + 1 := ⟨nn - 1, by omega⟩
    unfold wp_X8_sheet_L105
    have e : (24 : Int32) * nI t + nI i = nI (24 * t + i) := by rw [show (24 : Int32) = nI 24 from rfl, pk_mul, nI_add]
    rw [e, nI_clamp (n := 24 * t + i) (by omega), show nI i + 1 = nI (i + 1) from nI_1 i]
    refine ⟨fun z => absurd z (nI_ge (b := 24) (by omega) (by decide)), fun _ => ⟨vp_in_nI (by omega) (by decide), ?_⟩⟩
    rintro h1 rfl
    refine ih (i + 1) nn _ (by omega) (by omega) ?_
    intro h2 f2 e2
    refine hq h2 ((fr_si (P := fun c _ => c = 115) rfl).trans f2) (fun j => ?_)
    rw [e2 j, hp_i_si]
    by_cases g : j = 24 * t + i
    · subst g
      rw [if_neg (by omega), if_pos ⟨rfl, rfl⟩, if_pos (by omega)]
    · rw [if_neg (show ¬ (115 = 115 ∧ j = 24 * t + i) from fun z => g z.2)]
      by_cases g2 : 24 * t + (i + 1) ≤ j ∧ j < 24 * t + 24
      · rw [if_pos g2, if_pos (by omega)]
      · rw [if_neg g2, if_neg (by omega)]
