/-! ===== PURE: the calls: image, restore ===== -/
abbrev P107 : Nat → Nat → Prop := fun a _ => a = 107
theorem m_image_L {Q : Int32 → hp_T → Prop} {h0 : hp_T} (hq : ∀ h1, fr (fun a j => a = 107 ∨ (a = 105 ∧ j = 4)) h0 h1 → hp_i h1 107 = cpy 357 (hp_i h0 106) (hp_i h0 107) → hp_i h1 105 4 = hp_i h0 105 4 + 1 → Q (hp_i h0 105 4 + 1) h1) : ∀ (r i nn : Nat) (h : hp_T), i + r = 357 → r < nn → fr P107 h0 h → hp_i h 107 = cpy i (hp_i h0 106) (hp_i h0 107) → wp_X8_image_L2 Q nn (nI i) h := by
  intro r
  induction r with
  | zero =>
    intro i nn h hi hn f e
    obtain ⟨nn, rfl⟩ : ∃ m, nn = m + 1 := ⟨nn - 1, by omega⟩
    unfold wp_X8_image_L2
    have : i = 357 := by omega
    subst this
    refine ⟨fun _ => ?_, fun z => absurd (by decide) z⟩
    rintro h1 rfl
    have e4 : hp_i h 105 4 = hp_i h0 105 4 := f.2 105 4 (show ¬ (105 : Nat) = 107 by decide)
    rw [hp_i_si, if_pos ⟨rfl, rfl⟩, e4]
    refine hq _ ((f.mono fun a j z => Or.inl z).si (Or.inr ⟨rfl, rfl⟩)) ?_ ?_
    · rw [si_row_ne (by decide)]; exact e
    · rw [hp_i_si, if_pos ⟨rfl, rfl⟩]
  | succ r ih =>
    intro i nn h hi hn f e
    obtain ⟨nn, rfl⟩ : ∃ m, nn = m + 1 := ⟨nn - 1, by omega⟩
    unfold wp_X8_image_L2
    refine ⟨fun z => absurd z (nI_ge (b := 357) (by omega) (by decide)), fun _ => ⟨vp_in_nI (by omega) (by decide), vp_in_nI (by omega) (by decide), ?_⟩⟩
    rintro h1 rfl
    rw [show nI i + 1 = nI (i + 1) from nI_1 i, nI_clamp (n := i) (by omega)]
    refine ih (i + 1) nn _ (by omega) (by omega) (f.si rfl) ?_
    rw [si_row, e, f.2 106 i (show ¬ (106 : Nat) = 107 by decide)]
    funext j
    unfold ss cpy
    by_cases e1 : j = i
    · subst e1
      rw [if_pos rfl, if_pos (by omega)]
    · rw [if_neg e1]
      by_cases e2 : j < i
      · rw [if_pos e2, if_pos (by omega)]
      · rw [if_neg e2, if_neg (by omega)]
theorem m_restore_L {Q : Int32 → hp_T → Prop} {h0 : hp_T} (hq : ∀ h1, fr P106 h0 h1 → hp_i h1 106 = cpy 357 (hp_i h0 107) (hp_i h0 106) → Q (hp_i h1 106 3) h1) : ∀ (r i nn : Nat) (h : hp_T), i + r = 357 → r < nn → fr P106 h0 h → hp_i h 106 = cpy i (hp_i h0 107) (hp_i h0 106) → wp_X8_restore_L17 Q nn (nI i) h := by
  intro r
  induction r with
  | zero =>
    intro i nn h hi hn f e
    obtain ⟨nn, rfl⟩ : ∃ m, nn = m + 1 := ⟨nn - 1, by omega⟩
    unfold wp_X8_restore_L17
    have : i = 357 := by omega
    subst this
    exact ⟨fun _ => hq h f e, fun z => absurd (by decide) z⟩
  | succ r ih =>
    intro i nn h hi hn f e
    obtain ⟨nn, rfl⟩ : ∃ m, nn = m + 1 := ⟨nn - 1, by omega⟩
    unfold wp_X8_restore_L17
    refine ⟨fun z => absurd z (nI_ge (b := 357) (by omega) (by decide)), fun _ => ⟨vp_in_nI (by omega) (by decide), vp_in_nI (by omega) (by decide), ?_⟩⟩
    rintro h1 rfl
    rw [show nI i + 1 = nI (i + 1) from nI_1 i, nI_clamp (n := i) (by omega)]
    refine ih (i + 1) nn _ (by omega) (by omega) (f.si rfl) ?_
    rw [si_row, e, f.2 107 i (show ¬ (107 : Nat) = 106 by decide)]
    funext j
    unfold ss cpy
    by_cases e1 : j = i
    · subst e1
      rw [if_pos rfl, if_pos (by omega)]
    · rw [if_neg e1]
      by_cases e2 : j < i
      · rw [if_pos e2, if_pos (by omega)]
      · rw [if_neg e2, if_neg (by omega)]
