/-! ===== PURE: the calls: image, restore ===== -/
abbrev P107 : Nat → Nat → Prop := fun a _ => a = 107
theorem m_image_L {Q : Int32 → hp_T → Prop} {h0 : hp_T} (hq : ∀ h1, fr (fun a j => a = 107 ∨ (a = 105 ∧ j = 4)) h0 h1 → hp_i h1 107 = cpy 357 (hp_i h0 106) (hp_i h0 107) → hp_i h1 105 4 = hp_i h0 105 4 + 1 → Q (hp_i h0 105 4 + 1) h1) : ∀ (r i nn : Nat) (h : hp_T), i + r = 357 → r < nn → fr P107 h0 h → hp_i h 107 = cpy i (hp_i h0 106) (hp_i h0 107) → wp_X8_image_L2 Q nn (nI i) h := by
  intro r
  induction r with
  | zero =>
    intro i nn h hi hn f e
    obtain ⟨nn, rfl⟩ : ∃ m, nn = m + 1 := ⟨nn - 1, by omega⟩
    unfold wp_X8_image_L2
    have : i = 357 := by omega
    subst this
    refine ⟨fun _ => ?_, fun z => absurd (by decide) z⟩
    rintro h1 rfl
    have e4 : hp_i h 105 4 = hp_i h0 105 4 := f.2 105 4 (show ¬ (105 : Nat) = 107 by decide)
    rw [hp_i_si, if_pos ⟨rfl, rfl⟩, e4]
    refine hq _ ((f.mono fun a j z => Or.inl z).si (Or.inr ⟨rfl, rfl⟩)) ?_ ?_
    · rw [si_row_ne (by decide)]; exact e
    · rw [hp_i_si, if_pos ⟨rfl, rfl⟩]
  | succ r ih =>
    intro i nn h hi hn f e
    obtain ⟨nn, rfl⟩ : ∃ m, nn = m + 1 := ⟨nn - 1, by omega⟩
    unfold wp_X8_image_L2
    refine ⟨fun z => absurd z (nI_ge (b := 357) (by omega) (by decide)), fun _ => ⟨vp_in_nI (by omega) (by decide), vp_in_nI (by omega) (by decide), ?_⟩⟩
    rintro h1 rfl
    rw [show nI i + 1 = nI (i + 1) from nI_1 i, nI_clamp (n := i) (by omega)]
    refine ih (i + 1) nn _ (by omega) (by omega) (f.si rfl) ?_
    rw [si_row, e, f.2 106 i (show ¬ (106 : Nat) = 107 by decide)]
    funext j
    unfold ss cpy
    by_cases e1 : j = i
    · subst e1
      rw [if_pos rfl, if_pos (by omega)]
    · rw [if_neg e1]
      by_cases e2 : j < i
      · rw [if_pos e2, if_pos (by omega)]
      · rw [if_neg e2, if_neg (by omega)]
theorem m_restore_L {Q : Int32 → hp_T → Prop} {h0 : hp_T} (hq : ∀ h1, fr P106 h0 h1 → hp_i h1 106 = cpy 357 (hp_i h0 107) (hp_i h0 106) → Q (hp_i h1 106 3) h1) : ∀ (r i nn : Nat) (h : hp_T), i + r = 357 → r < nn → fr P106 h0 h → hp_i h 106 = cpy i (hp_i h0 107) (hp_i h0 106) → wp_X8_restore_L17 Q nn (nI i) h := by
  intro r
  induction r with
  | zero =>
    intro i nn h hi hn f e
    obtain ⟨nn, rfl⟩ : ∃ m, nn = m + 1 := ⟨nn - 1, by omega⟩
    unfold wp_X8_restore_L17
    have : i = 357 := by omega
    subst this
    exact ⟨fun _ => hq h f e, fun z => absurd (by decide) z⟩
  | succ r ih =>
    intro i nn h hi hn f e
    obtain ⟨nn, rfl⟩ : ∃ m, nn = m + 1 := ⟨nn - 1, by omega⟩
    unfold wp_X8_restore_L17
    refine ⟨fun z => absurd z (nI_ge (b := 357) (by omega) (by decide)), fun _ => ⟨vp_in_nI (by omega) (by decide), vp_in_nI (by omega) (by decide), ?_⟩⟩
    rintro h1 rfl
    rw [show nI i + 1 = nI (i + 1) from nI_1 i, nI_clamp (n := i) (by omega)]
    refine ih (i + 1) nn _ (by omega) (by omega) (f.si rfl) ?_
    rw [si_row, e, f.2 107 i (show ¬ (107 : Nat) = 106 by decide)]
    funext j
    unfold ss cpy
    by_cases e1 : j = i
    · subst e1
      rw [if_pos rfl, if_pos (by omega)]
    · rw [if_neg e1]
      by_cases e2 : j < i
      · rw [if_pos e2, if_pos (by omega)]
      · rw [if_neg e2, if_neg (by omega)]
theorem c_image {h : hp_T} (I : Inv h) : wp_X7_image h (fun r1 h1 => wp_X8_image h1 (fun r2 h2 => r1 = r2 ∧ Inv h2)) := by
  have V := I.V
  have hw := I.n
  have c6 := cr6 V.1
  unfold wp_X7_image
  refine w_copyFrom (p := 31) (q := 1) (by unfold okP; omega) (by decide) (by decide) hw V I.R ?_
  intro h1 n1 e1 R1
  rintro h2 rfl
  have e07 : hp_i h1 0 7 = hp_i h 0 7 := e1.2.2.2 0 7 (by omega) (fun z => by rcases z with z | z <;> omega)
  rw [hp_i_si, if_pos ⟨rfl, rfl⟩, e07]
  have n2 : hp_n (hp_si h1 0 7 (hp_i h 0 7 + 1)) = hp_n h := n1
  have R2 : Rl (hp_si h1 0 7 (hp_i h 0 7 + 1)) 31 (hp_i h 106) := R1.ex (P := fun a j => a = 0) (Rf := fun _ _ => False) (by decide) (by omega) (fr_si (P := fun a j => a = 0) rfl).ex (fun a j z => by omega) (fun a j z => by
    have z : a = 0 := z
    subst z
    decide) (fun _ _ z => absurd z id)
  have e2 : ex (fun a j => PC 31 (cr (hp_i h 106)) a j ∨ (a = 0 ∧ j = 7)) (P6 31) h (hp_si h1 0 7 (hp_i h 0 7 + 1)) := (e1.mono (fun a j z => Or.inl z) (fun _ _ z => z)).si (Or.inr ⟨rfl, rfl⟩)
  have i07 : hp_i (hp_si h1 0 7 (hp_i h 0 7 + 1)) 0 7 = hp_i h 0 7 + 1 := by rw [hp_i_si, if_pos ⟨rfl, rfl⟩]
  generalize hp_si h1 0 7 (hp_i h 0 7 + 1) = h2 at n2 R2 e2 i07 ⊢
  have o : ∀ a j, (PC 31 (cr (hp_i h 106)) a j ∨ (a = 0 ∧ j = 7)) → (31 ≤ a ∧ a < 61) ∨ (a = 0 ∧ j = 7) := fun a j z => by
    rcases z with (z | z) | z
    · exact Or.inl (by omega)
    · exact Or.inl (by omega)
    · exact Or.inr z
  have e6 : hp_i h2 106 = hp_i h 106 := e2.row (by omega) (fun j z => by have := o _ _ z; omega)
  have e7 : hp_i h2 107 = hp_i h 107 := e2.row (by omega) (fun j z => by have := o _ _ z; omega)
  have e54 : hp_i h2 105 4 = hp_i h 105 4 := e2.2.2.2 105 4 (by omega) (fun z => by have := o _ _ z; omega)
  refine ⟨358, m_image_L ?_ 357 0 358 h2 rfl (by decide) fr.refl (by funext j; exact (if_neg (by omega)).symm)⟩
  intro h3 f3 e37 e34
  rw [e6, e7, cpy_z (fun j hj => ⟨(I.zr j hj).1, (I.zr j hj).2.1⟩)] at e37
  rw [e54] at e34
  have e : ex (fun a j => (31 ≤ a ∧ a < 61) ∨ (a = 0 ∧ j = 7) ∨ a = 107 ∨ (a = 105 ∧ j = 4)) (P6 31) h h3 := (e2.mono (fun a j z => by have := o a j z; omega) (fun _ _ z => z)).trans (f3.ex.mono (fun a j z => Or.inr (Or.inr z)) (fun _ _ z => z))
  have hR : ∀ a j, P6 31 a j → a ≠ 7 ∧ ab_k a ≠ 4 := fun a j z => by
    have z : a = 31 + 6 := z
    subst z
    exact ⟨by decide, by decide⟩
  refine ⟨by rw [e54, ← I.im.1], wf_ex e (fun a j z => by
    have z : a = 31 + 6 := z
    subst z
    exact (sr7 j).2.1) I.w, by rw [f3.n, n2]; exact I.2.1, I.2.2.1.ex hw e (fun a j z => ⟨by omega, by omega, lt117_16 (by omega)⟩) hR, ⟨?_, fun _ => ?_⟩, I.e.ex hw e (fun a j z => by omega), I.tr.ex hw e (fun a j z => by omega), I.su.ex hw e (fun a j z => by omega), fun j hj => ⟨?_, ?_, ?_⟩⟩
  · rw [f3.2 0 7 (by omega), i07, e34, I.im.1]
  · rw [e37]
    exact ⟨V, R2.ex (P := fun a j => a = 107 ∨ (a = 105 ∧ j = 4)) (Rf := fun _ _ => False) (by decide) (by omega) f3.ex (fun a j z => by omega) (fun a j z => lt117_16 (by omega)) (fun _ _ z => absurd z id)⟩
  · rw [e.2.2.2 106 j (by omega) (by omega)]; exact (I.zr j hj).1
  · rw [e37]; exact (I.zr j hj).1
  · rw [e.2.2.2 108 j (by omega) (by omega)]; exact (I.zr j hj).2.2
theorem c_restore {h : hp_T} (I : Inv h) : wp_X7_restore h (fun r1 h1 => wp_X8_restore h1 (fun r2 h2 => r1 = r2 ∧ Inv h2)) := by
  have hw := I.n
  unfold wp_X7_restore
  rw [I.im.1, er2]
  refine ⟨fun z => ?_, fun z => ?_⟩
  · show wp_X8_restore (er h 1) (fun r2 h2 => (-1000000002 : Int32) = r2 ∧ Inv h2)
    unfold wp_X8_restore
    rw [er_i (by decide)]
    exact ⟨fun _ => f2 I, fun w => absurd z w⟩
  obtain ⟨V, R⟩ := I.im.2 z
  have c6 := cr6 V.1
  refine w_copyFrom (p := 1) (q := 31) (by unfold okP; omega) (by decide) (by decide) hw V R ?_
  intro h1 n1 e1 R1
  have o : ∀ a j, PC 1 (cr (hp_i h 107)) a j → (1 ≤ a ∧ a < 31) := fun a j z => by rcases z with z | z <;> omega
  have e6 : hp_i h1 106 = hp_i h 106 := e1.row (by omega) (fun j z => by have := o _ _ z; omega)
  have e7 : hp_i h1 107 = hp_i h 107 := e1.row (by omega) (fun j z => by have := o _ _ z; omega)
  have e54 : hp_i h1 105 4 = hp_i h 105 4 := e1.2.2.2 105 4 (by omega) (fun z => by have := o _ _ z; omega)
  show wp_X8_restore h1 (fun r2 h2 => hp_i h1 1 8 = r2 ∧ Inv h2)
  unfold wp_X8_restore
  rw [e54]
  refine ⟨fun w => absurd w z, fun _ => ⟨358, m_restore_L ?_ 357 0 358 h1 rfl (by decide) fr.refl (by funext j; exact (if_neg (by omega)).symm)⟩⟩
  intro h2 f2 e2
  rw [e6, e7, cpy_z (fun j hj => ⟨(I.zr j hj).2.1, (I.zr j hj).1⟩)] at e2
  have e : ex PG RG h h2 := (e1.mono (fun a j z => Or.inl (o a j z)) (fun a j z => Or.inl z)).trans (f2.ex.mono (fun a j z => Or.inr (Or.inr (Or.inr (Or.inl z)))) (fun _ _ z => z))
  refine ⟨by rw [R1.i.day, e2], I.gen e (by rw [f2.n, n1]; exact I.2.1) ⟨by rw [e2]; exact V, ?_, fun b hb => ?_⟩ ?_ (fun j hj => ⟨by rw [e2]; exact (I.zr j hj).2.1, ?_⟩)⟩
  · rw [e2]
    exact R1.ex (P := P106) (Rf := fun _ _ => False) (by decide) (by omega) f2.ex (fun a j z => by have z : a = 106 := z; omega) (fun a j z => by
      have z : a = 106 := z
      subst z
      decide) (fun _ _ z => absurd z id)
  · rw [f2.2 _ _ (show ¬ 1 + 8 + 3 * b = 106 by omega)]
    by_cases g : b < cr (hp_i h 107)
    · rw [R1.i.bk 3 g hb (by decide)]
      exact (V.2.2.2.2.2.2.2.1 b g).2.2.1
    · rw [e1.2.2.2 _ _ (by omega) (fun z => by rcases z with z | z <;> omega)]
      exact I.K b hb
  · intro k hk
    rw [f2.2 96 _ (show ¬ (96 : Nat) = 106 by decide), f2.2 109 _ (show ¬ (109 : Nat) = 106 by decide), e1.2.2.2 96 _ (by omega) (fun z => by have := o _ _ z; omega), e1.2.2.2 109 _ (by omega) (fun z => by have := o _ _ z; omega)]
    exact I.e k hk
  · rw [f2.2 108 _ (show ¬ (108 : Nat) = 106 by decide), e1.2.2.2 108 _ (by omega) (fun z => by have := o _ _ z; omega)]
    exact (I.zr j hj).2.2
