/-! ===== PURE: the calls: sheets laid, put, judged ===== -/
abbrev Psh : Nat → Nat → Prop := fun a _ => (97 ≤ a ∧ a < 105) ∨ (113 ≤ a ∧ a < 117)
theorem Inv_sh {h h2 : hp_T} (I : Inv h) (f : fr Psh h h2) (hs : Isu h2) : Inv h2 := by
  have hw := I.n
  have e : ex Psh (fun _ _ => False) h h2 := f.ex
  obtain ⟨i1, i2, i3, i4, i5, i6, i7, i8⟩ := I
  exact ⟨f.wf i1, by rw [f.n]; exact i2, i3.ex hw e (fun a j z => ⟨by omega, by omega, lt117_16 (by omega)⟩) (fun _ _ z => absurd z id), i4.ex hw e (fun a j z => ⟨by omega, by omega, lt117_16 (by omega), by omega, by omega⟩) (fun _ _ z => absurd z id), i5.ex hw e (fun a j z => by omega), i6.ex hw e (fun a j z => by omega), hs, i8.ex hw e (fun a j z => by omega)⟩
theorem w_lay_L {a : Nat} {x1 x2 : Int32} {Q : hp_T → Prop} : ∀ (r i nn : Nat) (h : hp_T), i + r = 24 → r < nn → (∀ h1, fr (fun c _ => c = a + 1) h h1 → (∀ j, hp_i h1 (a + 1) j = if i ≤ j ∧ j < 24 then 0 else hp_i h (a + 1) j) → Q h1) → wp_X1_lay_L12 a x1 x2 Q nn (nI i) h := by
  intro r
  induction r with
  | zero =>
    intro i nn h hi hn hq
    obtain ⟨nn, rfl⟩ : ∃ m, nn = m + 1 := ⟨nn - 1, by omega⟩
    unfold wp_X1_lay_L12
    have : i = 24 := by omega
    subst this
    exact ⟨fun _ => hq h fr.refl (fun j => (if_neg (by omega)).symm), fun z => absurd (by decide) z⟩
  | succ r ih =>
    intro i nn h hi hn hq
    obtain ⟨nn, rfl⟩ : ∃ m, nn = m + 1 := ⟨nn - 1, by omega⟩
    unfold wp_X1_lay_L12
    refine ⟨fun z => absurd z (nI_ge (b := 24) (by omega) (by decide)), fun _ => ⟨vp_in_nI (by omega) (by decide), ?_⟩⟩
    rintro h1 rfl
    rw [nI_clamp (n := i) (by omega), show nI i + 1 = nI (i + 1) from nI_1 i]
    refine ih (i + 1) nn _ (by omega) (by omega) ?_
    intro h2 f2 e2
    refine hq h2 ((fr_si (P := fun c _ => c = a + 1) rfl).trans f2) (fun j => ?_)
    rw [e2 j, hp_i_si]
    by_cases g : j = i
    · subst g
      rw [if_neg (show ¬ (j + 1 ≤ j ∧ j < 24) by omega), if_pos ⟨rfl, rfl⟩, if_pos (show j ≤ j ∧ j < 24 by omega)]
    · rw [if_neg (show ¬ (a + 1 = a + 1 ∧ j = i) from fun z => g z.2)]
      by_cases g2 : i + 1 ≤ j ∧ j < 24
      · rw [if_pos g2, if_pos (show i ≤ j ∧ j < 24 by omega)]
      · rw [if_neg g2, if_neg (show ¬ (i ≤ j ∧ j < 24) by omega)]
theorem w_lay {a : Nat} {x1 x2 : Int32} {h : hp_T} {Q : hp_T → Prop} (hq : ∀ h1, fr (fun c _ => c = a ∨ c = a + 1) h h1 → hp_i h1 a 0 = x1 → hp_i h1 a 1 = x2 → (∀ j, j < 24 → hp_i h1 (a + 1) j = 0) → Q h1) : wp_X1_lay a x1 x2 h Q := by
  unfold wp_X1_lay
  rintro h1 rfl
  rintro h2 rfl
  refine ⟨25, w_lay_L 24 0 25 _ rfl (by decide) ?_⟩
  intro h3 f3 e3
  refine hq h3 (((fr_si (P := fun c _ => c = a ∨ c = a + 1) (Or.inl rfl)).si (Or.inl rfl)).trans (f3.mono fun c j z => Or.inr z)) ?_ ?_ ?_
  · rw [f3.2 a 0 (by omega), hp_i_si, if_neg (by omega), hp_i_si, if_pos ⟨rfl, rfl⟩]
  · rw [f3.2 a 1 (by omega), hp_i_si, if_pos ⟨rfl, rfl⟩]
  · intro j hj
    rw [e3 j, if_pos ⟨Nat.zero_le j, hj⟩]
theorem m_lay_L {t : Nat} {x2 x3 : Int32} {Q : Int32 → hp_T → Prop} (ht : t < 4) : ∀ (r i nn : Nat) (h : hp_T), i + r = 24 → r < nn → (∀ h1, fr (fun c _ => c = 115) h h1 → (∀ j, hp_i h1 115 j = if 24 * t + i ≤ j ∧ j < 24 * t + 24 then 0 else hp_i h 115 j) → Q 1 h1) → wp_X8_sheet_L105 (nI t) x2 x3 Q nn (nI i) h := by
  intro r
  induction r with
  | zero =>
    intro i nn h hi hn hq
    obtain ⟨nn, rfl⟩ : ∃ m, nn = m + 1 := ⟨nn - 1, by omega⟩
    unfold wp_X8_sheet_L105
    have : i = 24 := by omega
    subst this
    exact ⟨fun _ => hq h fr.refl (fun j => (if_neg (by omega)).symm), fun z => absurd (by decide) z⟩
  | succ r ih =>
    intro i nn h hi hn hq
    obtain ⟨nn, rfl⟩ : ∃ m, nn = m + 1 := ⟨nn - 1, by omega⟩
    unfold wp_X8_sheet_L105
    have e : (24 : Int32) * nI t + nI i = nI (24 * t + i) := by rw [show (24 : Int32) = nI 24 from rfl, pk_mul, nI_add]
    rw [e, nI_clamp (n := 24 * t + i) (by omega), show nI i + 1 = nI (i + 1) from nI_1 i]
    refine ⟨fun z => absurd z (nI_ge (b := 24) (by omega) (by decide)), fun _ => ⟨vp_in_nI (by omega) (by decide), ?_⟩⟩
    rintro h1 rfl
    refine ih (i + 1) nn _ (by omega) (by omega) ?_
    intro h2 f2 e2
    refine hq h2 ((fr_si (P := fun c _ => c = 115) rfl).trans f2) (fun j => ?_)
    rw [e2 j, hp_i_si]
    by_cases g : j = 24 * t + i
    · subst g
      rw [if_neg (by omega), if_pos ⟨rfl, rfl⟩, if_pos (by omega)]
    · rw [if_neg (show ¬ (115 = 115 ∧ j = 24 * t + i) from fun z => g z.2)]
      by_cases g2 : 24 * t + (i + 1) ≤ j ∧ j < 24 * t + 24
      · rw [if_pos g2, if_pos (by omega)]
      · rw [if_neg g2, if_neg (by omega)]
/-- a sheet is laid on both sides -/
def ln (b n : Int32) : Int32 := if b = 0 then 0 else n
theorem w_b35 {t : Nat} {b n : Int32} {h : hp_T} {Q : Int32 → hp_T → Prop} (ht : t < 4) (hl : b = 0 ∨ (0 ≤ n ∧ n ≤ 24)) (hq : ∀ h1, fr (fun c _ => c = 97 + 2 * t ∨ c = 97 + 2 * t + 1) h h1 → hp_i h1 (97 + 2 * t) 0 = b → hp_i h1 (97 + 2 * t) 1 = ln b n → (∀ j, j < 24 → hp_i h1 (97 + 2 * t + 1) j = 0) → Q 1 h1) : wp_X7_sheet_b35 (nI t) b n Q h := by
  have vt : vp_in (nI t) 4 := vp_in_nI ht (by decide)
  unfold wp_X7_sheet_b35
  rw [nI_clamp (n := t) (by omega)]
  have g0 : b = 0 → wp_X1_lay (97 + 2 * t) b 0 h (fun h1 => Q 1 h1) := fun e => w_lay fun h1 f a b' c => hq h1 f a (by rw [b']; unfold ln; rw [if_pos e]) c
  have g1 : ¬ b = 0 → wp_X1_lay (97 + 2 * t) b n h (fun h1 => Q 1 h1) := fun e => w_lay fun h1 f a b' c => hq h1 f a (by rw [b']; unfold ln; rw [if_neg e]) c
  refine ⟨fun e => ⟨fun _ => ⟨vt, fun _ => g0 e, fun w => absurd e w⟩, fun w => absurd e w⟩, fun e => ?_⟩
  obtain ⟨n0, n24⟩ := hl.resolve_left e
  exact ⟨fun _ => ⟨fun w => absurd w e, fun _ => ⟨fun _ => ⟨vt, fun w => absurd w e, fun _ => g1 e⟩, fun w => absurd n24 w⟩⟩, fun w => absurd n0 w⟩
theorem m_b63 {t : Nat} {b n : Int32} {h : hp_T} {Q : Int32 → hp_T → Prop} (ht : t < 4) (hl : b = 0 ∨ n ≤ 24) (hq : ∀ h1, fr (fun c _ => c = 113 ∨ c = 114 ∨ c = 115) h h1 → hp_i h1 113 = ss (hp_i h 113) t b → hp_i h1 114 = ss (hp_i h 114) t (ln b n) → (∀ j, hp_i h1 115 j = if 24 * t ≤ j ∧ j < 24 * t + 24 then 0 else hp_i h 115 j) → Q 1 h1) : wp_X8_sheet_b63 (nI t) b n Q h := by
  have vt : vp_in (nI t) 4 := vp_in_nI ht (by decide)
  unfold wp_X8_sheet_b63
  rw [nI_clamp (n := t) (by omega)]
  have g : ∀ v : Int32, v = ln b n → ∃ n0, wp_X8_sheet_L105 (nI t) b n Q n0 0 (hp_si (hp_si h 113 t b) 114 t v) := by
    intro v hv
    refine ⟨25, m_lay_L ht 24 0 25 _ rfl (by decide) ?_⟩
    intro h1 f1 e1
    refine hq h1 (((fr_si (P := fun c _ => c = 113 ∨ c = 114 ∨ c = 115) (Or.inl rfl)).si (Or.inr (Or.inl rfl))).trans (f1.mono fun c j z => Or.inr (Or.inr z))) ?_ ?_ (fun j => ?_)
    · rw [f1.row (fun j z => by have z : (113 : Nat) = 115 := z; omega), si_row_ne (by decide), si_row]
    · rw [f1.row (fun j z => by have z : (114 : Nat) = 115 := z; omega), si_row, si_row_ne (by decide), hv]
    · have eo : hp_i (hp_si (hp_si h 113 t b) 114 t v) 115 j = hp_i h 115 j := by rw [hp_i_si, if_neg (by omega), hp_i_si, if_neg (by omega)]
      rw [e1 j, eo]
      rfl
  refine ⟨fun e => ⟨vt, ?_⟩, fun e => ⟨fun n24 => ⟨vt, ?_⟩, fun w => absurd (hl.resolve_left e) w⟩⟩
  · rintro h1 rfl
    refine ⟨fun _ => ⟨vt, ?_⟩, fun w => absurd e w⟩
    rintro h2 rfl
    exact g 0 (by unfold ln; rw [if_pos e])
  · rintro h1 rfl
    refine ⟨fun w => absurd w e, fun _ => ⟨vt, ?_⟩⟩
    rintro h2 rfl
    exact g n (by unfold ln; rw [if_neg e])
theorem Inv_lay {h h1 h2 : hp_T} {t : Nat} {b n : Int32} (I : Inv h) (ht : t < 4) (hl : b = 0 ∨ (0 ≤ n ∧ n ≤ 24)) (f1 : fr (fun c _ => c = 97 + 2 * t ∨ c = 97 + 2 * t + 1) h h1) (a0 : hp_i h1 (97 + 2 * t) 0 = b) (a1 : hp_i h1 (97 + 2 * t) 1 = ln b n) (az : ∀ j, j < 24 → hp_i h1 (97 + 2 * t + 1) j = 0) (f2 : fr (fun c _ => c = 113 ∨ c = 114 ∨ c = 115) h1 h2) (b0 : hp_i h2 113 = ss (hp_i h1 113) t b) (b1 : hp_i h2 114 = ss (hp_i h1 114) t (ln b n)) (bz : ∀ j, hp_i h2 115 j = if 24 * t ≤ j ∧ j < 24 * t + 24 then 0 else hp_i h1 115 j) : Inv h2 := by
  have r3 : hp_i h1 113 = hp_i h 113 := f1.row (fun j z => by omega)
  have r4 : hp_i h1 114 = hp_i h 114 := f1.row (fun j z => by omega)
  refine Inv_sh I ((f1.mono fun a j z => Or.inl (by omega)).trans (f2.mono fun a j z => Or.inr (by omega))) ?_
  intro u hu
  obtain ⟨s1, s2, s3, s4⟩ := I.su u hu
  rw [b0, b1, r3, r4, f2.2 (97 + 2 * u) 0 (by omega), f2.2 (97 + 2 * u) 1 (by omega)]
  by_cases g : u = t
  · subst g
    rw [ss_i, ss_i]
    refine ⟨a0, a1, ?_, fun i hi => ?_⟩
    · unfold ln
      by_cases e : b = 0
      · rw [if_pos e]; exact ⟨by decide, by decide⟩
      · rw [if_neg e]; exact rg_of (hl.resolve_left e) rfl rfl
    · rw [f2.2 (97 + 2 * u + 1) i (by omega), az i hi, bz, if_pos (by omega)]
  · rw [ss_n g, ss_n g, f1.2 _ _ (by omega), f1.2 _ _ (by omega)]
    refine ⟨s1, s2, s3, fun i hi => ?_⟩
    rw [f2.2 (97 + 2 * u + 1) i (by omega), f1.2 _ _ (by omega), bz, if_neg (by omega), f1.2 115 _ (by omega)]
    exact s4 i hi
theorem c_sheet {x b n : Int32} {h : hp_T} (I : Inv h) : wp_X7_sheet x b n h (fun r1 h1 => wp_X8_sheet x b n h1 (fun r2 h2 => r1 = r2 ∧ Inv h2)) := by
  unfold wp_X7_sheet
  simp only [w_isSheet, bi_0, er1]
  refine ⟨fun z => ?_, fun z => ?_⟩
  · unfold wp_X8_sheet
    simp only [x_isSheet, bi_0]
    exact ⟨fun _ => f1 I, fun w => absurd z w⟩
  obtain ⟨t, ht, rfl⟩ := nat_of (n := 3) (Classical.not_not.mp z) rfl
  have t4 : t < 4 := by omega
  have okB : b = 0 ∨ b = 8 ∨ b = 16 ∨ b = 32 → wp_X7_sheet_b35 (nI t) b n (fun r1 h1 => wp_X8_sheet (nI t) b n h1 (fun r2 h2 => r1 = r2 ∧ Inv h2)) h := by
    intro hb
    have ref : ∀ (h' : hp_T) (Q : Int32 → hp_T → Prop), ((b = 0 ∨ 0 ≤ n) → wp_X8_sheet_b63 (nI t) b n Q h') → (¬ (b = 0 ∨ 0 ≤ n) → wp_X8_errs (-1000000003) h' Q) → wp_X8_sheet (nI t) b n h' Q := by
      intro h' Q g1 g2
      unfold wp_X8_sheet
      simp only [x_isSheet, bi_0]
      have tail : ¬ b = 0 → (b = 0 → wp_X8_sheet_b63 (nI t) b n Q h') ∧ (¬ b = 0 → (0 ≤ n → wp_X8_sheet_b63 (nI t) b n Q h') ∧ (¬ 0 ≤ n → wp_X8_errs (-1000000003) h' Q)) := fun e => ⟨fun w => absurd w e, fun _ => ⟨fun p => g1 (Or.inr p), fun p => g2 (fun w => by rcases w with w | w; exact e w; exact p w)⟩⟩
      refine ⟨fun w => absurd w z, fun _ => ⟨fun e => ⟨fun _ => g1 (Or.inl e), fun w => absurd e w⟩, fun e => ⟨fun e8 => tail e, fun e8 => ⟨fun e16 => tail e, fun e16 => ⟨fun e32 => tail e, fun e32 => ?_⟩⟩⟩⟩⟩
      rcases hb with w | w | w | w
      · exact absurd w e
      · exact absurd w e8
      · exact absurd w e16
      · exact absurd w e32
    by_cases hl : b = 0 ∨ (0 ≤ n ∧ n ≤ 24)
    · refine w_b35 t4 hl ?_
      intro h1 f1 a0 a1 az
      refine ref _ _ (fun _ => m_b63 t4 (hl.imp_right fun w => w.2) ?_) (fun w => absurd (hl.imp_right fun y => y.1) w)
      intro h2 f2 b0 b1 bz
      exact ⟨rfl, Inv_lay I t4 hl f1 a0 a1 az f2 b0 b1 bz⟩
    · have e : ¬ b = 0 := fun w => hl (Or.inl w)
      unfold wp_X7_sheet_b35
      rw [er1, er3]
      refine ⟨fun w => absurd w e, fun _ => ⟨fun p => ⟨fun w => absurd w e, fun _ => ⟨fun q => absurd (Or.inr ⟨p, q⟩) hl, fun q => ?_⟩⟩, fun p => ?_⟩⟩
      · refine ref _ _ (fun _ => ?_) (fun w => absurd (Or.inr p) w)
        unfold wp_X8_sheet_b63
        exact ⟨fun w => absurd w e, fun _ => ⟨fun w => absurd w q, fun _ => f1 I⟩⟩
      · refine ref _ _ (fun w => ?_) (fun _ => f3 I)
        rcases w with w | w
        · exact absurd w e
        · exact absurd w p
  refine ⟨fun e => okB (Or.inl e), fun e => ⟨fun e8 => okB (Or.inr (Or.inl e8)), fun e8 => ⟨fun e16 => okB (Or.inr (Or.inr (Or.inl e16))), fun e16 => ⟨fun e32 => okB (Or.inr (Or.inr (Or.inr e32))), fun e32 => ?_⟩⟩⟩⟩
  unfold wp_X8_sheet
  simp only [x_isSheet, bi_0]
  exact ⟨fun w => absurd w z, fun _ => ⟨fun w => absurd w e, fun _ => ⟨fun w => absurd w e8, fun _ => ⟨fun w => absurd w e16, fun _ => ⟨fun w => absurd w e32, fun _ => f1 I⟩⟩⟩⟩⟩
