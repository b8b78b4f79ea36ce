/-! ===== PURE: the calls: text, the reference's; both ===== -/
theorem rpn_list {u : Nat} {c : Nat → Int32} : ∀ (e : List Int32) (k d : Nat), (∀ i, i < e.length → c (k + i) = e.getD i 0) → dp c k = d → okl u e d → (∀ i, k ≤ i → i < k + e.length → ok_c u (c i) (dp c i)) ∧ dp c (k + e.length) = dpl e d := by
  intro e
  induction e with
  | nil => intro k d _ hd _; exact ⟨fun i h1 h2 => by have h2 : i < k + 0 := h2; omega, hd⟩
  | cons x l ih =>
    intro k d hc hd ho
    have ck : c k = x := hc 0 (Nat.succ_pos _)
    have hd1 : dp c (k + 1) = dq x d := by
      show (if -10 < c k then dp c k + 1 else if c k = -21 then dp c k else dp c k - 1) = dq x d
      rw [ck, hd]
      rfl
    obtain ⟨a, b⟩ := ih (k + 1) (dq x d) (fun i hi => by
      have := hc (i + 1) (Nat.succ_lt_succ hi)
      rw [show k + 1 + i = k + (i + 1) by omega]
      exact this) hd1 ho.2
    refine ⟨fun i h1 h2 => ?_, ?_⟩
    · by_cases g : i = k
      · subst g
        rw [ck, hd]
        exact ho.1
      · exact a i (by omega) (by have h2 : i < k + (l.length + 1) := h2; omega)
    · show dp c (k + (l.length + 1)) = dpl l (dq x d)
      rw [show k + (l.length + 1) = k + 1 + l.length by omega]
      exact b
theorem rpn_of {u : Nat} {c : Nat → Int32} {e : List Int32} (he : fgr u e) (hc : ∀ i, i < e.length → c i = e.getD i 0) : rpn u e.length c ∧ 0 < e.length := by
  obtain ⟨a1, a2⟩ := he 0
  obtain ⟨b1, b2⟩ := rpn_list (c := c) e 0 0 (fun i hi => by rw [Nat.zero_add]; exact hc i hi) rfl a1
  rw [Nat.zero_add] at b2
  refine ⟨⟨fun i hi => b1 i (Nat.zero_le i) (by omega), b2.trans a2⟩, ?_⟩
  cases e with
  | nil => exact absurd a2 (by decide)
  | cons x l => exact Nat.succ_pos _
abbrev PXt : Nat → Nat → Prop := fun a j => a = 106 ∨ a = 111 ∨ (a = 105 ∧ 6 ≤ j ∧ j ≤ 10)
theorem m_copy_L {u n : Nat} {Q : Int32 → hp_T → Prop} (hu : u < 2) (hn : n ≤ 60) : ∀ (r i nn : Nat) (h : hp_T), i + r = n → r < nn → hp_i h 105 8 = nI n → (∀ h1, fr P106 h h1 → (∀ j, hp_i h1 106 j = if j = 9 + u then nI n else if 237 + 60 * u + i ≤ j ∧ j < 237 + 60 * u + n then hp_i h 111 (j - (237 + 60 * u)) else hp_i h 106 j) → Q 1 h1) → wp_X8_text_L95 (nI u) Q nn (nI i) h := by
  intro r
  induction r with
  | zero =>
    intro i nn h hi hnn e8 hq
    obtain ⟨nn, rfl⟩ : ∃ m, nn = m + 1 := ⟨nn - 1, by omega⟩
    unfold wp_X8_text_L95
    rw [e8, show (9 : Int32) + nI u = nI (9 + u) from nI_add 9 u, nI_clamp (n := 9 + u) (by omega)]
    refine ⟨fun _ => ⟨vp_in_nI (by omega) (by decide), ?_⟩, fun z => absurd (nI_le (by omega) (by omega)) z⟩
    rintro h1 rfl
    refine hq _ (fr_si (P := P106) rfl) (fun j => ?_)
    rw [hp_i_si]
    by_cases g : j = 9 + u
    · rw [if_pos ⟨rfl, g⟩, if_pos g]
    · rw [if_neg (fun z => g z.2), if_neg g, if_neg (by omega)]
  | succ r ih =>
    intro i nn h hi hnn e8 hq
    obtain ⟨nn, rfl⟩ : ∃ m, nn = m + 1 := ⟨nn - 1, by omega⟩
    unfold wp_X8_text_L95
    have ix : (237 : Int32) + (60 : Int32) * nI u + nI i = nI (237 + 60 * u + i) := by rw [show (60 : Int32) * nI u = nI (60 * u) from pk_mul 60 u, show (237 : Int32) + nI (60 * u) = nI (237 + 60 * u) from nI_add 237 _, nI_add]
    rw [e8, ix, nI_clamp (n := 237 + 60 * u + i) (by omega), nI_clamp (n := i) (by omega), show nI i + 1 = nI (i + 1) from nI_1 i]
    refine ⟨fun z => absurd z (nI_ge (by omega) (by omega)), fun _ => ⟨vp_in_nI (by omega) (by decide), vp_in_nI (by omega) (by decide), ?_⟩⟩
    rintro h1 rfl
    refine ih (i + 1) nn _ (by omega) (by omega) (by rw [hp_i_si, if_neg (by omega)]; exact e8) ?_
    intro h2 f2 e2
    refine hq h2 ((fr_si (P := P106) rfl).trans f2) (fun j => ?_)
    have o : hp_i (hp_si h 106 (237 + 60 * u + i) (hp_i h 111 i)) 106 j = if j = 237 + 60 * u + i then hp_i h 111 i else hp_i h 106 j := by
      rw [hp_i_si]
      by_cases g : j = 237 + 60 * u + i
      · rw [if_pos ⟨rfl, g⟩, if_pos g]
      · rw [if_neg (fun z => g z.2), if_neg g]
    have o1 : ∀ w, hp_i (hp_si h 106 (237 + 60 * u + i) (hp_i h 111 i)) 111 w = hp_i h 111 w := fun w => by rw [hp_i_si, if_neg (by omega)]
    rw [e2 j, o, o1]
    by_cases g9 : j = 9 + u
    · rw [if_pos g9, if_pos g9]
    · rw [if_neg g9, if_neg g9]
      by_cases g : j = 237 + 60 * u + i
      · subst g
        rw [if_neg (by omega), if_pos rfl, if_pos (by omega), show 237 + 60 * u + i - (237 + 60 * u) = i by omega]
      · rw [if_neg g]
        by_cases g2 : 237 + 60 * u + (i + 1) ≤ j ∧ j < 237 + 60 * u + n
        · rw [if_pos g2, if_pos (by omega)]
        · rw [if_neg g2, if_neg (by omega)]
theorem m_text {h : hp_T} {L u : Nat} {S : st_T} {Q : Int32 → hp_T → Prop} (hu : u < 2) (hS : hp_i h 106 = S) (e7 : S 7 = nI L) (L60 : L ≤ 60) (hT : ∀ j, j < L → rg (S (153 + j)) 0 255)
    (q0 : ¬ gd (fun j => S (153 + j)) L u → ∀ h1, fr PXt h h1 → hp_i h1 106 = ss S 7 0 → Q (-10 - nI (sT (fun j => S (153 + j)) L u).1) h1)
    (q1 : gd (fun j => S (153 + j)) L u → ∀ h1, fr PXt h h1 → (∀ j, hp_i h1 106 j = if j = 9 + u then nI (sT (fun j => S (153 + j)) L u).2.2.length else if 237 + 60 * u ≤ j ∧ j < 237 + 60 * u + (sT (fun j => S (153 + j)) L u).2.2.length then (sT (fun j => S (153 + j)) L u).2.2.getD (j - (237 + 60 * u)) 0 else if j = 7 then 0 else S j) → Q 1 h1) : wp_X8_text (nI u) h Q := by
  have P : PRs (fun j => S (153 + j)) L u 0 [] (sT (fun j => S (153 + j)) L u) := ps_ok hu 60 5 0 0 [] (Nat.zero_le L)
  have sL : (sT (fun j => S (153 + j)) L u).1 ≤ L := P.2.1
  unfold wp_X8_text
  simp only [in_0_1, bi_0]
  have u1 : 0 ≤ nI u ∧ nI u ≤ 1 := by
    have e0 : (0 : Int32).toInt = 0 := rfl
    have e1 : (1 : Int32).toInt = 1 := rfl
    rw [i_le, i_le, i_nI (by omega)]
    omega
  refine ⟨fun w => absurd u1 w, fun _ => ?_⟩
  rintro h3 rfl
  rintro h6 rfl
  rintro h9 rfl
  rintro h12 rfl
  rintro h15 rfl
  have F0 : fr PXt h (hp_si (hp_si (hp_si (hp_si (hp_si h 105 6 0) 105 7 0) 105 8 0) 105 9 (nI u)) 105 10 0) := ((((fr_si (P := PXt) (Or.inr (Or.inr ⟨rfl, by omega⟩))).si (Or.inr (Or.inr ⟨rfl, by omega⟩))).si (Or.inr (Or.inr ⟨rfl, by omega⟩))).si (Or.inr (Or.inr ⟨rfl, by omega⟩))).si (Or.inr (Or.inr ⟨rfl, by omega⟩))
  have e6 : hp_i (hp_si (hp_si (hp_si (hp_si (hp_si h 105 6 0) 105 7 0) 105 8 0) 105 9 (nI u)) 105 10 0) 106 = S := by
    rw [si_row_ne (by decide), si_row_ne (by decide), si_row_ne (by decide), si_row_ne (by decide), si_row_ne (by decide)]
    exact hS
  have B : MB (hp_si (hp_si (hp_si (hp_si (hp_si h 105 6 0) 105 7 0) 105 8 0) 105 9 (nI u)) 105 10 0) (fun j => S (153 + j)) L u := by
    refine ⟨by rw [e6]; exact e7, ?_, L60, fun j hj => ⟨hT j hj, by rw [e6]⟩⟩
    rw [hp_i_si, if_neg (by decide), hp_i_si, if_pos ⟨rfl, rfl⟩]
  have C0 : MS (hp_si (hp_si (hp_si (hp_si (hp_si h 105 6 0) 105 7 0) 105 8 0) 105 9 (nI u)) 105 10 0) L 0 (0, 0, []) (hp_si (hp_si (hp_si (hp_si (hp_si h 105 6 0) 105 7 0) 105 8 0) 105 9 (nI u)) 105 10 0) := by
    refine ⟨fr.refl, ?_, Nat.zero_le _, ?_, Or.inl ⟨rfl, ?_, ?_, fun i hi => absurd hi (Nat.not_lt_zero _)⟩⟩
    · rw [hp_i_si, if_neg (by decide), hp_i_si, if_neg (by decide), hp_i_si, if_neg (by decide), hp_i_si, if_neg (by decide), hp_i_si, if_pos ⟨rfl, rfl⟩]; rfl
    · rw [hp_i_si, if_neg (by decide), hp_i_si, if_neg (by decide), hp_i_si, if_neg (by decide), hp_i_si, if_pos ⟨rfl, rfl⟩]; rfl
    · rw [hp_i_si, if_pos ⟨rfl, rfl⟩]
    · rw [hp_i_si, if_neg (by decide), hp_i_si, if_neg (by decide), hp_i_si, if_pos ⟨rfl, rfl⟩]; rfl
  refine Mrd hu B 60 5 0 0 [] _ _ (by decide) (by decide) (by decide) (Nat.zero_le L) (Nat.le_refl 0) C0 (fun h18 C => ?_)
  change MS _ L 0 (sT (fun j => S (153 + j)) L u) h18 at C
  have F : fr PXt h h18 := F0.trans (C.1.mono fun a j z => by rcases z with z | z <;> omega)
  have e18 : hp_i h18 106 = S := by rw [C.1.row (fun j z => by have z : PXm 106 j := z; omega)]; exact e6
  have row7 : hp_i (hp_si h18 106 7 0) 106 = ss S 7 0 := by rw [si_row, e18]
  have F7 : fr PXt h (hp_si h18 106 7 0) := F.si (Or.inl rfl)
  have fail : ¬ gd (fun j => S (153 + j)) L u → ∀ h21, h21 = hp_si h18 106 7 0 → Q ((-10 : Int32) - hp_i h21 105 6) h21 := by
    intro g h21 e21
    subst e21
    rw [hp_i_si, if_neg (by decide), C.2.1]
    exact q0 g _ F7 row7
  rw [C.2.1, e18, e7]
  rcases C.2.2.2.2 with ⟨m, e10, e8, et⟩ | ⟨m, e10⟩
  · refine br_y e10 ⟨fun g => ?_, fun g => fail (fun w => g ?_)⟩
    · rw [nI_eq (by omega) (by omega)] at g
      have gg : gd (fun j => S (153 + j)) L u := ⟨m, by omega⟩
      obtain ⟨b1, e, b2, b3, b4⟩ := P.2.2.2.1 m
      have n60 : (sT (fun j => S (153 + j)) L u).2.2.length ≤ 60 := by
        rw [b2, List.nil_append]
        omega
      rintro h28 rfl
      refine ⟨(sT (fun j => S (153 + j)) L u).2.2.length + 1, m_copy_L hu n60 (sT (fun j => S (153 + j)) L u).2.2.length 0 _ _ (by omega) (by omega) (by rw [hp_i_si, if_neg (by decide)]; exact e8) ?_⟩
      intro h1 f1 t1
      refine q1 gg h1 (F7.trans (f1.mono fun a j z => Or.inl z)) (fun j => ?_)
      rw [t1 j, Nat.add_zero]
      by_cases g9 : j = 9 + u
      · rw [if_pos g9, if_pos g9]
      · rw [if_neg g9, if_neg g9]
        by_cases g2 : 237 + 60 * u ≤ j ∧ j < 237 + 60 * u + (sT (fun j => S (153 + j)) L u).2.2.length
        · rw [if_pos g2, if_pos g2, hp_i_si, if_neg (by omega)]
          exact et _ (by have := g2.2; omega)
        · rw [if_neg g2, if_neg g2, hp_i_si]
          by_cases g7 : j = 7
          · rw [if_pos ⟨rfl, g7⟩, if_pos g7]
          · rw [if_neg (fun z => g7 z.2), if_neg g7, e18]
    · rw [nI_eq (by omega) (by omega)]
      have := w.2
      omega
  · refine br_n (by rw [e10]; decide) (fail (fun w => m w.1))
