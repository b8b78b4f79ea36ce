/-! ===== PURE: the reference: days that go, the row kept aside ===== -/
noncomputable def dyF (dr : Bool) (_ : Nat) (x : st_T × Int32 × Int32) : st_T × Int32 × Int32 := ((dy dr x.1).1, x.2.1 + (dy dr x.1).2.1, x.2.2 + (dy dr x.1).2.2)
theorem dys_eq {dr : Bool} {n : Nat} {S : st_T} : dys dr n S = lp (dyF dr) 0 n (S, 0, 0) := rfl
theorem lp_shift {α : Type} {f : α → α} : ∀ (n i j : Nat) (a : α), lp (fun _ => f) i n a = lp (fun _ => f) j n a := by
  intro n
  induction n with
  | zero => intro i j a; rfl
  | succ n ih => intro i j a; exact ih _ _ _
theorem m_daysGo_L {dr : Bool} {x2 : Int32} {n : Nat} (hn : n ≤ 1000) (hdr : (x2 = 0) = (dr = false)) {Q : hp_T → Prop} {c2 c3 : Int32} : ∀ (r i nn : Nat) (D : Int) (x : st_T × Int32 × Int32) (h : hp_T), i + r = n → r < nn → D + r ≤ 100000 → Vl D x.1 → hp_i h 106 = x.1 → hp_i h 105 12 = c2 + x.2.1 → hp_i h 105 13 = c3 + x.2.2 → (∀ h1, fr PD h h1 → hp_i h1 106 = (lp (dyF dr) i r x).1 → hp_i h1 105 12 = c2 + (lp (dyF dr) i r x).2.1 → hp_i h1 105 13 = c3 + (lp (dyF dr) i r x).2.2 → Q h1) → wp_X8_daysGo_L12 (nI n) x2 Q nn (nI i) h := by
  intro r
  induction r with
  | zero =>
    intro i nn D x h hi hnn hD hV hS h2 h3 hq
    obtain ⟨nn, rfl⟩ : ∃ m, nn = m + 1 := ⟨nn - 1, by omega⟩
    unfold wp_X8_daysGo_L12
    exact ⟨fun _ => hq h fr.refl hS h2 h3, fun z => absurd (nI_le (by omega) (by omega)) z⟩
  | succ r ih =>
    intro i nn D x h hi hnn hD hV hS h2 h3 hq
    obtain ⟨nn, rfl⟩ : ∃ m, nn = m + 1 := ⟨nn - 1, by omega⟩
    unfold wp_X8_daysGo_L12
    refine ⟨fun z => absurd z (nI_ge (by omega) (by omega)), fun _ => ?_⟩
    refine m_day hdr hV hS ?_
    intro h1 f1 e1 e2 e3
    rw [show nI i + 1 = nI (i + 1) from nI_1 i]
    refine ih (i + 1) nn (D + 1) (dyF dr i x) h1 (by omega) (by omega) (by omega) (Vl_dy dr hV (by omega)) e1 (by rw [e2, h2, Int32.add_assoc]; rfl) (by rw [e3, h3, Int32.add_assoc]; rfl) ?_
    intro h4 f4 a b c
    exact hq h4 (f1.trans f4) a b c
theorem m_daysGo {D : Int} {S : st_T} {dr : Bool} {x2 : Int32} {n : Nat} {h : hp_T} {Q : hp_T → Prop} (hn : n ≤ 1000) (hdr : (x2 = 0) = (dr = false)) (hD : D + n ≤ 100000) (hV : Vl D S) (hS : hp_i h 106 = S) (hQ : ∀ h1, fr PD h h1 → hp_i h1 106 = (dys dr n S).1 → hp_i h1 105 12 = (dys dr n S).2.1 → hp_i h1 105 13 = (dys dr n S).2.2 → Q h1) : wp_X8_daysGo (nI n) x2 h Q := by
  unfold wp_X8_daysGo
  rintro h1 rfl
  rintro h2 rfl
  refine ⟨n + 1, m_daysGo_L (c2 := 0) (c3 := 0) hn hdr n 0 (n + 1) D (S, 0, 0) _ (by omega) (by omega) hD hV ?_ ?_ ?_ ?_⟩
  · rw [si_row_ne (by decide), si_row_ne (by decide)]; exact hS
  · rw [hp_i_si, if_neg (by decide), hp_i_si, if_pos ⟨rfl, rfl⟩]; rfl
  · rw [hp_i_si, if_pos ⟨rfl, rfl⟩]; rfl
  · intro h3 f3 a b c
    rw [← dys_eq] at a b c
    refine hQ h3 ((((fr_si (P := PD) (by omega)).si (by omega))).trans f3) a (by rw [b]; simp) (by rw [c]; simp)
theorem Vl_dys {dr : Bool} : ∀ (n i : Nat) (D : Int) (x : st_T × Int32 × Int32), D + n ≤ 100000 → Vl D x.1 → Vl (D + n) (lp (dyF dr) i n x).1 := by
  intro n
  induction n with
  | zero => intro i D x _ h; rw [show D + ((0 : Nat) : Int) = D by omega]; exact h
  | succ n ih =>
    intro i D x hD h
    have := ih (i + 1) (D + 1) (dyF dr i x) (by omega) (Vl_dy dr h (by omega))
    have e : D + 1 + (n : Int) = D + ((n + 1 : Nat) : Int) := by omega
    rw [e] at this
    exact this
theorem dys_out {dr : Bool} {j : Nat} (hj : j < 11 ∨ 153 ≤ j) (h2 : j ≠ 2 ∧ j ≠ 3 ∧ j ≠ 6) : ∀ (n i : Nat) (D : Int) (x : st_T × Int32 × Int32), D + n ≤ 100000 → Vl D x.1 → (lp (dyF dr) i n x).1 j = x.1 j := by
  intro n
  induction n with
  | zero => intro i D x _ h; rfl
  | succ n ih =>
    intro i D x hD h
    have := ih (i + 1) (D + 1) (dyF dr i x) (by omega) (Vl_dy dr h (by omega))
    exact this.trans (dy_out h hj h2)
theorem dys_3 {dr : Bool} : ∀ (n i : Nat) (D : Int) (x : st_T × Int32 × Int32), D + n ≤ 100000 → Vl D x.1 → (lp (dyF dr) i n x).1 3 = x.1 3 + nI n := by
  intro n
  induction n with
  | zero => intro i D x _ h; show _ = _ + 0; rw [Int32.add_zero]; rfl
  | succ n ih =>
    intro i D x hD h
    have e := ih (i + 1) (D + 1) (dyF dr i x) (by omega) (Vl_dy dr h (by omega))
    have e2 : (dyF dr i x).1 3 = x.1 3 + 1 := by
      show (dy dr x.1).1 3 = _
      rw [dy_1, ss_i, tk_out (by omega), (lss_all (Vl_rl h)).2 3 (by omega) (by decide), rl_out h (by omega) (by decide)]
    rw [e2, Int32.add_assoc, show (1 : Int32) + nI n = nI (1 + n) from nI_add 1 n, Nat.add_comm 1 n] at e
    exact e
/-- one row of ints into another, place by place -/
theorem cp_L {a b : Nat} {h : hp_T} {i : Nat} : hp_i (hp_si h b i (hp_i h a i)) b = fun j => if j < i + 1 ∧ i ≤ j then hp_i h a j else hp_i h b j := by
  rw [si_row]
  funext j
  unfold ss
  by_cases e : j = i
  · subst e; simp
  · rw [if_neg e, if_neg (by omega)]
def cpy (n : Nat) (A B : st_T) : st_T := fun j => if j < n then A j else B j
theorem m_keepsAside_L {Q : hp_T → Prop} {h0 : hp_T} (hq : ∀ h1, fr (fun a _ => a = 108) h0 h1 → hp_i h1 108 = cpy 357 (hp_i h0 106) (hp_i h0 108) → Q h1) : ∀ (r i nn : Nat) (h : hp_T), i + r = 357 → r < nn → fr (fun a _ => a = 108) h0 h → hp_i h 108 = cpy i (hp_i h0 106) (hp_i h0 108) → wp_X8_keepsAside_L2 Q nn (nI i) h := by
  intro r
  induction r with
  | zero =>
    intro i nn h hi hn f e
    obtain ⟨nn, rfl⟩ : ∃ m, nn = m + 1 := ⟨nn - 1, by omega⟩
    unfold wp_X8_keepsAside_L2
    have : i = 357 := by omega
    subst this
    exact ⟨fun _ => hq h f e, fun z => absurd (by decide) z⟩
  | succ r ih =>
    intro i nn h hi hn f e
    obtain ⟨nn, rfl⟩ : ∃ m, nn = m + 1 := ⟨nn - 1, by omega⟩
    unfold wp_X8_keepsAside_L2
    refine ⟨fun z => absurd z (nI_ge (b := 357) (by omega) (by decide)), fun _ => ⟨vp_in_nI (by omega) (by decide), vp_in_nI (by omega) (by decide), ?_⟩⟩
    rintro h1 rfl
    rw [show nI i + 1 = nI (i + 1) from nI_1 i, nI_clamp (n := i) (by omega)]
    refine ih (i + 1) nn _ (by omega) (by omega) (f.si rfl) ?_
    rw [si_row, e, f.2 106 i (show ¬ (106 : Nat) = 108 by decide)]
    funext j
    unfold ss cpy
    by_cases e1 : j = i
    · subst e1
      rw [if_pos rfl, if_pos (by omega)]
    · rw [if_neg e1]
      by_cases e2 : j < i
      · rw [if_pos e2, if_pos (by omega)]
      · rw [if_neg e2, if_neg (by omega)]
theorem m_keepsAside {h : hp_T} {Q : hp_T → Prop} (hq : ∀ h1, fr (fun a _ => a = 108) h h1 → hp_i h1 108 = cpy 357 (hp_i h 106) (hp_i h 108) → Q h1) : wp_X8_keepsAside h Q :=
  ⟨358, m_keepsAside_L hq 357 0 358 h rfl (by decide) fr.refl (by funext j; exact (if_neg (by omega)).symm)⟩
theorem m_putsBack_L {Q : hp_T → Prop} {h0 : hp_T} (hq : ∀ h1, fr (fun a _ => a = 106) h0 h1 → hp_i h1 106 = cpy 357 (hp_i h0 108) (hp_i h0 106) → Q h1) : ∀ (r i nn : Nat) (h : hp_T), i + r = 357 → r < nn → fr (fun a _ => a = 106) h0 h → hp_i h 106 = cpy i (hp_i h0 108) (hp_i h0 106) → wp_X8_putsBack_L2 Q nn (nI i) h := by
  intro r
  induction r with
  | zero =>
    intro i nn h hi hn f e
    obtain ⟨nn, rfl⟩ : ∃ m, nn = m + 1 := ⟨nn - 1, by omega⟩
    unfold wp_X8_putsBack_L2
    have : i = 357 := by omega
    subst this
    exact ⟨fun _ => hq h f e, fun z => absurd (by decide) z⟩
  | succ r ih =>
    intro i nn h hi hn f e
    obtain ⟨nn, rfl⟩ : ∃ m, nn = m + 1 := ⟨nn - 1, by omega⟩
    unfold wp_X8_putsBack_L2
    refine ⟨fun z => absurd z (nI_ge (b := 357) (by omega) (by decide)), fun _ => ⟨vp_in_nI (by omega) (by decide), vp_in_nI (by omega) (by decide), ?_⟩⟩
    rintro h1 rfl
    rw [show nI i + 1 = nI (i + 1) from nI_1 i, nI_clamp (n := i) (by omega)]
    refine ih (i + 1) nn _ (by omega) (by omega) (f.si rfl) ?_
    rw [si_row, e, f.2 108 i (show ¬ (108 : Nat) = 106 by decide)]
    funext j
    unfold ss cpy
    by_cases e1 : j = i
    · subst e1
      rw [if_pos rfl, if_pos (by omega)]
    · rw [if_neg e1]
      by_cases e2 : j < i
      · rw [if_pos e2, if_pos (by omega)]
      · rw [if_neg e2, if_neg (by omega)]
theorem m_putsBack {h : hp_T} {Q : hp_T → Prop} (hq : ∀ h1, fr (fun a _ => a = 106) h h1 → hp_i h1 106 = cpy 357 (hp_i h 108) (hp_i h 106) → Q h1) : wp_X8_putsBack h Q :=
  ⟨358, m_putsBack_L hq 357 0 358 h rfl (by decide) fr.refl (by funext j; exact (if_neg (by omega)).symm)⟩
