/-! ===== PURE: what holds between the calls ===== -/
def RK (h : hp_T) : Prop := ∀ b, b < 6 → rg (hp_i h (1 + 8 + 3 * b) 3) 0 63
def Ish (h : hp_T) : Prop := Vl 9999 (hp_i h 106) ∧ Rl h 1 (hp_i h 106) ∧ RK h
def Iim (h : hp_T) : Prop := hp_i h 0 7 = hp_i h 105 4 ∧ (hp_i h 105 4 ≠ 0 → Vl 9999 (hp_i h 107) ∧ Rl h 31 (hp_i h 107))
def Ier (h : hp_T) : Prop := ∀ k, k < 6 → hp_i h 96 (k + 1) = hp_i h 109 k
def Itr (h : hp_T) : Prop := ∃ n, n ≤ 30 ∧ hp_i h 93 4 = nI n ∧ hp_i h 105 15 = nI n ∧ ∀ i, i < n → hp_i h 94 i = hp_i h 112 i
def Isu (h : hp_T) : Prop := ∀ t, t < 4 → hp_i h (97 + 2 * t) 0 = hp_i h 113 t ∧ hp_i h (97 + 2 * t) 1 = hp_i h 114 t ∧ rg (hp_i h 114 t) 0 24 ∧ ∀ i, i < 24 → hp_i h (97 + 2 * t + 1) i = hp_i h 115 (24 * t + i)
def Izr (h : hp_T) : Prop := ∀ j, 357 ≤ j → hp_i h 106 j = 0 ∧ hp_i h 107 j = 0 ∧ hp_i h 108 j = 0
def Inv (h : hp_T) : Prop := wf h ∧ hp_n h % 3 = 0 ∧ Ish h ∧ Iim h ∧ Ier h ∧ Itr h ∧ Isu h ∧ Izr h
section IE
variable {P R : Nat → Nat → Prop} {h h1 : hp_T}
theorem ex.row (e : ex P R h h1) {a : Nat} (ha : a < hp_n h) (hP : ∀ j, ¬ P a j) : hp_i h1 a = hp_i h a := by
  funext j
  exact e.2.2.2 a j ha (hP j)
theorem Ish.ex (hw : 117 ≤ hp_n h) (I : Ish h) (e : ex P R h h1) (hP : ∀ a j, P a j → ¬ (1 ≤ a ∧ a < 31) ∧ a ≠ 106 ∧ ab_k a ≠ 16) (hR : ∀ a j, R a j → a ≠ 7 ∧ ab_k a ≠ 4) : Ish h1 := by
  have e6 : hp_i h1 106 = hp_i h 106 := e.row (by omega) (fun j z => (hP _ _ z).2.1 rfl)
  refine ⟨by rw [e6]; exact I.1, by rw [e6]; exact I.2.1.ex (by decide) hw e (fun a j z y => (hP a j z).1 ⟨by omega, by omega⟩) (fun a j z => (hP a j z).2.2) (fun a j z => ⟨(hR a j z).1, (hR a j z).2⟩), fun b hb => ?_⟩
  rw [e.2.2.2 _ _ (by omega) (fun z => (hP _ _ z).1 ⟨by omega, by omega⟩)]
  exact I.2.2 b hb
theorem Iim.ex (hw : 117 ≤ hp_n h) (I : Iim h) (e : ex P R h h1) (hP : ∀ a j, P a j → ¬ (31 ≤ a ∧ a < 61) ∧ a ≠ 107 ∧ ab_k a ≠ 16 ∧ (a = 0 → j ≠ 7) ∧ (a = 105 → j ≠ 4)) (hR : ∀ a j, R a j → a ≠ 37 ∧ ab_k a ≠ 4) : Iim h1 := by
  have e7 : hp_i h1 107 = hp_i h 107 := e.row (by omega) (fun j z => (hP _ _ z).2.1 rfl)
  have e0 : hp_i h1 0 7 = hp_i h 0 7 := e.2.2.2 _ _ (by omega) (fun z => (hP _ _ z).2.2.2.1 rfl rfl)
  have e4 : hp_i h1 105 4 = hp_i h 105 4 := e.2.2.2 _ _ (by omega) (fun z => (hP _ _ z).2.2.2.2 rfl rfl)
  refine ⟨by rw [e0, e4]; exact I.1, fun z => ?_⟩
  rw [e4] at z
  rw [e7]
  exact ⟨(I.2 z).1, (I.2 z).2.ex (by decide) hw e (fun a j z y => (hP a j z).1 ⟨by omega, by omega⟩) (fun a j z => (hP a j z).2.2.1) (fun a j z => ⟨(hR a j z).1, (hR a j z).2⟩)⟩
theorem Ier.ex (hw : 117 ≤ hp_n h) (I : Ier h) (e : ex P R h h1) (hP : ∀ a j, P a j → a ≠ 96 ∧ a ≠ 109) : Ier h1 := by
  intro k hk
  rw [e.2.2.2 96 _ (by omega) (fun z => (hP _ _ z).1 rfl), e.2.2.2 109 _ (by omega) (fun z => (hP _ _ z).2 rfl)]
  exact I k hk
theorem Itr.ex (hw : 117 ≤ hp_n h) (I : Itr h) (e : ex P R h h1) (hP : ∀ a j, P a j → a ≠ 93 ∧ a ≠ 94 ∧ a ≠ 112 ∧ (a = 105 → j ≠ 15)) : Itr h1 := by
  obtain ⟨n, h1, h2, h3, h4⟩ := I
  refine ⟨n, h1, ?_, ?_, fun i hi => ?_⟩
  · rw [e.2.2.2 93 _ (by omega) (fun z => (hP _ _ z).1 rfl)]; exact h2
  · rw [e.2.2.2 105 _ (by omega) (fun z => (hP _ _ z).2.2.2 rfl rfl)]; exact h3
  · rw [e.2.2.2 94 _ (by omega) (fun z => (hP _ _ z).2.1 rfl), e.2.2.2 112 _ (by omega) (fun z => (hP _ _ z).2.2.1 rfl)]; exact h4 i hi
theorem Isu.ex (hw : 117 ≤ hp_n h) (I : Isu h) (e : ex P R h h1) (hP : ∀ a j, P a j → ¬ (97 ≤ a ∧ a < 105) ∧ ¬ (113 ≤ a ∧ a < 116)) : Isu h1 := by
  intro t ht
  obtain ⟨a1, a2, a3, a4⟩ := I t ht
  rw [e.2.2.2 (97 + 2 * t) _ (by omega) (fun z => (hP _ _ z).1 ⟨by omega, by omega⟩), e.2.2.2 (97 + 2 * t) _ (by omega) (fun z => (hP _ _ z).1 ⟨by omega, by omega⟩), e.2.2.2 113 _ (by omega) (fun z => (hP _ _ z).2 ⟨by omega, by omega⟩), e.2.2.2 114 _ (by omega) (fun z => (hP _ _ z).2 ⟨by omega, by omega⟩)]
  refine ⟨a1, a2, a3, fun i hi => ?_⟩
  rw [e.2.2.2 (97 + 2 * t + 1) _ (by omega) (fun z => (hP _ _ z).1 ⟨by omega, by omega⟩), e.2.2.2 115 _ (by omega) (fun z => (hP _ _ z).2 ⟨by omega, by omega⟩)]
  exact a4 i hi
theorem Izr.ex (hw : 117 ≤ hp_n h) (I : Izr h) (e : ex P R h h1) (hP : ∀ a j, P a j → a ≠ 106 ∧ a ≠ 107 ∧ a ≠ 108) : Izr h1 := by
  intro j hj
  rw [e.2.2.2 106 _ (by omega) (fun z => (hP _ _ z).1 rfl), e.2.2.2 107 _ (by omega) (fun z => (hP _ _ z).2.1 rfl), e.2.2.2 108 _ (by omega) (fun z => (hP _ _ z).2.2 rfl)]
  exact I j hj
end IE
theorem lt117_4 {a : Nat} (h : a < 117) : ab_k a ≠ 4 := by
  have : (List.range 117).all (fun a => decide (ab_k a ≠ 4)) = true := by decide +kernel
  exact of_decide_eq_true (List.all_eq_true.mp this a (List.mem_range.mpr h))
theorem lt117_16 {a : Nat} (h : a < 117) : ab_k a ≠ 16 := fun z => by have := k16 z; omega
theorem sr7 (j : Nat) : ab_sr 7 j = none ∧ ab_sr 37 j = none ∧ ab_sr 67 j = none := by
  have a : ab_k 7 = 14 := by decide
  have b : ab_k 37 = 14 := by decide
  have c : ab_k 67 = 14 := by decide
  unfold ab_sr
  rw [a, b, c]
  simp
/-- what a call about the ship may write (an error is counted, too) -/
abbrev PG : Nat → Nat → Prop := fun a j => (1 ≤ a ∧ a < 31) ∨ (61 ≤ a ∧ a < 93) ∨ ab_k a = 17 ∨ a = 106 ∨ a = 108 ∨ a = 109 ∨ a = 110 ∨ a = 111 ∨ a = 96 ∨ (a = 105 ∧ j ≠ 4 ∧ j ≠ 15)
abbrev RG : Nat → Nat → Prop := fun a j => a = 7 ∨ a = 67 ∨ (a = 91 ∧ j = 0)
theorem RG_sr {a j : Nat} (h : RG a j) : ab_sr a j = none := by
  rcases h with rfl | rfl | ⟨rfl, rfl⟩
  · exact (sr7 j).1
  · exact (sr7 j).2.2
  · decide
theorem RG_4 {a j : Nat} (h : RG a j) : a ≠ 37 ∧ ab_k a ≠ 4 := by
  rcases h with rfl | rfl | ⟨rfl, rfl⟩ <;> exact ⟨by decide, by decide⟩
theorem PG_16 {a j : Nat} (h : PG a j) : ab_k a ≠ 16 := by
  intro z
  have := k16 z
  rcases h with h | h | h | h | h | h | h | h | h | h
  · omega
  · omega
  · rw [z] at h; exact absurd h (by decide)
  · omega
  · omega
  · omega
  · omega
  · omega
  · omega
  · omega
theorem PG_o {a j : Nat} (h : PG a j) : (1 ≤ a ∧ a < 31) ∨ (61 ≤ a ∧ a < 93) ∨ 117 ≤ a ∨ a = 106 ∨ a = 108 ∨ a = 109 ∨ a = 110 ∨ a = 111 ∨ a = 96 ∨ (a = 105 ∧ j ≠ 4 ∧ j ≠ 15) := by
  rcases h with h | h | h | h
  · exact Or.inl h
  · exact Or.inr (Or.inl h)
  · exact Or.inr (Or.inr (Or.inl (k17 h)))
  · exact Or.inr (Or.inr (Or.inr h))
theorem Inv.gen {h h1 : hp_T} (I : Inv h) (e : ex PG RG h h1) (hn : hp_n h1 % 3 = 0) (hS : Ish h1) (hE : Ier h1) (hZ : ∀ j, 357 ≤ j → hp_i h1 106 j = 0 ∧ hp_i h1 108 j = 0) : Inv h1 := by
  obtain ⟨i1, i2, i3, i4, i5, i6, i7, i8⟩ := I
  have hw := i1.1
  refine ⟨wf_ex e (fun a j z => RG_sr z) i1, hn, hS, ?_, hE, ?_, ?_, ?_⟩
  · exact i4.ex hw e (fun a j z => ⟨by have := PG_o z; omega, by have := PG_o z; omega, PG_16 z, by have := PG_o z; omega, by have := PG_o z; omega⟩) (fun a j z => RG_4 z)
  · exact i6.ex hw e (fun a j z => by have := PG_o z; omega)
  · exact i7.ex hw e (fun a j z => by have := PG_o z; omega)
  · intro j hj
    refine ⟨(hZ j hj).1, ?_, (hZ j hj).2⟩
    rw [e.2.2.2 107 j (by omega) (fun z => by have := PG_o z; omega)]
    exact (i8 j hj).2.1
abbrev PEr : Nat → Nat → Prop := fun a _ => a = 96 ∨ a = 109
/-- an error on both sides -/
theorem e_err {x e : Int32} {k : Nat} {h : hp_T} {Q : Int32 → hp_T → Prop} (hk : k < 6) (hx : x = nI (k + 1)) (he : (-1000000000 : Int32) - x = e) (hQ : hp_i (hp_si h 96 (k + 1) (hp_i h 96 (k + 1) + 1)) 96 (k + 1) = hp_i h 96 (k + 1) + 1 → Q e (hp_si h 96 (k + 1) (hp_i h 96 (k + 1) + 1))) : wp_X7_error x h Q := by
  unfold wp_X7_error
  subst hx
  rw [nI_clamp (n := k + 1) (by omega), he]
  refine ⟨vp_in_nI (by omega) (by decide), vp_in_nI (by omega) (by decide), ?_⟩
  rintro h1 rfl
  exact hQ (by rw [hp_i_si, if_pos ⟨rfl, rfl⟩])
theorem e_errs {e : Int32} {k : Nat} {h : hp_T} {Q : Int32 → hp_T → Prop} (hk : k < 6) (he : (-1000000001 : Int32) - e = nI k) (hQ : Q e (hp_si h 109 k (hp_i h 109 k + 1))) : wp_X8_errs e h Q := by
  unfold wp_X8_errs
  rw [he, nI_clamp (n := k) (by omega)]
  refine ⟨vp_in_nI (by omega) (by decide), vp_in_nI (by omega) (by decide), ?_⟩
  rintro h1 rfl
  exact hQ
theorem Inv_er {h : hp_T} {k : Nat} (hk : k < 6) (I : Inv h) : Inv (hp_si (hp_si h 96 (k + 1) (hp_i h 96 (k + 1) + 1)) 109 k (hp_i (hp_si h 96 (k + 1) (hp_i h 96 (k + 1) + 1)) 109 k + 1)) := by
  obtain ⟨i1, i2, i3, i4, i5, i6, i7, i8⟩ := I
  have hw := i1.1
  have e : ex PEr (fun _ _ => False) h (hp_si (hp_si h 96 (k + 1) (hp_i h 96 (k + 1) + 1)) 109 k (hp_i (hp_si h 96 (k + 1) (hp_i h 96 (k + 1) + 1)) 109 k + 1)) := ((fr_si (P := PEr) (Or.inl rfl)).si (Or.inr rfl)).ex
  refine ⟨wf_ex e (fun a j z => absurd z id) i1, i2, ?_, ?_, ?_, ?_, ?_, ?_⟩
  · exact i3.ex hw e (fun a j z => by rcases z with rfl | rfl <;> exact ⟨by omega, by omega, by decide⟩) (fun _ _ z => absurd z id)
  · exact i4.ex hw e (fun a j z => by rcases z with rfl | rfl <;> exact ⟨by omega, by omega, by decide, by omega, by omega⟩) (fun _ _ z => absurd z id)
  · intro j hj
    rw [hp_i_si, if_neg (by omega), hp_i_si, hp_i_si]
    by_cases g : j = k
    · subst g
      rw [if_pos ⟨rfl, rfl⟩, if_pos ⟨rfl, rfl⟩, i5 j hj, hp_i_si, if_neg (by omega)]
    · rw [if_neg (by omega), if_neg (by omega), hp_i_si, if_neg (by omega)]
      exact i5 j hj
  · exact i6.ex hw e (fun a j z => by rcases z with rfl | rfl <;> omega)
  · exact i7.ex hw e (fun a j z => by rcases z with rfl | rfl <;> omega)
  · exact i8.ex hw e (fun a j z => by rcases z with rfl | rfl <;> omega)
abbrev Fin (h : hp_T) (r1 r2 : Int32) (h2 : hp_T) : Prop := r1 = r2 ∧ Inv h2
/-- both sides count the same error -/
theorem e_both {x e : Int32} {k : Nat} {h : hp_T} (hk : k < 6) (hx : x = nI (k + 1)) (he : (-1000000000 : Int32) - x = e) (he2 : (-1000000001 : Int32) - e = nI k) (I : Inv h) : wp_X7_error x h (fun r1 h1 => wp_X8_errs e h1 (fun r2 h2 => r1 = r2 ∧ Inv h2)) :=
  e_err hk hx he fun _ => e_errs hk he2 ⟨rfl, Inv_er hk I⟩
theorem e1 {h : hp_T} (I : Inv h) : wp_X7_error 1 h (fun r1 h1 => wp_X8_errs (-1000000001) h1 (fun r2 h2 => r1 = r2 ∧ Inv h2)) := e_both (k := 0) (by decide) rfl rfl rfl I
theorem e2 {h : hp_T} (I : Inv h) : wp_X7_error 2 h (fun r1 h1 => wp_X8_errs (-1000000002) h1 (fun r2 h2 => r1 = r2 ∧ Inv h2)) := e_both (k := 1) (by decide) rfl rfl rfl I
theorem e3 {h : hp_T} (I : Inv h) : wp_X7_error 3 h (fun r1 h1 => wp_X8_errs (-1000000003) h1 (fun r2 h2 => r1 = r2 ∧ Inv h2)) := e_both (k := 2) (by decide) rfl rfl rfl I
theorem e4 {h : hp_T} (I : Inv h) : wp_X7_error 4 h (fun r1 h1 => wp_X8_errs (-1000000004) h1 (fun r2 h2 => r1 = r2 ∧ Inv h2)) := e_both (k := 3) (by decide) rfl rfl rfl I
theorem e5 {h : hp_T} (I : Inv h) : wp_X7_error 5 h (fun r1 h1 => wp_X8_errs (-1000000005) h1 (fun r2 h2 => r1 = r2 ∧ Inv h2)) := e_both (k := 4) (by decide) rfl rfl rfl I
theorem e6 {h : hp_T} (I : Inv h) : wp_X7_error 6 h (fun r1 h1 => wp_X8_errs (-1000000006) h1 (fun r2 h2 => r1 = r2 ∧ Inv h2)) := e_both (k := 5) (by decide) rfl rfl rfl I
