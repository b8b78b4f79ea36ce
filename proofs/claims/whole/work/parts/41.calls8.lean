/-! ===== PURE: the calls: lost, wages ===== -/
theorem PMa_row {a j : Nat} (h : a ≠ 106 ∧ a ≠ 108 ∧ a ≠ 110 ∧ a ≠ 105) : ¬ PMa a j := by
  intro z
  rcases z with z | z | z | z <;> omega
/-- an error: what ahead leaves -/
theorem Inv_ahe {h h1 h2 : hp_T} {k : Nat} (hk : k < 6) (I : Inv h) (n1 : hp_n h1 = hp_n h) (e1 : ex PTK RTK h h1) (f2 : fr PMa (er h1 k) h2) (h6 : hp_i h2 106 = hp_i h 106) (h8 : hp_i h2 108 = hp_i h 106) : Inv (hp_si h2 109 k (hp_i h2 109 k + 1)) := by
  have hw := I.n
  have a96 : hp_i h1 96 = hp_i h 96 := e1.row (by omega) (fun j => PTK_row (by decide) (by decide))
  have a109 : hp_i h1 109 = hp_i h 109 := e1.row (by omega) (fun j => PTK_row (by decide) (by decide))
  have b96 : hp_i h2 96 = ss (hp_i h 96) (k + 1) (hp_i h 96 (k + 1) + 1) := by
    rw [f2.row (fun j => PMa_row (by decide))]
    unfold er
    rw [si_row, a96]
  have b109 : hp_i h2 109 = hp_i h 109 := by rw [f2.row (fun j => PMa_row (by decide)), er_row (by decide), a109]
  have fe : fr PA h1 (er h1 k) := fr_si (Or.inr (Or.inr (Or.inr (Or.inr (Or.inr (Or.inr (Or.inl rfl)))))))
  refine Inv_ah I (((e1.mono (fun a j z => PTK_A z) (fun a j z => z)).trans (fe.ex.trans (f2.ex.mono (fun a j z => PMa_A z) (fun _ _ z => z)))).si (Or.inr (Or.inr (Or.inr (Or.inr (Or.inl rfl)))))) ?_ ?_ (fun j hj => ?_) (Or.inr ⟨k, hk, ?_, ?_⟩)
  · show hp_n h2 = _
    rw [f2.n]
    exact n1
  · rw [si_row_ne (by decide)]; exact h6
  · rw [si_row_ne (by decide), h8]; exact (I.zr j hj).1
  · rw [si_row_ne (by decide)]; exact b96
  · rw [si_row, b109]
noncomputable def lof (k : Int32) : Nat → Nat → st_T → Option Nat
  | 0 => fun _ _ => none
  | r + 1 => fun i T => if kns T k = 0 then some i else lof k r (i + 1) (dy false T).1
theorem w_lost_L {n k : Nat} (hn : n ≤ 1000) (hk : k < 6) {Q : Int32 → hp_T → Prop} : ∀ (r i nn : Nat) (D : Int) (T : st_T) (h : hp_T), i + r = n + 1 → r < nn → D + r ≤ 100000 → Vl D T → Rl h 61 T → (lof (nI k) r i T = none → ∀ h1, fr PTK h h1 → wp_X7_error 2 h1 Q) → (∀ j, lof (nI k) r i T = some j → ∀ h1, fr PTK h h1 → Q (nI j) h1) → wp_X7_lost_L30 (nI k) (nI n) Q nn (nI i) h := by
  have k5 : (0 : Int32) ≤ nI k ∧ nI k ≤ 5 := by
    rw [i_le, i_le, i_nI (by omega)]
    have e0 : (0 : Int32).toInt = 0 := rfl
    have e5 : (5 : Int32).toInt = 5 := rfl
    omega
  intro r
  induction r with
  | zero =>
    intro i nn D T h hi hnn hD hV R q0 q1
    obtain ⟨nn, rfl⟩ : ∃ m, nn = m + 1 := ⟨nn - 1, by omega⟩
    unfold wp_X7_lost_L30
    exact ⟨fun _ => q0 rfl h fr.refl, fun z => absurd (nI_lt (by omega) (by omega)) z⟩
  | succ r ih =>
    intro i nn D T h hi hnn hD hV R q0 q1
    obtain ⟨nn, rfl⟩ : ∃ m, nn = m + 1 := ⟨nn - 1, by omega⟩
    unfold wp_X7_lost_L30
    refine ⟨fun z => absurd z (nI_nlt (by omega) (by omega)), fun _ => ?_⟩
    refine w_knowers hV.1 k5 R.i ?_
    have e : lof (nI k) (r + 1) i T = if kns T (nI k) = 0 then some i else lof (nI k) r (i + 1) (dy false T).1 := rfl
    rw [e] at q0 q1
    refine ⟨fun z => ?_, fun z => ?_⟩
    · rw [if_pos z] at q1
      exact q1 i rfl h fr.refl
    · rw [if_neg z] at q0 q1
      refine w_passDay (by decide) hV R ?_
      intro h1 f1 R1
      have f1' : fr PTK h h1 := f1.mono fun a j z => PS_PTK (cr6 hV.1) z
      rw [show nI i + 1 = nI (i + 1) from nI_1 i]
      exact ih (i + 1) nn (D + 1) (dy false T).1 h1 (by omega) (by omega) (by omega) (Vl_dy false hV (by omega)) R1 (fun y h2 f2 => q0 y h2 (f1'.trans f2)) (fun j y h2 f2 => q1 j y h2 (f1'.trans f2))
theorem m_lost_L {n k : Nat} {S : st_T} (hn : n ≤ 1000) (hzS : ∀ j, 357 ≤ j → S j = 0) {Q : Int32 → hp_T → Prop} : ∀ (r i nn : Nat) (D : Int) (T : st_T) (h : hp_T), i + r = n + 1 → r < nn → D + r ≤ 100000 → Vl D T → hp_i h 106 = T → hp_i h 108 = S → (∀ j, 357 ≤ j → T j = 0) → (lof (nI k) r i T = none → ∀ h1, fr PMa h h1 → hp_i h1 106 = S → hp_i h1 108 = S → wp_X8_errs (-1000000002) h1 Q) → (∀ j, lof (nI k) r i T = some j → ∀ h1, fr PMa h h1 → hp_i h1 106 = S → hp_i h1 108 = S → Q (nI j) h1) → wp_X8_lost_L32 (nI k) (nI n) Q nn (nI i) h := by
  intro r
  induction r with
  | zero =>
    intro i nn D T h hi hnn hD hV hT h8 hz q0 q1
    obtain ⟨nn, rfl⟩ : ∃ m, nn = m + 1 := ⟨nn - 1, by omega⟩
    unfold wp_X8_lost_L32
    refine ⟨fun _ => m_back h8 (fun j hj => ⟨hzS j hj, by rw [hT]; exact hz j hj⟩) (fun h1 f1 a b => ⟨fun y => absurd y (nI_ge (by omega) (by omega)), fun _ => q0 rfl h1 f1 a b⟩), fun z => absurd (nI_lt (by omega) (by omega)) z⟩
  | succ r ih =>
    intro i nn D T h hi hnn hD hV hT h8 hz q0 q1
    obtain ⟨nn, rfl⟩ : ∃ m, nn = m + 1 := ⟨nn - 1, by omega⟩
    unfold wp_X8_lost_L32
    refine ⟨fun z => absurd z (nI_nlt (by omega) (by omega)), fun _ => ?_⟩
    refine m_knowers hV.1 hT ?_
    have e : lof (nI k) (r + 1) i T = if kns T (nI k) = 0 then some i else lof (nI k) r (i + 1) (dy false T).1 := rfl
    rw [e] at q0 q1
    obtain ⟨c, hc, ek⟩ := kns_le (S := T) (k := nI k)
    have c6 := cr6 hV.1
    refine ⟨fun z => ?_, fun z => ?_⟩
    · have z0 : kns T (nI k) = 0 := by
        rw [ek] at z ⊢
        have : c ≤ 0 := (nI_leI (b := 0) (by omega) (by decide)).mp z
        rw [show c = 0 by omega]; rfl
      rw [if_pos z0] at q1
      exact m_back h8 (fun j hj => ⟨hzS j hj, by rw [hT]; exact hz j hj⟩) (fun h1 f1 a b => ⟨fun _ => q1 i rfl h1 f1 a b, fun y => absurd (nI_le (by omega) (by omega)) y⟩)
    · have z0 : ¬ kns T (nI k) = 0 := fun y => z (by rw [y]; decide)
      rw [if_neg z0] at q0 q1
      refine m_day (dr := false) (by simp) hV hT ?_
      intro h1 f1 e1 _ _
      have f1' : fr PMa h h1 := f1.mono fun a j z => PD_Ma z
      rw [show nI i + 1 = nI (i + 1) from nI_1 i]
      exact ih (i + 1) nn (D + 1) (dy false T).1 h1 (by omega) (by omega) (by omega) (Vl_dy false hV (by omega)) e1 (by rw [f1.row (fun j z => by have z : PD 108 j := z; omega)]; exact h8) (fun j hj => by rw [dy_out hV (by omega) (by omega)]; exact hz j hj) (fun y h2 f2 => q0 y h2 (f1'.trans f2)) (fun j y h2 f2 => q1 j y h2 (f1'.trans f2))
theorem c_lost {x y : Int32} {h : hp_T} (I : Inv h) : wp_X7_lost x y h (fun r1 h1 => wp_X8_lost x y h1 (fun r2 h2 => r1 = r2 ∧ Inv h2)) := by
  have V := I.V
  have hw := I.n
  unfold wp_X7_lost
  simp only [w_isKnack, w_within, bi_0, er1]
  have bad : ∀ h', ¬ ((0 ≤ x ∧ x ≤ 5) ∧ 0 ≤ y ∧ y ≤ 90) → wp_X8_errs (-1000000001) h' (fun r2 h2 => (-1000000001 : Int32) = r2 ∧ Inv h2) → wp_X8_lost x y h' (fun r2 h2 => (-1000000001 : Int32) = r2 ∧ Inv h2) := by
    intro h' z f
    unfold wp_X8_lost
    simp only [x_isKnack, in_0_90, bi_0]
    exact ⟨fun _ => f, fun w1 => ⟨fun _ => f, fun w2 => absurd ⟨Classical.not_not.mp w1, Classical.not_not.mp w2⟩ z⟩⟩
  refine ⟨fun z => bad _ (fun q => z q.1) (f1 I), fun z => ⟨fun z2 => bad _ (fun q => z2 q.2) (f1 I), fun z2 => ?_⟩⟩
  obtain ⟨k, k5, rfl⟩ := nat_of (n := 5) (Classical.not_not.mp z) rfl
  obtain ⟨n, n90, rfl⟩ := nat_of (n := 90) (Classical.not_not.mp z2) rfl
  have ref : ∀ (h' : hp_T) (Q : Int32 → hp_T → Prop), hp_i h' 106 = hp_i h 106 → hp_i h' 108 = hp_i h 108 → (lof (nI k) (n + 1) 0 (hp_i h 106) = none → ∀ h1, fr PMa h' h1 → hp_i h1 106 = hp_i h 106 → hp_i h1 108 = hp_i h 106 → wp_X8_errs (-1000000002) h1 Q) → (∀ j, lof (nI k) (n + 1) 0 (hp_i h 106) = some j → ∀ h1, fr PMa h' h1 → hp_i h1 106 = hp_i h 106 → hp_i h1 108 = hp_i h 106 → Q (nI j) h1) → wp_X8_lost (nI k) (nI n) h' Q := by
    intro h' Q e6 e8 q0 q1
    unfold wp_X8_lost
    simp only [x_isKnack, in_0_90, bi_0]
    refine ⟨fun w => absurd w z, fun _ => ⟨fun w => absurd w z2, fun _ => ?_⟩⟩
    refine m_keep e6 (fun j hj => ⟨(I.zr j hj).1, by rw [e8]; exact (I.zr j hj).2.2⟩) ?_
    intro h3 f3 e36 e38
    exact ⟨n + 2, m_lost_L (by omega) (fun j hj => (I.zr j hj).1) (n + 1) 0 (n + 2) 9999 (hp_i h 106) h3 (by omega) (by omega) (by omega) V e36 e38 (fun j hj => (I.zr j hj).1) (fun w h4 f4 => q0 w h4 (f3.trans f4)) (fun j w h4 f4 => q1 j w h4 (f3.trans f4))⟩
  refine w_goAhead (n := 0) (by omega) hw V I.R ?_
  intro h1 m1 e1 R1
  refine ⟨n + 2, w_lost_L (by omega) (by omega) (n + 1) 0 (n + 2) 9999 (hp_i h 106) h1 (by omega) (by omega) (by omega) V R1 ?_ ?_⟩
  · intro g h2 f2
    have e2 : ex PTK RTK h h2 := e1.trans f2.ex
    rw [er2]
    refine ref _ _ (by rw [er_row (by decide)]; exact e2.row (by omega) (fun j => PTK_row (by decide) (by decide))) (by rw [er_row (by decide)]; exact e2.row (by omega) (fun j => PTK_row (by decide) (by decide))) (fun _ h3 f3 a b => ?_) (fun j w => absurd (g.symm.trans w) (by simp))
    exact e_errs (k := 1) (by decide) rfl ⟨rfl, Inv_ahe (by decide) I (by rw [f2.n, m1]) e2 f3 a b⟩
  · intro j g h2 f2
    have e2 : ex PTK RTK h h2 := e1.trans f2.ex
    refine ref _ _ (e2.row (by omega) (fun j => PTK_row (by decide) (by decide))) (e2.row (by omega) (fun j => PTK_row (by decide) (by decide))) (fun w => absurd (g.symm.trans w) (by simp)) (fun j' w h3 f3 a b => ?_)
    have : j = j' := Option.some.inj (g.symm.trans w)
    subst this
    exact ⟨rfl, Inv_ah0 I (by rw [f2.n, m1]) e2 f3 a b⟩
