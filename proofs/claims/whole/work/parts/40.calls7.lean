/-! ===== PURE: the calls: days, draws, then, thenTask ===== -/
theorem Vl_D {D D' : Int} {S : st_T} (hV : Vl D S) (h : (S 3).toInt ≤ D') : Vl D' S := ⟨hV.1, hV.2.1, hV.2.2.1, ⟨hV.2.2.2.1.1, h⟩, hV.2.2.2.2⟩
theorem RK_days {c : Nat} {D : Int} {S : st_T} {h h1 : hp_T} (K : RK h) (f : fr (PS 1 c) h h1) (R : RI h1 1 S) (hV : Vl D S) (hc : cr S = c) : RK h1 := by
  intro b hb
  have c6 := cr6 hV.1
  by_cases g : b < c
  · rw [R.bk 3 (by omega) hb (by decide)]
    exact (hV.2.2.2.2.2.2.2.1 b (by omega)).2.2.1
  · rw [f.2 _ _ (by
      intro z
      rcases z with z | z | z
      · omega
      · omega
      · have := k17 z; omega)]
    exact K b hb
theorem cr_dy {D : Int} {S : st_T} {dr : Bool} (hV : Vl D S) : cr (dy dr S).1 = cr S := cr_eq (dy_out hV (by omega) (by decide))
theorem cr_dyF {D : Int} {x : st_T × Int32 × Int32} {i : Nat} {dr : Bool} (hV : Vl D x.1) : cr (dyF dr i x).1 = cr x.1 := by
  have e : (dyF dr i x).1 = (dy dr x.1).1 := rfl
  rw [e]
  exact cr_dy hV
theorem w_days_L {n c : Nat} (hn : n ≤ 1000) {Q : Int32 → hp_T → Prop} : ∀ (r i nn : Nat) (D : Int) (x : st_T × Int32 × Int32) (h : hp_T), i + r = n → r < nn → D + r ≤ 100000 → Vl D x.1 → cr x.1 = c → Rl h 1 x.1 → (∀ h1, fr (PS 1 c) h h1 → Rl h1 1 (lp (dyF false) i r x).1 → Q (lp (dyF false) i r x).2.1 h1) → wp_X7_days_L41 (nI n) Q nn x.2.1 (nI i) h := by
  intro r
  induction r with
  | zero =>
    intro i nn D x h hi hnn hD hV hc R hq
    obtain ⟨nn, rfl⟩ : ∃ m, nn = m + 1 := ⟨nn - 1, by omega⟩
    unfold wp_X7_days_L41
    exact ⟨fun _ => hq h fr.refl R, fun z => absurd (nI_le (by omega) (by omega)) z⟩
  | succ r ih =>
    intro i nn D x h hi hnn hD hV hc R hq
    obtain ⟨nn, rfl⟩ : ∃ m, nn = m + 1 := ⟨nn - 1, by omega⟩
    unfold wp_X7_days_L41
    refine ⟨fun z => absurd z (nI_ge (by omega) (by omega)), fun _ => ?_⟩
    refine w_passDay (by decide) hV R ?_
    intro h1 f1 R1
    rw [show nI i + 1 = nI (i + 1) from nI_1 i]
    rw [hc] at f1
    refine ih (i + 1) nn (D + 1) (dyF false i x) h1 (by omega) (by omega) (by omega) (Vl_dy false hV (by omega)) ((cr_dyF (dr := false) (i := i) hV).trans hc) R1 ?_
    intro h2 f2 R2
    exact hq h2 (f1.trans f2) R2
theorem w_draws_L {n c : Nat} (hn : n ≤ 1000) {Q : Int32 → hp_T → Prop} : ∀ (r i nn : Nat) (D : Int) (x : st_T × Int32 × Int32) (h : hp_T), i + r = n → r < nn → D + r ≤ 100000 → Vl D x.1 → cr x.1 = c → Rl h 1 x.1 → (∀ h1, fr (PS 1 c) h h1 → Rl h1 1 (lp (dyF true) i r x).1 → Q (lp (dyF true) i r x).2.2 h1) → wp_X7_draws_L41 (nI n) Q nn x.2.2 (nI i) h := by
  intro r
  induction r with
  | zero =>
    intro i nn D x h hi hnn hD hV hc R hq
    obtain ⟨nn, rfl⟩ : ∃ m, nn = m + 1 := ⟨nn - 1, by omega⟩
    unfold wp_X7_draws_L41
    exact ⟨fun _ => hq h fr.refl R, fun z => absurd (nI_le (by omega) (by omega)) z⟩
  | succ r ih =>
    intro i nn D x h hi hnn hD hV hc R hq
    obtain ⟨nn, rfl⟩ : ∃ m, nn = m + 1 := ⟨nn - 1, by omega⟩
    unfold wp_X7_draws_L41
    refine ⟨fun z => absurd z (nI_ge (by omega) (by omega)), fun _ => ?_⟩
    refine w_passDayByDraws (by decide) hV R ?_
    intro h1 f1 R1
    rw [show nI i + 1 = nI (i + 1) from nI_1 i]
    rw [hc] at f1
    refine ih (i + 1) nn (D + 1) (dyF true i x) h1 (by omega) (by omega) (by omega) (Vl_dy true hV (by omega)) ((cr_dyF (dr := true) (i := i) hV).trans hc) R1 ?_
    intro h2 f2 R2
    exact hq h2 (f1.trans f2) R2
theorem PS_row {c a j : Nat} (ha : 91 ≤ a) (hk : ab_k a ≠ 17) (hc : c ≤ 6) {p : Nat} (hp : p ≤ 61) : ¬ PS p c a j := by
  intro z
  rcases z with z | z | z
  · omega
  · omega
  · exact hk z
theorem fr.row {P : Nat → Nat → Prop} {h h1 : hp_T} (f : fr P h h1) {a : Nat} (hP : ∀ j, ¬ P a j) : hp_i h1 a = hp_i h a := by
  funext j
  exact f.2 a j (hP j)
theorem span_of {x lo hi : Int32} {a b : Nat} (h : lo ≤ x ∧ x ≤ hi) (h1 : lo.toInt = a) (h2 : hi.toInt = b) : ∃ w, a ≤ w ∧ w ≤ b ∧ x = nI w := by
  rw [i_le, i_le] at h
  have := Int32.toInt_lt x
  exact ⟨x.toInt.toNat, by omega, by omega, by rw [i_eq, i_nI (by omega)]; omega⟩
/-- the days have gone on both sides -/
theorem Inv_days {h h1 h2 : hp_T} {n : Nat} {dr : Bool} (I : Inv h) (hn : n ≤ 1000) (hD : (hp_i h 106 3).toInt + n ≤ 9999) (f1 : fr (PS 1 (cr (hp_i h 106))) h h1) (R1 : Rl h1 1 (dys dr n (hp_i h 106)).1) (f2 : fr PD h1 h2) (e2 : hp_i h2 106 = (dys dr n (hp_i h 106)).1) : Inv h2 := by
  have V := I.V
  have hw := I.n
  have V' : Vl (hp_i h 106 3).toInt (hp_i h 106) := Vl_D V (Int.le_refl _)
  have c6 := cr6 V.1
  have VD : Vl ((hp_i h 106 3).toInt + n) (dys dr n (hp_i h 106)).1 := by rw [dys_eq]; exact Vl_dys n 0 _ _ (by omega) V'
  have V9 : Vl 9999 (dys dr n (hp_i h 106)).1 := Vl_D VD (by have := VD.2.2.2.1.2; omega)
  have o : ∀ j, (j < 11 ∨ 153 ≤ j) → (j ≠ 2 ∧ j ≠ 3 ∧ j ≠ 6) → (dys dr n (hp_i h 106)).1 j = hp_i h 106 j := fun j h1 h2 => by rw [dys_eq]; exact dys_out h1 h2 n 0 _ _ (by omega) V'
  have crn : cr (dys dr n (hp_i h 106)).1 = cr (hp_i h 106) := cr_eq (o 0 (by omega) (by omega))
  have n2 : hp_n h2 = hp_n h := by rw [f2.n, f1.n]
  have pd : ∀ a j, PD a j → (a = 106 ∨ a = 110 ∨ (a = 105 ∧ (j = 12 ∨ j = 13))) := fun a j z => z
  have e : ex PG RG h h2 := (f1.ex.mono (fun a j z => by
    rcases z with z | z | z
    · exact Or.inl ⟨by omega, by omega⟩
    · exact Or.inl ⟨by omega, by omega⟩
    · exact Or.inr (Or.inr (Or.inl z))) (fun _ _ z => z)).trans (f2.ex.mono (fun a j z => by
    rcases z with z | z | z
    · exact Or.inr (Or.inr (Or.inr (Or.inl z)))
    · exact Or.inr (Or.inr (Or.inr (Or.inr (Or.inr (Or.inr (Or.inl z))))))
    · exact Or.inr (Or.inr (Or.inr (Or.inr (Or.inr (Or.inr (Or.inr (Or.inr (Or.inr ⟨z.1, by omega, by omega⟩))))))))) (fun _ _ z => z))
  refine I.gen e (by rw [n2]; exact I.2.1) ⟨by rw [e2]; exact V9, ?_, ?_⟩ ?_ ?_
  · rw [e2]
    exact R1.ex (P := PD) (Rf := fun _ _ => False) (by decide) (by rw [f1.n]; exact hw) f2.ex (fun a j z => by have := pd a j z; omega) (fun a j z => lt117_16 (by have := pd a j z; omega)) (fun _ _ z => absurd z id)
  · exact RK_fr (RK_days I.K f1 R1.i VD crn) f2 (fun b hb z => by have := pd _ _ z; omega)
  · intro k hk
    rw [f2.2 96 _ (fun z => by have := pd _ _ z; omega), f2.2 109 _ (fun z => by have := pd _ _ z; omega), f1.2 96 _ (PS_row (by decide) (by decide) c6 (by decide)), f1.2 109 _ (PS_row (by decide) (by decide) c6 (by decide))]
    exact I.e k hk
  · intro j hj
    rw [e2, o j (by omega) (by omega), f2.2 108 _ (fun z => by have := pd _ _ z; omega), f1.2 108 _ (PS_row (by decide) (by decide) c6 (by decide))]
    exact ⟨(I.zr j hj).1, (I.zr j hj).2.2⟩
theorem day_le {S : st_T} {n : Nat} (hd : rg (S 3) 0 9999) (hn : n ≤ 1000) : (S 3 + nI n ≤ 9999) = ((S 3).toInt + n ≤ 9999) := by
  unfold rg at hd
  have e9 : (9999 : Int32).toInt = 9999 := rfl
  rw [i_le, i_add (by rw [i_nI (by omega)]; omega) (by rw [i_nI (by omega)]; omega), i_nI (by omega), e9]
theorem x_wrong {S : st_T} {h : hp_T} {x : Int32} {Q : Int32 → Prop} (hS : hp_i h 106 = S) : wp_X8_daysWrong x h Q = ((¬ (1 ≤ x ∧ x ≤ 90) → Q (-1000000001)) ∧ (¬ ¬ (1 ≤ x ∧ x ≤ 90) → ((S 3 + x ≤ 9999 → Q 0) ∧ (¬ (S 3 + x ≤ 9999) → Q (-1000000003))))) := by
  unfold wp_X8_daysWrong
  simp only [x_isSpan, bi_0, hS]
theorem c_days {x : Int32} {h : hp_T} (I : Inv h) : wp_X7_days x h (fun r1 h1 => wp_X8_days x h1 (fun r2 h2 => r1 = r2 ∧ Inv h2)) := by
  have V := I.V
  have c6 := cr6 V.1
  unfold wp_X7_days
  simp only [w_within, bi_0, er1, er3]
  rw [I.R.i.day]
  refine ⟨fun z => ?_, fun z => ⟨fun z2 => ?_, fun z2 => ?_⟩⟩
  · unfold wp_X8_days
    rw [x_wrong (er_row (by decide))]
    exact ⟨fun _ => ⟨fun w => absurd w (by decide), fun _ => f1 I⟩, fun w => absurd z w⟩
  · obtain ⟨n, n1, n2, rfl⟩ := span_of (a := 1) (b := 90) (Classical.not_not.mp z) rfl rfl
    have hD := z2
    rw [day_le V.2.2.2.1 (by omega)] at hD
    refine ⟨n + 1, w_days_L (by omega) n 0 (n + 1) 9999 (hp_i h 106, 0, 0) h (by omega) (by omega) (by omega) V rfl I.R ?_⟩
    intro h1 f1 R1
    rw [← dys_eq] at R1 ⊢
    have e106 : hp_i h1 106 = hp_i h 106 := f1.row (fun j => PS_row (by decide) (by decide) c6 (by decide))
    unfold wp_X8_days
    rw [x_wrong e106]
    refine ⟨fun w => absurd w z, fun _ => ⟨fun _ => ⟨fun _ => ?_, fun w => absurd rfl w⟩, fun w => absurd z2 w⟩⟩
    refine m_daysGo (dr := false) (by omega) (by simp) (D := 9999) (by omega) V e106 ?_
    intro h2 f2 e2 e12 _
    exact ⟨e12.symm, Inv_days I (by omega) hD f1 R1 f2 e2⟩
  · unfold wp_X8_days
    rw [x_wrong (er_row (by decide))]
    exact ⟨fun w => absurd w z, fun _ => ⟨fun w => absurd w z2, fun _ => ⟨fun w => absurd w (by decide), fun _ => f3 I⟩⟩⟩
theorem c_draws {x : Int32} {h : hp_T} (I : Inv h) : wp_X7_draws x h (fun r1 h1 => wp_X8_draws x h1 (fun r2 h2 => r1 = r2 ∧ Inv h2)) := by
  have V := I.V
  have c6 := cr6 V.1
  unfold wp_X7_draws
  simp only [w_within, bi_0, er1, er3]
  rw [I.R.i.day]
  refine ⟨fun z => ?_, fun z => ⟨fun z2 => ?_, fun z2 => ?_⟩⟩
  · unfold wp_X8_draws
    rw [x_wrong (er_row (by decide))]
    exact ⟨fun _ => ⟨fun w => absurd w (by decide), fun _ => f1 I⟩, fun w => absurd z w⟩
  · obtain ⟨n, n1, n2, rfl⟩ := span_of (a := 1) (b := 90) (Classical.not_not.mp z) rfl rfl
    have hD := z2
    rw [day_le V.2.2.2.1 (by omega)] at hD
    refine ⟨n + 1, w_draws_L (by omega) n 0 (n + 1) 9999 (hp_i h 106, 0, 0) h (by omega) (by omega) (by omega) V rfl I.R ?_⟩
    intro h1 f1 R1
    rw [← dys_eq] at R1 ⊢
    have e106 : hp_i h1 106 = hp_i h 106 := f1.row (fun j => PS_row (by decide) (by decide) c6 (by decide))
    unfold wp_X8_draws
    rw [x_wrong e106]
    refine ⟨fun w => absurd w z, fun _ => ⟨fun _ => ⟨fun _ => ?_, fun w => absurd rfl w⟩, fun w => absurd z2 w⟩⟩
    refine m_daysGo (dr := true) (by omega) (by simp) (D := 9999) (by omega) V e106 ?_
    intro h2 f2 e2 _ e13
    exact ⟨e13.symm, Inv_days I (by omega) hD f1 R1 f2 e2⟩
  · unfold wp_X8_draws
    rw [x_wrong (er_row (by decide))]
    exact ⟨fun w => absurd w z, fun _ => ⟨fun w => absurd w z2, fun _ => ⟨fun w => absurd w (by decide), fun _ => f3 I⟩⟩⟩
/-! what would be -/
abbrev PTK : Nat → Nat → Prop := fun a _ => (61 ≤ a ∧ a < 91) ∨ ab_k a = 17
abbrev RTK : Nat → Nat → Prop := fun a _ => a = 67
abbrev PA : Nat → Nat → Prop := fun a j => (61 ≤ a ∧ a < 91) ∨ ab_k a = 17 ∨ a = 106 ∨ a = 108 ∨ a = 109 ∨ a = 110 ∨ a = 96 ∨ (a = 105 ∧ (j = 12 ∨ j = 13))
def Ieq (h h2 : hp_T) : Prop := (hp_i h2 96 = hp_i h 96 ∧ hp_i h2 109 = hp_i h 109) ∨ ∃ k, k < 6 ∧ hp_i h2 96 = ss (hp_i h 96) (k + 1) (hp_i h 96 (k + 1) + 1) ∧ hp_i h2 109 = ss (hp_i h 109) k (hp_i h 109 k + 1)
theorem Ier_eq {h h2 : hp_T} (I : Ier h) (e : Ieq h h2) : Ier h2 := by
  intro j hj
  rcases e with ⟨e1, e2⟩ | ⟨k, hk, e1, e2⟩
  · rw [e1, e2]; exact I j hj
  · rw [e1, e2]
    unfold ss
    by_cases g : j = k
    · subst g; rw [if_pos rfl, if_pos rfl, I j hj]
    · rw [if_neg (by omega), if_neg g]; exact I j hj
theorem PA_o {a j : Nat} (h : PA a j) : (61 ≤ a ∧ a < 91) ∨ 117 ≤ a ∨ a = 106 ∨ a = 108 ∨ a = 109 ∨ a = 110 ∨ a = 96 ∨ (a = 105 ∧ (j = 12 ∨ j = 13)) := by
  rcases h with h | h | h
  · exact Or.inl h
  · exact Or.inr (Or.inl (k17 h))
  · exact Or.inr (Or.inr h)
theorem PA_16 {a j : Nat} (h : PA a j) : ab_k a ≠ 16 := by
  intro z
  have := k16 z
  rcases h with h | h | h
  · omega
  · rw [z] at h; exact absurd h (by decide)
  · omega
theorem Inv_ah {h h2 : hp_T} (I : Inv h) (e : ex PA RTK h h2) (hn : hp_n h2 = hp_n h) (h6 : hp_i h2 106 = hp_i h 106) (h8 : ∀ j, 357 ≤ j → hp_i h2 108 j = 0) (hE : Ieq h h2) : Inv h2 := by
  have hw := I.n
  refine I.gen (e.mono (fun a j z => ?_) (fun a j z => Or.inr (Or.inl z))) (by rw [hn]; exact I.2.1) ⟨by rw [h6]; exact I.V, ?_, fun b hb => ?_⟩ (Ier_eq I.e hE) (fun j hj => ⟨by rw [h6]; exact (I.zr j hj).1, h8 j hj⟩)
  · rcases z with z | z | z | z | z | z | z | z
    · exact Or.inr (Or.inl ⟨z.1, by omega⟩)
    · exact Or.inr (Or.inr (Or.inl z))
    · exact Or.inr (Or.inr (Or.inr (Or.inl z)))
    · exact Or.inr (Or.inr (Or.inr (Or.inr (Or.inl z))))
    · exact Or.inr (Or.inr (Or.inr (Or.inr (Or.inr (Or.inl z)))))
    · exact Or.inr (Or.inr (Or.inr (Or.inr (Or.inr (Or.inr (Or.inl z))))))
    · exact Or.inr (Or.inr (Or.inr (Or.inr (Or.inr (Or.inr (Or.inr (Or.inr (Or.inl z))))))))
    · exact Or.inr (Or.inr (Or.inr (Or.inr (Or.inr (Or.inr (Or.inr (Or.inr (Or.inr ⟨z.1, by omega, by omega⟩))))))))
  · rw [h6]
    exact I.R.ex (by decide) hw e (fun a j z => by have := PA_o z; omega) (fun a j z => PA_16 z) (fun a j z => by
      have z : a = 67 := z
      subst z
      exact ⟨by decide, by decide⟩)
  · rw [e.2.2.2 _ _ (by omega) (fun z => by have := PA_o z; omega)]
    exact I.K b hb
theorem w_copyT {h : hp_T} {S : st_T} {Q : hp_T → Prop} (hw : 117 ≤ hp_n h) (hV : Vl 9999 S) (R : Rl h 1 S) (hQ : ∀ h1, hp_n h1 = hp_n h → ex PTK RTK h h1 → Rl h1 61 S → Q h1) : wp_X2_copyFrom 61 1 h Q := by
  have c6 := cr6 hV.1
  refine w_copyFrom (p := 61) (q := 1) (by unfold okP; omega) (by decide) (by decide) hw hV R ?_
  intro h1 n1 e1 R1
  exact hQ h1 n1 (e1.mono (fun a j z => Or.inl (by rcases z with z | z <;> omega)) (fun a j z => z)) R1
theorem PS_PTK {c a j : Nat} (hc : c ≤ 6) (h : PS 61 c a j) : PTK a j := by
  rcases h with h | h | h
  · exact Or.inl (by omega)
  · exact Or.inl (by omega)
  · exact Or.inr h
theorem w_goAhead_L {n : Nat} (hn : n ≤ 1000) {Q : hp_T → Prop} : ∀ (r i nn : Nat) (D : Int) (x : st_T × Int32 × Int32) (h : hp_T), i + r = n → r < nn → D + r ≤ 100000 → Vl D x.1 → Rl h 61 x.1 → (∀ h1, fr PTK h h1 → Rl h1 61 (lp (dyF false) i r x).1 → Q h1) → wp_X7_goAhead_L13 (nI n) Q nn (nI i) h := by
  intro r
  induction r with
  | zero =>
    intro i nn D x h hi hnn hD hV R hq
    obtain ⟨nn, rfl⟩ : ∃ m, nn = m + 1 := ⟨nn - 1, by omega⟩
    unfold wp_X7_goAhead_L13
    exact ⟨fun _ => hq h fr.refl R, fun z => absurd (nI_le (by omega) (by omega)) z⟩
  | succ r ih =>
    intro i nn D x h hi hnn hD hV R hq
    obtain ⟨nn, rfl⟩ : ∃ m, nn = m + 1 := ⟨nn - 1, by omega⟩
    unfold wp_X7_goAhead_L13
    refine ⟨fun z => absurd z (nI_ge (by omega) (by omega)), fun _ => ?_⟩
    refine w_passDay (by decide) hV R ?_
    intro h1 f1 R1
    rw [show nI i + 1 = nI (i + 1) from nI_1 i]
    refine ih (i + 1) nn (D + 1) (dyF false i x) h1 (by omega) (by omega) (by omega) (Vl_dy false hV (by omega)) R1 ?_
    intro h2 f2 R2
    exact hq h2 ((f1.mono fun a j z => PS_PTK (cr6 hV.1) z).trans f2) R2
theorem w_goAhead {h : hp_T} {n : Nat} {S : st_T} {Q : hp_T → Prop} (hn : n ≤ 1000) (hw : 117 ≤ hp_n h) (hV : Vl 9999 S) (R : Rl h 1 S) (hQ : ∀ h1, hp_n h1 = hp_n h → ex PTK RTK h h1 → Rl h1 61 (dys false n S).1 → Q h1) : wp_X7_goAhead (nI n) h Q := by
  unfold wp_X7_goAhead
  refine w_copyT hw hV R ?_
  intro h1 n1 e1 R1
  refine ⟨n + 1, w_goAhead_L hn n 0 (n + 1) 9999 (S, 0, 0) h1 (by omega) (by omega) (by omega) hV R1 ?_⟩
  intro h2 f2 R2
  rw [← dys_eq] at R2
  exact hQ h2 (by rw [f2.n, n1]) (e1.trans f2.ex) R2
/-- the reference keeps the row aside, goes on and puts it back -/
abbrev PMa : Nat → Nat → Prop := fun a j => a = 106 ∨ a = 108 ∨ a = 110 ∨ (a = 105 ∧ (j = 12 ∨ j = 13))
theorem cpy_z {A B : st_T} (h : ∀ j, 357 ≤ j → A j = 0 ∧ B j = 0) : cpy 357 A B = A := by
  funext j
  unfold cpy
  by_cases g : j < 357
  · rw [if_pos g]
  · rw [if_neg g, (h j (by omega)).1, (h j (by omega)).2]
theorem m_keep {h : hp_T} {S : st_T} {Q : hp_T → Prop} (hS : hp_i h 106 = S) (hz : ∀ j, 357 ≤ j → S j = 0 ∧ hp_i h 108 j = 0) (hQ : ∀ h1, fr PMa h h1 → hp_i h1 106 = S → hp_i h1 108 = S → Q h1) : wp_X8_keepsAside h Q := by
  refine m_keepsAside ?_
  intro h1 f1 e1
  rw [hS, cpy_z hz] at e1
  exact hQ h1 (f1.mono fun a j z => Or.inr (Or.inl z)) (by rw [f1.row (fun j z => by have z : (106 : Nat) = 108 := z; omega)]; exact hS) e1
theorem m_back {h : hp_T} {S : st_T} {Q : hp_T → Prop} (h8 : hp_i h 108 = S) (hz : ∀ j, 357 ≤ j → S j = 0 ∧ hp_i h 106 j = 0) (hQ : ∀ h1, fr PMa h h1 → hp_i h1 106 = S → hp_i h1 108 = S → Q h1) : wp_X8_putsBack h Q := by
  refine m_putsBack ?_
  intro h1 f1 e1
  rw [h8, cpy_z hz] at e1
  exact hQ h1 (f1.mono fun a j z => Or.inl z) e1 (by rw [f1.row (fun j z => by have z : (108 : Nat) = 106 := z; omega)]; exact h8)
theorem PD_Ma {a j : Nat} (h : PD a j) : PMa a j := by
  rcases h with h | h | h
  · exact Or.inl h
  · exact Or.inr (Or.inr (Or.inl h))
  · exact Or.inr (Or.inr (Or.inr h))
theorem PMa_A {a j : Nat} (h : PMa a j) : PA a j := by
  rcases h with h | h | h | h
  · exact Or.inr (Or.inr (Or.inl h))
  · exact Or.inr (Or.inr (Or.inr (Or.inl h)))
  · exact Or.inr (Or.inr (Or.inr (Or.inr (Or.inr (Or.inl h)))))
  · exact Or.inr (Or.inr (Or.inr (Or.inr (Or.inr (Or.inr (Or.inr h))))))
theorem PTK_A {a j : Nat} (h : PTK a j) : PA a j := by
  rcases h with h | h
  · exact Or.inl h
  · exact Or.inr (Or.inl h)
/-- no error: what ahead leaves -/
theorem Inv_ah0 {h h1 h2 : hp_T} (I : Inv h) (n1 : hp_n h1 = hp_n h) (e1 : ex PTK RTK h h1) (f2 : fr PMa h1 h2) (h6 : hp_i h2 106 = hp_i h 106) (h8 : hp_i h2 108 = hp_i h 106) : Inv h2 := by
  have hw := I.n
  refine Inv_ah I ((e1.mono (fun a j z => PTK_A z) (fun a j z => z)).trans (f2.ex.mono (fun a j z => PMa_A z) (fun _ _ z => z))) (by rw [f2.n, n1]) h6 (fun j hj => by rw [h8]; exact (I.zr j hj).1) (Or.inl ⟨?_, ?_⟩)
  · rw [f2.row (fun j z => by have z : PMa 96 j := z; omega)]
    exact e1.row (by omega) (fun j z => by
      rcases z with z | z
      · omega
      · exact absurd z (by decide))
  · rw [f2.row (fun j z => by have z : PMa 109 j := z; omega)]
    exact e1.row (by omega) (fun j z => by
      rcases z with z | z
      · omega
      · exact absurd z (by decide))
theorem PTK_row {a j : Nat} (h1 : 91 ≤ a) (h2 : a < 117) : ¬ PTK a j := by
  intro z
  rcases z with z | z
  · omega
  · have := k17 z; omega
theorem dys_z {S : st_T} {dr : Bool} {n : Nat} {D : Int} (hV : Vl D S) (hD : D + n ≤ 100000) {j : Nat} (hj : 357 ≤ j) : (dys dr n S).1 j = S j := by
  rw [dys_eq]; exact dys_out (by omega) (by omega) n 0 _ _ hD hV
theorem c_then {x y v : Int32} {h : hp_T} (I : Inv h) : wp_X7_then x y v h (fun r1 h1 => wp_X8_then x y v h1 (fun r2 h2 => r1 = r2 ∧ Inv h2)) := by
  have V := I.V
  have hw := I.n
  unfold wp_X7_then
  simp only [w_isBunk, w_within, bi_0, er1]
  rw [I.crew]
  have bad : ∀ h', hp_i h' 106 = hp_i h 106 → ¬ ((0 ≤ x ∧ x ≤ 90) ∧ (0 ≤ y ∧ y ≤ hp_i h 106 0 - 1) ∧ 0 ≤ v ∧ v ≤ 23) → wp_X8_errs (-1000000001) h' (fun r2 h2 => (-1000000001 : Int32) = r2 ∧ Inv h2) → wp_X8_then x y v h' (fun r2 h2 => (-1000000001 : Int32) = r2 ∧ Inv h2) := by
    intro h' e z f
    unfold wp_X8_then
    simp only [x_isBunk, in_0_90, in_0_23, bi_0]
    rw [e]
    exact ⟨fun _ => f, fun w1 => ⟨fun _ => f, fun w2 => ⟨fun _ => f, fun w3 => absurd ⟨Classical.not_not.mp w1, Classical.not_not.mp w2, Classical.not_not.mp w3⟩ z⟩⟩⟩
  refine ⟨fun z => bad _ (er_row (by decide)) (fun q => z q.1) (f1 I), fun z => ⟨fun z2 => bad _ (er_row (by decide)) (fun q => z2 q.2.1) (f1 I), fun z2 => ⟨fun z3 => bad _ (er_row (by decide)) (fun q => z3 q.2.2) (f1 I), fun z3 => ?_⟩⟩⟩
  obtain ⟨n, n90, rfl⟩ := nat_of (n := 90) (Classical.not_not.mp z) rfl
  obtain ⟨b, hb, rfl⟩ := bunk_of V.1 (Classical.not_not.mp z2)
  obtain ⟨w, hw23, rfl⟩ := nat_of (n := 23) (Classical.not_not.mp z3) rfl
  have VD : Vl (9999 + n) (dys false n (hp_i h 106)).1 := by rw [dys_eq]; exact Vl_dys n 0 _ _ (by omega) V
  have crn : cr (dys false n (hp_i h 106)).1 = cr (hp_i h 106) := by rw [dys_eq]; exact cr_eq (dys_out (by omega) (by omega) n 0 9999 _ (by omega) V)
  refine w_goAhead (by omega) hw V I.R ?_
  intro h1 m1 e1 R1
  refine w_ofMan VD R1 (by rw [crn]; exact hb) (by omega) ?_
  intro h2 f2
  have e2 : ex PTK RTK h h2 := e1.trans (f2.ex.mono (fun a j z => Or.inr z) (fun _ _ z => z))
  have m2 : hp_n h2 = hp_n h := by rw [f2.n, m1]
  have e106 : hp_i h2 106 = hp_i h 106 := e2.row (by omega) (fun j => PTK_row (by decide) (by decide))
  have e108 : hp_i h2 108 = hp_i h 108 := e2.row (by omega) (fun j => PTK_row (by decide) (by decide))
  unfold wp_X8_then
  simp only [x_isBunk, in_0_90, in_0_23, bi_0]
  rw [e106]
  refine ⟨fun w => absurd w z, fun _ => ⟨fun w => absurd w z2, fun _ => ⟨fun w => absurd w z3, fun _ => ?_⟩⟩⟩
  refine m_keep e106 (fun j hj => ⟨(I.zr j hj).1, by rw [e108]; exact (I.zr j hj).2.2⟩) ?_
  intro h3 f3 e36 e38
  refine m_daysGo (dr := false) (by omega) (by simp) (D := 9999) (by omega) V e36 ?_
  intro h4 f4 e46 _ _
  have e48 : hp_i h4 108 = hp_i h 106 := by rw [f4.row (fun j z => by have z : PD 108 j := z; omega)]; exact e38
  refine m_ofMan VD e46 (by rw [crn]; exact hb) (by omega) ?_
  intro h5 f5
  refine m_back (S := hp_i h 106) (by rw [f5.row (fun j z => by have z : (108 : Nat) = 110 := z; omega)]; exact e48) (fun j hj => ⟨(I.zr j hj).1, by rw [fr110_row f5, e46, dys_z V (by omega) hj]; exact (I.zr j hj).1⟩) ?_
  intro h6 f6 e66 e68
  exact ⟨rfl, Inv_ah0 I m2 e2 (((f3.trans (f4.mono fun a j z => PD_Ma z)).trans (f5.mono fun a j z => Or.inr (Or.inr (Or.inl z)))).trans f6) e66 e68⟩
theorem c_thenTask {x y v : Int32} {h : hp_T} (I : Inv h) : wp_X7_thenTask x y v h (fun r1 h1 => wp_X8_thenTask x y v h1 (fun r2 h2 => r1 = r2 ∧ Inv h2)) := by
  have V := I.V
  have hw := I.n
  unfold wp_X7_thenTask
  simp only [w_within, bi_0, er1]
  have bad : ∀ h', ¬ ((0 ≤ x ∧ x ≤ 90) ∧ (0 ≤ y ∧ y ≤ 3) ∧ 0 ≤ v ∧ v ≤ 4) → wp_X8_errs (-1000000001) h' (fun r2 h2 => (-1000000001 : Int32) = r2 ∧ Inv h2) → wp_X8_thenTask x y v h' (fun r2 h2 => (-1000000001 : Int32) = r2 ∧ Inv h2) := by
    intro h' z f
    unfold wp_X8_thenTask
    simp only [in_0_90, in_0_3, in_0_4, bi_0]
    exact ⟨fun _ => f, fun w1 => ⟨fun _ => f, fun w2 => ⟨fun _ => f, fun w3 => absurd ⟨Classical.not_not.mp w1, Classical.not_not.mp w2, Classical.not_not.mp w3⟩ z⟩⟩⟩
  refine ⟨fun z => bad _ (fun q => z q.1) (f1 I), fun z => ⟨fun z2 => bad _ (fun q => z2 q.2.1) (f1 I), fun z2 => ⟨fun z3 => bad _ (fun q => z3 q.2.2) (f1 I), fun z3 => ?_⟩⟩⟩
  obtain ⟨n, n90, rfl⟩ := nat_of (n := 90) (Classical.not_not.mp z) rfl
  obtain ⟨t, ht, rfl⟩ := nat_of (n := 3) (Classical.not_not.mp z2) rfl
  obtain ⟨w, hw4, rfl⟩ := nat_of (n := 4) (Classical.not_not.mp z3) rfl
  have VD : Vl (9999 + n) (dys false n (hp_i h 106)).1 := by rw [dys_eq]; exact Vl_dys n 0 _ _ (by omega) V
  refine w_goAhead (by omega) hw V I.R ?_
  intro h2 m2 e2 R1
  refine w_ofTask VD R1.i (by omega) (by omega) ?_
  have e106 : hp_i h2 106 = hp_i h 106 := e2.row (by omega) (fun j => PTK_row (by decide) (by decide))
  have e108 : hp_i h2 108 = hp_i h 108 := e2.row (by omega) (fun j => PTK_row (by decide) (by decide))
  unfold wp_X8_thenTask
  simp only [in_0_90, in_0_3, in_0_4, bi_0]
  refine ⟨fun w => absurd w z, fun _ => ⟨fun w => absurd w z2, fun _ => ⟨fun w => absurd w z3, fun _ => ?_⟩⟩⟩
  refine m_keep e106 (fun j hj => ⟨(I.zr j hj).1, by rw [e108]; exact (I.zr j hj).2.2⟩) ?_
  intro h3 f3 e36 e38
  refine m_daysGo (dr := false) (by omega) (by simp) (D := 9999) (by omega) V e36 ?_
  intro h4 f4 e46 _ _
  have e48 : hp_i h4 108 = hp_i h 106 := by rw [f4.row (fun j z => by have z : PD 108 j := z; omega)]; exact e38
  refine m_toldTask VD e46 (by omega) (by omega) ?_
  refine m_back (S := hp_i h 106) e48 (fun j hj => ⟨(I.zr j hj).1, by rw [e46, dys_z V (by omega) hj]; exact (I.zr j hj).1⟩) ?_
  intro h6 f6 e66 e68
  exact ⟨rfl, Inv_ah0 I m2 e2 ((f3.trans (f4.mono fun a j z => PD_Ma z)).trans f6) e66 e68⟩
