/-! ===== PURE: the calls: sheets put, judged, moved ===== -/
theorem x_wrong_o {x : Int32} {h : hp_T} {Q : Int32 → Prop} (z : ¬ (0 ≤ x ∧ x ≤ 3)) : wp_X8_wrong x h Q = Q (-1000000001) := by
  unfold wp_X8_wrong
  simp only [x_isSheet, bi_0]
  exact propext ⟨fun f => f.1 z, fun q => ⟨fun _ => q, fun w => absurd z w⟩⟩
theorem sh_rg {t : Nat} (ht : t < 4) : 0 ≤ nI t ∧ nI t ≤ 3 := by
  have e0 : (0 : Int32).toInt = 0 := rfl
  have e3 : (3 : Int32).toInt = 3 := rfl
  rw [i_le, i_le, i_nI (by omega)]
  omega
theorem x_wrong_i {t : Nat} {h : hp_T} {Q : Int32 → Prop} (ht : t < 4) : wp_X8_wrong (nI t) h Q = Q (if hp_i h 113 t = 0 then -1000000002 else 0) := by
  have z := sh_rg ht
  have vt : vp_in (nI t) 4 := vp_in_nI ht (by decide)
  unfold wp_X8_wrong
  simp only [x_isSheet, bi_0]
  rw [nI_clamp (n := t) (by omega)]
  by_cases e : hp_i h 113 t = 0
  · rw [if_pos e]
    exact propext ⟨fun f => (f.2 (fun w => w z)).2.1 e, fun q => ⟨fun w => absurd z w, fun _ => ⟨vt, fun _ => q, fun w => absurd e w⟩⟩⟩
  · rw [if_neg e]
    exact propext ⟨fun f => (f.2 (fun w => w z)).2.2 e, fun q => ⟨fun w => absurd z w, fun _ => ⟨vt, fun w => absurd w e, fun _ => q⟩⟩⟩
theorem ix_sh {t j : Nat} : (24 : Int32) * nI t + nI j = nI (24 * t + j) := by rw [show (24 : Int32) = nI 24 from rfl, pk_mul, nI_add]
/-- i is a place below n -/
theorem lt_of_pl {i : Int32} {n : Nat} (hn : n < 1000) (y : 0 ≤ i ∧ i ≤ nI n - 1) : ∃ j, j < n ∧ i = nI j := by
  have e0 : (0 : Int32).toInt = 0 := rfl
  have e1 : (1 : Int32).toInt = 1 := rfl
  rw [i_le, i_le, i_sub (by rw [i_nI (by omega)]; omega) (by rw [i_nI (by omega)]; omega), i_nI (by omega)] at y
  exact ⟨i.toInt.toNat, by omega, by rw [i_eq, i_nI (by omega)]; omega⟩
theorem Inv_put {h : hp_T} {t j : Nat} {v : Int32} (I : Inv h) (ht : t < 4) (hj : j < 24) : Inv (hp_si (hp_si h (97 + 2 * t + 1) j v) 115 (24 * t + j) v) := by
  refine Inv_sh I ((fr_si (P := Psh) (Or.inl (by omega))).si (Or.inr (by omega))) ?_
  intro u hu
  obtain ⟨s1, s2, s3, s4⟩ := I.su u hu
  have o : ∀ c w, c ≠ 97 + 2 * t + 1 → c ≠ 115 → hp_i (hp_si (hp_si h (97 + 2 * t + 1) j v) 115 (24 * t + j) v) c w = hp_i h c w := fun c w h1 h2 => by
    rw [hp_i_si, if_neg (fun z => h2 z.1), hp_i_si, if_neg (fun z => h1 z.1)]
  rw [o (97 + 2 * u) 0 (by omega) (by omega), o (97 + 2 * u) 1 (by omega) (by omega), o 113 _ (by omega) (by omega), o 114 _ (by omega) (by omega)]
  refine ⟨s1, s2, s3, fun i hi => ?_⟩
  rw [hp_i_si, if_neg (by omega), hp_i_si, hp_i_si, hp_i_si, if_neg (show ¬ (115 = 97 + 2 * t + 1 ∧ _) by omega)]
  by_cases g : u = t ∧ i = j
  · obtain ⟨rfl, rfl⟩ := g
    rw [if_pos ⟨rfl, rfl⟩, if_pos ⟨rfl, rfl⟩]
  · rw [if_neg (by omega), if_neg (by omega)]
    exact s4 i hi
theorem c_put {x i v : Int32} {h : hp_T} (I : Inv h) : wp_X7_put x i v h (fun r1 h1 => wp_X8_put x i v h1 (fun r2 h2 => r1 = r2 ∧ Inv h2)) := by
  unfold wp_X7_put
  simp only [w_isSheet, w_within, bi_0, er1, er2]
  refine ⟨fun z => ?_, fun z => ?_⟩
  · unfold wp_X8_put
    rw [x_wrong_o z]
    exact ⟨fun w => absurd w (by decide), fun _ => ⟨fun w => absurd w (by decide), fun _ => f1 I⟩⟩
  obtain ⟨t, ht, rfl⟩ := nat_of (n := 3) (Classical.not_not.mp z) rfl
  have t4 : t < 4 := by omega
  have vt : vp_in (nI t) 4 := vp_in_nI t4 (by decide)
  have ct : (nI t).toNatClampNeg = t := nI_clamp (by omega)
  obtain ⟨s1, s2, s3, s4⟩ := I.su t t4
  obtain ⟨n, hn, e2⟩ := rg_nI 24 s3 rfl (by decide)
  unfold wp_X1_isMissing
  rw [ct, s1, s2, e2]
  refine ⟨vt, fun e => ⟨fun w => absurd w (by decide), fun _ => ?_⟩, fun e => ⟨fun _ => ⟨fun y => ?_, fun y => ?_⟩, fun w => absurd rfl w⟩⟩
  · unfold wp_X8_put
    rw [x_wrong_i t4, er_i (by decide), if_pos e]
    exact ⟨fun w => absurd w (by decide), fun _ => ⟨fun w => absurd w (by decide), fun _ => f2 I⟩⟩
  · unfold wp_X8_put
    rw [x_wrong_i t4, er_i (by decide), if_neg e, ct, er_i (by decide), e2, w_in32']
    simp only [bi_0]
    exact ⟨fun _ => ⟨vt, fun _ => f1 I, fun w => absurd y w⟩, fun w => absurd trivial w⟩
  · obtain ⟨j, hj, rfl⟩ := lt_of_pl (by omega) (Classical.not_not.mp y)
    have cj : (nI j).toNatClampNeg = j := nI_clamp (by omega)
    have vj : vp_in (nI j) 24 := vp_in_nI (by omega) (by decide)
    have vx : vp_in (nI (24 * t + j)) 96 := vp_in_nI (by omega) (by decide)
    have cx : (nI (24 * t + j)).toNatClampNeg = 24 * t + j := nI_clamp (by omega)
    have q1 : ∀ a c w, a ≠ 113 ∧ a ≠ 114 → hp_i (hp_si h a c w) 113 = hp_i h 113 ∧ hp_i (hp_si h a c w) 114 = hp_i h 114 := fun a c w g => ⟨si_row_ne (Ne.symm g.1), si_row_ne (Ne.symm g.2)⟩
    have ref : ∀ w, wp_X8_put (nI t) (nI j) v (hp_si h (97 + 2 * t + 1) j w) (fun r2 h2 => 1 = r2 ∧ Inv h2) = ((hp_i h 113 t = 8 → Inv (hp_si (hp_si h (97 + 2 * t + 1) j w) 115 (24 * t + j) v.toInt8.toInt32)) ∧ (¬ hp_i h 113 t = 8 → (hp_i h 113 t = 16 → Inv (hp_si (hp_si h (97 + 2 * t + 1) j w) 115 (24 * t + j) v.toInt16.toInt32)) ∧ (¬ hp_i h 113 t = 16 → Inv (hp_si (hp_si h (97 + 2 * t + 1) j w) 115 (24 * t + j) v)))) := by
      intro w
      unfold wp_X8_put
      rw [x_wrong_i t4, (q1 _ _ _ (by omega)).1, if_neg e, (q1 _ _ _ (by omega)).2, ct, e2, w_in32', ix_sh, cx]
      simp only [bi_0, y, not_false_eq_true, not_true_eq_false, true_implies, false_implies, and_true, true_and, forall_eq, vt, vx]
    unfold wp_X1_write
    rw [cj, s1]
    refine ⟨fun e8 => ⟨vj, ?_⟩, fun e8 => ⟨fun e16 => ⟨vj, ?_⟩, fun e16 => ⟨vj, ?_⟩⟩⟩
    · rintro h1 rfl
      rw [ref]
      exact ⟨fun _ => Inv_put I t4 (by omega), fun w => absurd e8 w⟩
    · rintro h1 rfl
      rw [ref]
      exact ⟨fun w => absurd w e8, fun _ => ⟨fun _ => Inv_put I t4 (by omega), fun w => absurd e16 w⟩⟩
    · rintro h1 rfl
      rw [ref]
      exact ⟨fun w => absurd w e8, fun _ => ⟨fun w => absurd w e16, fun _ => Inv_put I t4 (by omega)⟩⟩
/-- the first place that isn't as it should -/
noncomputable def jf (f : Nat → Prop) : Nat → Nat → Nat
  | i, 0 => i
  | i, r + 1 => @ite _ (f i) (Classical.propDecidable _) (jf f (i + 1) r) i
theorem jf_le {f : Nat → Prop} : ∀ (r i : Nat), i ≤ jf f i r ∧ jf f i r ≤ i + r := by
  intro r
  induction r with
  | zero => intro i; exact ⟨Nat.le_refl _, Nat.le_refl _⟩
  | succ r ih =>
    intro i
    unfold jf
    by_cases g : f i
    · rw [if_pos g]
      have := ih (i + 1)
      omega
    · rw [if_neg g]
      omega
def jr (n c k : Nat) : Int32 := if k = n ∧ k = c then -1 else nI k
theorem w_judge_L {S : st_T} {D : Int} {t n m : Nat} {h : hp_T} {Q : Int32 → hp_T → Prop} (hV : Vl D S) (R : RI h 1 S) (ht : t < 4) (hn : n ≤ 24) (hm : m = min n (cr S)) (e2 : hp_i h (97 + 2 * t) 1 = nI n) {x1 : Int32} (N : Nat → Int32) (hN : ∀ i, i < 24 → hp_i h (97 + 2 * t + 1) i = N i) : ∀ (r i nn : Nat), i + r = m → r < nn → Q (jr n (cr S) (jf (fun i => N i = S (11 + 17 * i + 3)) i r)) h → wp_X7_judge_L51 x1 Q nn (97 + 2 * t) (nI m) (nI i) h := by
  have C := cr_nI hV.1
  intro r
  induction r with
  | zero =>
    intro i nn hi hr hq
    obtain ⟨nn, rfl⟩ : ∃ k, nn = k + 1 := ⟨nn - 1, by omega⟩
    unfold wp_X7_judge_L51
    have : i = m := by omega
    subst this
    rw [R.crew, C.1, e2]
    unfold jf jr at hq
    refine ⟨fun _ => ⟨fun g => ?_, fun g => ?_⟩, fun w => absurd (nI_le (Nat.le_refl _) (by omega)) w⟩
    · rw [nI_eq (by omega) (by omega)] at g
      rw [if_pos (by omega)] at hq
      exact hq
    · rw [nI_eq (by omega) (by omega)] at g
      rw [if_neg (by omega)] at hq
      exact hq
  | succ r ih =>
    intro i nn hi hr hq
    obtain ⟨nn, rfl⟩ : ∃ k, nn = k + 1 := ⟨nn - 1, by omega⟩
    unfold wp_X7_judge_L51
    rw [nI_clamp (n := i) (by omega), hN i (by omega), R.bk 3 (by omega) (by omega) (by decide), show nI i + 1 = nI (i + 1) from nI_1 i]
    unfold jf at hq
    refine ⟨fun w => absurd w (nI_ge (by omega) (by omega)), fun _ => ⟨vp_in_nI (by omega) (by decide), vp_in_nI (by omega) (by decide), fun g => ?_, fun g => ?_⟩⟩
    · rw [if_pos g] at hq
      exact ih (i + 1) nn (by omega) (by omega) hq
    · rw [if_neg g] at hq
      unfold jr at hq
      rw [if_neg (by omega)] at hq
      exact hq
theorem m_judge_L {S : st_T} {D : Int} {t n m : Nat} {h : hp_T} {Q : Int32 → hp_T → Prop} (hV : Vl D S) (hS : hp_i h 106 = S) (ht : t < 4) (hn : n ≤ 24) (hm : m = min n (cr S)) (e2 : hp_i h 114 t = nI n) (N : Nat → Int32) (hN : ∀ i, i < 24 → hp_i h 115 (24 * t + i) = N i) : ∀ (r i nn : Nat), i + r = m → r < nn → Q (jr n (cr S) (jf (fun i => N i = S (11 + 17 * i + 3)) i r)) h → wp_X8_judge_L18 (nI t) Q nn (nI i) h := by
  have C := cr_nI hV.1
  have vt : vp_in (nI t) 4 := vp_in_nI ht (by decide)
  have ct : (nI t).toNatClampNeg = t := nI_clamp (by omega)
  have fin : ∀ i, i ≤ m → Q (jr n (cr S) i) h → ((nI i = nI n → (nI i = nI (cr S) → Q (-1) h) ∧ (¬ nI i = nI (cr S) → Q (nI i) h)) ∧ (¬ nI i = nI n → Q (nI i) h)) := by
    intro i hi hq
    unfold jr at hq
    rw [nI_eq (by omega) (by omega), nI_eq (by omega) (by omega)]
    by_cases g : i = n ∧ i = cr S
    · rw [if_pos g] at hq
      exact ⟨fun _ => ⟨fun _ => hq, fun w => absurd g.2 w⟩, fun w => absurd g.1 w⟩
    · rw [if_neg g] at hq
      exact ⟨fun _ => ⟨fun w => absurd ⟨by assumption, w⟩ g, fun _ => hq⟩, fun _ => hq⟩
  intro r
  induction r with
  | zero =>
    intro i nn hi hr hq
    obtain ⟨nn, rfl⟩ : ∃ k, nn = k + 1 := ⟨nn - 1, by omega⟩
    unfold wp_X8_judge_L18
    rw [ct, hS, C.1, e2]
    refine ⟨vt, fun _ => ⟨vt, fin i (by omega) hq⟩, fun w => ⟨fun _ => ⟨vt, fin i (by omega) hq⟩, fun w2 => ?_⟩⟩
    rw [nI_leI (by omega) (by omega)] at w w2
    omega
  | succ r ih =>
    intro i nn hi hr hq
    obtain ⟨nn, rfl⟩ : ∃ k, nn = k + 1 := ⟨nn - 1, by omega⟩
    unfold wp_X8_judge_L18
    have vi : vp_in (nI i) 6 := vp_in_nI (by omega) (by decide)
    rw [ct, e2, ix_sh, nI_clamp (n := 24 * t + i) (by omega), hN i (by omega), x_its3 vi, nI_clamp (n := i) (by omega), hS, C.1, show nI i + 1 = nI (i + 1) from nI_1 i]
    unfold jf at hq
    refine ⟨vt, fun w => absurd w (nI_ge (by omega) (by omega)), fun _ => ⟨fun w => absurd w (nI_ge (by omega) (by omega)), fun _ => ⟨vp_in_nI (by omega) (by decide), fun g => ?_, fun g => ⟨vt, ?_⟩⟩⟩⟩
    · rw [if_pos g] at hq
      exact ih (i + 1) nn (by omega) (by omega) hq
    · rw [if_neg g] at hq
      exact fin i (by omega) hq
theorem c_judge {x : Int32} {h : hp_T} (I : Inv h) : wp_X7_judge x h (fun r1 h1 => wp_X8_judge x h1 (fun r2 h2 => r1 = r2 ∧ Inv h2)) := by
  have C := cr_nI I.V.1
  unfold wp_X7_judge
  simp only [w_isSheet, bi_0, er1, er2]
  refine ⟨fun z => ?_, fun z => ?_⟩
  · unfold wp_X8_judge
    rw [x_wrong_o z]
    exact ⟨fun w => absurd w (by decide), fun _ => f1 I⟩
  obtain ⟨t, ht, rfl⟩ := nat_of (n := 3) (Classical.not_not.mp z) rfl
  have t4 : t < 4 := by omega
  have vt : vp_in (nI t) 4 := vp_in_nI t4 (by decide)
  have ct : (nI t).toNatClampNeg = t := nI_clamp (by omega)
  obtain ⟨s1, s2, s3, s4⟩ := I.su t t4
  obtain ⟨n, hn, e2⟩ := rg_nI 24 s3 rfl (by decide)
  unfold wp_X1_isMissing
  rw [ct, s1, s2, e2, I.crew, C.1]
  refine ⟨vt, fun e => ⟨fun w => absurd w (by decide), fun _ => ?_⟩, fun e => ⟨fun _ => ?_, fun w => absurd rfl w⟩⟩
  · unfold wp_X8_judge
    rw [x_wrong_i t4, er_i (by decide), if_pos e]
    exact ⟨fun w => absurd w (by decide), fun _ => f2 I⟩
  · have em : (if nI (cr (hp_i h 106)) < nI n then nI (cr (hp_i h 106)) else nI n) = nI (min n (cr (hp_i h 106))) := by
      by_cases g : cr (hp_i h 106) < n
      · rw [if_pos (nI_lt g (by omega))]
        congr 1; omega
      · rw [if_neg (nI_nlt (by omega) (by omega))]
        congr 1; omega
    rw [em]
    refine ⟨min n (cr (hp_i h 106)) + 1, w_judge_L I.V I.R.i t4 hn rfl (by rw [s2, e2]) (fun i => hp_i h (97 + 2 * t + 1) i) (fun _ _ => rfl) (min n (cr (hp_i h 106))) 0 _ (by omega) (by omega) ?_⟩
    unfold wp_X8_judge
    rw [x_wrong_i t4, if_neg e]
    refine ⟨fun _ => ⟨min n (cr (hp_i h 106)) + 1, m_judge_L I.V rfl t4 hn rfl e2 (fun i => hp_i h (97 + 2 * t + 1) i) (fun i hi => (s4 i hi).symm) (min n (cr (hp_i h 106))) 0 _ (by omega) (by omega) ⟨rfl, I⟩⟩, fun w => absurd rfl w⟩
