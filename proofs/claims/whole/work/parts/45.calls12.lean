/-! ===== PURE: the calls: check, all of it ===== -/
theorem si_comm {h : hp_T} {a i b j : Nat} {v w : Int32} (hab : a ≠ b) : hp_si (hp_si h a i v) b j w = hp_si (hp_si h b j w) a i v := by
  refine Prod.ext ?_ rfl
  funext c k
  show (if c = b ∧ k = j then w else if c = a ∧ k = i then v else h.1 c k) = (if c = a ∧ k = i then v else if c = b ∧ k = j then w else h.1 c k)
  by_cases g : c = a ∧ k = i
  · rw [if_pos g, if_pos g, if_neg (fun z => hab (g.1.symm.trans z.1))]
  · rw [if_neg g, if_neg g]
theorem er_comm {h : hp_T} {k a i : Nat} {v : Int32} (ha : a ≠ 96) : hp_si (er h k) a i v = er (hp_si h a i v) k := by
  unfold er
  rw [si_comm (Ne.symm ha), hp_i_si (h := h), if_neg (fun z => ha z.1.symm)]
theorem ex_si2 {P R : Nat → Nat → Prop} {h h1 : hp_T} {a i : Nat} {v : Int32} (e : ex P R h h1) : ex P R (hp_si h a i v) (hp_si h1 a i v) :=
  ⟨e.1, e.2.1, e.2.2.1, fun c j hc hP => by
    rw [hp_i_si, hp_i_si]
    by_cases g : c = a ∧ j = i
    · rw [if_pos g, if_pos g]
    · rw [if_neg g, if_neg g]; exact e.2.2.2 c j hc hP⟩
theorem Inv_wt {h : hp_T} (I : Inv h) : Inv (hp_si (hp_si h 1 15 0) 106 8 0) := by
  have e : hp_i (hp_si (hp_si h 1 15 0) 106 8 0) 106 = ss (hp_i h 106) 8 0 := by rw [si_row, si_row_ne (by decide)]
  refine Inv_w I ((fr_si (P := Pw) (Or.inl (by decide))).si (Or.inr rfl)) ?_ ?_ ?_ ?_
  · rw [e]; exact Vl_s I.V (by omega) (by omega) (fun _ => ⟨by decide, by decide⟩)
  · rw [e]
    refine RI.far ?_ (by decide)
    have L8 : Lc 8 0 15 := Or.inl ⟨rfl, Or.inr (Or.inr (Or.inr (Or.inr (Or.inr (Or.inr (Or.inr (Or.inr ⟨rfl, rfl⟩)))))))⟩
    refine I.R.i.upd (k0 := 0) L8 ss_i ?_
    intro i hi hv
    refine ⟨ss_n hi, ?_⟩
    obtain ⟨v1, v2, v3⟩ := hv
    refine ⟨fun b hb h1 h2 => ?_, fun r hr h1 h2 => ?_, fun q hq h1 => ?_⟩
    · have := v1 b hb h1 h2
      rw [cr_eq (ss_n (by decide))] at this
      exact this
    · have := v2 r hr h1 h2
      unfold en at this ⊢
      rw [ss_n (by decide)] at this
      exact this
    · have := v3 q hq h1
      unfold wt at this
      rw [ss_i] at this
      exact absurd this (Nat.not_lt_zero q)
  · intro j hj; rw [e, ss_n (by omega)]
  · exact RK_si (RK_si I.K (by omega)) (by omega)
theorem c_check {x : Int32} {h : hp_T} (I : Inv h) : wp_X7_check x h (fun r1 h1 => wp_X8_check x h1 (fun r2 h2 => r1 = r2 ∧ Inv h2)) := by
  have J := Inv_wt I
  have hw := I.n
  unfold wp_X7_check
  rintro h1 rfl
  simp only [w_isKnack, bi_0, er1]
  refine ⟨fun z => ?_, fun z => ?_⟩
  · unfold wp_X8_check
    rintro h2 rfl
    simp only [x_isKnack, bi_0]
    refine ⟨fun _ => ?_, fun w => absurd z w⟩
    rw [er_comm (by decide)]
    exact f1 J
  obtain ⟨k, k5, rfl⟩ := nat_of (n := 5) (Classical.not_not.mp z) rfl
  have eJ : hp_i (hp_si (hp_si h 1 15 0) 106 8 0) 106 = ss (hp_i h 106) 8 0 := by rw [si_row, si_row_ne (by decide)]
  obtain ⟨c, hc, e8⟩ := rg_nI 24 I.V.2.2.2.2.2.2.1 rfl (by decide)
  have s8 : hp_i h 1 15 = nI c := by rw [I.R.i.wait]; exact e8
  have V' : Vl 9999 (ss (hp_i h 106) 8 0) := by rw [← eJ]; exact J.V
  have z' : ∀ j, 357 ≤ j → ss (hp_i h 106) 8 0 j = 0 := fun j hj => by rw [ss_n (by omega)]; exact (I.zr j hj).1
  have fb : fr P106 (hp_si (hp_si h 1 15 0) 106 8 0) (hp_si h 1 15 0) := ⟨rfl, fun a j hj => by
    have hj : ¬ a = 106 := hj
    rw [hp_i_si (a := 106), if_neg (fun w => hj w.1)]⟩
  have R' : Rl (hp_si h 1 15 0) 1 (ss (hp_i h 106) 8 0) := by
    rw [← eJ]
    exact J.R.ex (P := P106) (Rf := fun _ _ => False) (by decide) hw fb.ex (fun a j y => by have y : a = 106 := y; omega) (fun a j y => by
      have y : a = 106 := y
      subst y
      decide) (fun _ _ y => absurd y id)
  rw [s8]
  refine w_goAhead (n := 0) (by omega) hw V' R' ?_
  intro h2 n2 e2 R2
  have hW : ∀ j, j < c → hp_i h2 (1 + 7) j = hp_i h 106 (213 + j) := fun j hj => by
    rw [e2.2.2.2 (1 + 7) j (show 1 + 7 < hp_n h by omega) (fun y => by
      rcases y with y | y
      · omega
      · exact absurd y (by decide)), hp_i_si, if_neg (by omega)]
    exact I.R.i.wts (by show j < wt _; unfold wt; rw [e8, nI_clamp (by omega)]; exact hj) (by omega)
  have ref : ∀ (h3 : hp_T) (Q : Int32 → hp_T → Prop), ex PTK RTK (hp_si h 1 15 0) h3 → hp_n h3 = hp_n h → (ckf (nI k) (fun j => hp_i h 106 (213 + j)) c 0 (ss (hp_i h 106) 8 0) = none → ∀ h4, Inv h4 → Q 0 h4) → (∀ j, ckf (nI k) (fun j => hp_i h 106 (213 + j)) c 0 (ss (hp_i h 106) 8 0) = some j → ∀ h4, Inv h4 → Q (nI (1 + j)) h4) → wp_X8_check (nI k) h3 Q := by
    intro h3 Q e3 n3 q0 q1
    have e36 : hp_i h3 106 = hp_i h 106 := by rw [e3.row (show 106 < hp_n h by omega) (fun j => PTK_row (by decide) (by decide)), si_row_ne (by decide)]
    have e38 : hp_i h3 108 = hp_i h 108 := by rw [e3.row (show 108 < hp_n h by omega) (fun j => PTK_row (by decide) (by decide)), si_row_ne (by decide)]
    unfold wp_X8_check
    rintro h4 rfl
    simp only [x_isKnack, bi_0]
    refine ⟨fun w => absurd w z, fun _ => ?_⟩
    rw [e36, e8]
    have fin : ∀ h5, fr PMa (hp_si h3 106 8 0) h5 → hp_i h5 106 = ss (hp_i h 106) 8 0 → hp_i h5 108 = ss (hp_i h 106) 8 0 → Inv h5 := fun h5 f5 a b => Inv_ah0 (h1 := hp_si h3 106 8 0) J n3 (ex_si2 e3) f5 (by rw [eJ]; exact a) (by rw [eJ]; exact b)
    refine m_keep (S := ss (hp_i h 106) 8 0) (by rw [si_row, e36]) (fun j hj => ⟨z' j hj, by rw [si_row_ne (by decide), e38]; exact (I.zr j hj).2.2⟩) ?_
    intro h5 f5 e56 e58
    exact ⟨c + 2, m_check_L (W := fun j => hp_i h 106 (213 + j)) hc z' c 0 (c + 2) 9999 (ss (hp_i h 106) 8 0) h5 (by omega) (by omega) (by omega) V' e56 e58 z' (fun j hj => ss_n (by omega)) (fun w h6 f6 a b => q0 w h6 (fin h6 (f5.trans f6) a b)) (fun j w h6 f6 a b => q1 j w h6 (fin h6 (f5.trans f6) a b))⟩
  refine ⟨c + 1, w_check_L (W := fun j => hp_i h 106 (213 + j)) hc (by omega) c 0 (c + 1) 9999 (ss (hp_i h 106) 8 0) h2 (by omega) (by omega) (by omega) V' R2 hW ?_ ?_⟩
  · intro g h3 f3
    exact ref h3 _ (e2.trans f3.ex) (by rw [f3.n]; exact n2) (fun _ h4 J4 => ⟨rfl, J4⟩) (fun j w => absurd (g.symm.trans w) (by simp))
  · intro j g h3 f3
    refine ref h3 _ (e2.trans f3.ex) (by rw [f3.n]; exact n2) (fun w => absurd (g.symm.trans w) (by simp)) (fun j' w h4 J4 => ?_)
    have : j = j' := Option.some.inj (g.symm.trans w)
    subst this
    exact ⟨rfl, J4⟩
