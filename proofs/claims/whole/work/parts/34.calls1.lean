/-! ===== PURE: the calls: small ones ===== -/
def er (h : hp_T) (k : Nat) : hp_T := hp_si h 96 (k + 1) (hp_i h 96 (k + 1) + 1)
theorem er_row {h : hp_T} {k a : Nat} (ha : a ≠ 96) : hp_i (er h k) a = hp_i h a := si_row_ne ha
theorem er_i {h : hp_T} {k a j : Nat} (ha : a ≠ 96) : hp_i (er h k) a j = hp_i h a j := by rw [er_row ha]
theorem w_er {x e : Int32} {k : Nat} {h : hp_T} {Q : Int32 → hp_T → Prop} (hk : k < 6) (hx : x = nI (k + 1)) (he : (-1000000000 : Int32) - x = e) : wp_X7_error x h Q = Q e (er h k) := by
  refine propext ⟨fun f => ?_, fun f => e_err hk hx he fun _ => f⟩
  unfold wp_X7_error at f
  have := f.2.2 _ rfl
  rw [he] at this
  subst hx
  rw [nI_clamp (n := k + 1) (by omega)] at this
  exact this
section ER
variable {h : hp_T} {Q : Int32 → hp_T → Prop}
theorem er1 : wp_X7_error 1 h Q = Q (-1000000001) (er h 0) := w_er (by decide) rfl rfl
theorem er2 : wp_X7_error 2 h Q = Q (-1000000002) (er h 1) := w_er (by decide) rfl rfl
theorem er3 : wp_X7_error 3 h Q = Q (-1000000003) (er h 2) := w_er (by decide) rfl rfl
theorem er4 : wp_X7_error 4 h Q = Q (-1000000004) (er h 3) := w_er (by decide) rfl rfl
theorem er5 : wp_X7_error 5 h Q = Q (-1000000005) (er h 4) := w_er (by decide) rfl rfl
theorem er6 : wp_X7_error 6 h Q = Q (-1000000006) (er h 5) := w_er (by decide) rfl rfl
end ER
/-- the reference counts it, too -/
theorem f_er {e r : Int32} {k : Nat} {h : hp_T} (hk : k < 6) (he : (-1000000001 : Int32) - e = nI k) (hr : r = e) (I : Inv h) : wp_X8_errs e (er h k) (fun r2 h2 => r = r2 ∧ Inv h2) := by
  subst hr
  exact e_errs hk he ⟨rfl, Inv_er hk I⟩
theorem f1 {h : hp_T} (I : Inv h) : wp_X8_errs (-1000000001) (er h 0) (fun r2 h2 => (-1000000001 : Int32) = r2 ∧ Inv h2) := f_er (by decide) rfl rfl I
theorem f2 {h : hp_T} (I : Inv h) : wp_X8_errs (-1000000002) (er h 1) (fun r2 h2 => (-1000000002 : Int32) = r2 ∧ Inv h2) := f_er (by decide) rfl rfl I
theorem f3 {h : hp_T} (I : Inv h) : wp_X8_errs (-1000000003) (er h 2) (fun r2 h2 => (-1000000003 : Int32) = r2 ∧ Inv h2) := f_er (by decide) rfl rfl I
theorem f4 {h : hp_T} (I : Inv h) : wp_X8_errs (-1000000004) (er h 3) (fun r2 h2 => (-1000000004 : Int32) = r2 ∧ Inv h2) := f_er (by decide) rfl rfl I
theorem f5 {h : hp_T} (I : Inv h) : wp_X8_errs (-1000000005) (er h 4) (fun r2 h2 => (-1000000005 : Int32) = r2 ∧ Inv h2) := f_er (by decide) rfl rfl I
theorem f6 {h : hp_T} (I : Inv h) : wp_X8_errs (-1000000006) (er h 5) (fun r2 h2 => (-1000000006 : Int32) = r2 ∧ Inv h2) := f_er (by decide) rfl rfl I
theorem w_in32' {x hi : Int32} {h : hp_T} {Q : Int32 → Prop} : wp_X8_in x.toInt64 (0 : Int64) hi.toInt64 h Q = Q (bi (0 ≤ x ∧ x ≤ hi)) := w_in32 (lo := 0)
section IN
variable {x : Int32} {h : hp_T} {Q : Int32 → Prop}
theorem in_0_16 : wp_X8_in x.toInt64 (0 : Int64) (16 : Int64) h Q = Q (bi (0 ≤ x ∧ x ≤ 16)) := w_in32 (lo := 0) (hi := 16)
theorem in_1_6 : wp_X8_in x.toInt64 (1 : Int64) (6 : Int64) h Q = Q (bi (1 ≤ x ∧ x ≤ 6)) := w_in32 (lo := 1) (hi := 6)
theorem in_0_3 : wp_X8_in x.toInt64 (0 : Int64) (3 : Int64) h Q = Q (bi (0 ≤ x ∧ x ≤ 3)) := w_in32 (lo := 0) (hi := 3)
theorem in_0_6 : wp_X8_in x.toInt64 (0 : Int64) (6 : Int64) h Q = Q (bi (0 ≤ x ∧ x ≤ 6)) := w_in32 (lo := 0) (hi := 6)
theorem in_0_23 : wp_X8_in x.toInt64 (0 : Int64) (23 : Int64) h Q = Q (bi (0 ≤ x ∧ x ≤ 23)) := w_in32 (lo := 0) (hi := 23)
theorem in_0_90 : wp_X8_in x.toInt64 (0 : Int64) (90 : Int64) h Q = Q (bi (0 ≤ x ∧ x ≤ 90)) := w_in32 (lo := 0) (hi := 90)
theorem in_0_1 : wp_X8_in x.toInt64 (0 : Int64) (1 : Int64) h Q = Q (bi (0 ≤ x ∧ x ≤ 1)) := w_in32 (lo := 0) (hi := 1)
theorem in_1_8 : wp_X8_in x.toInt64 (1 : Int64) (8 : Int64) h Q = Q (bi (1 ≤ x ∧ x ≤ 8)) := w_in32 (lo := 1) (hi := 8)
theorem in_0_9 : wp_X8_in x.toInt64 (0 : Int64) (9 : Int64) h Q = Q (bi (0 ≤ x ∧ x ≤ 9)) := w_in32 (lo := 0) (hi := 9)
theorem in_m1_5 : wp_X8_in x.toInt64 (-1 : Int64) (5 : Int64) h Q = Q (bi (-1 ≤ x ∧ x ≤ 5)) := w_in32 (lo := -1) (hi := 5)
theorem in_m1_999 : wp_X8_in x.toInt64 (-1 : Int64) (999 : Int64) h Q = Q (bi (-1 ≤ x ∧ x ≤ 999)) := w_in32 (lo := -1) (hi := 999)
theorem in_0_4 : wp_X8_in x.toInt64 (0 : Int64) (4 : Int64) h Q = Q (bi (0 ≤ x ∧ x ≤ 4)) := w_in32 (lo := 0) (hi := 4)
end IN
section IV
variable {h h2 : hp_T}
theorem Inv.w (I : Inv h) : wf h := I.1
theorem Inv.n (I : Inv h) : 117 ≤ hp_n h := I.1.1
theorem Inv.V (I : Inv h) : Vl 9999 (hp_i h 106) := I.2.2.1.1
theorem Inv.R (I : Inv h) : Rl h 1 (hp_i h 106) := I.2.2.1.2.1
theorem Inv.K (I : Inv h) : RK h := I.2.2.1.2.2
theorem Inv.im (I : Inv h) : Iim h := I.2.2.2.1
theorem Inv.e (I : Inv h) : Ier h := I.2.2.2.2.1
theorem Inv.tr (I : Inv h) : Itr h := I.2.2.2.2.2.1
theorem Inv.su (I : Inv h) : Isu h := I.2.2.2.2.2.2.1
theorem Inv.zr (I : Inv h) : Izr h := I.2.2.2.2.2.2.2
theorem Inv.crew (I : Inv h) : hp_i h 1 1 = hp_i h 106 0 := I.R.i.crew
abbrev Pw : Nat → Nat → Prop := fun a _ => (1 ≤ a ∧ a < 31 ∧ a ≠ 6) ∨ a = 106
theorem Inv_w (I : Inv h) (f : fr Pw h h2) (hV : Vl 9999 (hp_i h2 106)) (hR : RI h2 1 (hp_i h2 106)) (e : ∀ j, (j = 7 ∨ j = 9 ∨ j = 10 ∨ (153 ≤ j ∧ j < 213) ∨ 237 ≤ j) → hp_i h2 106 j = hp_i h 106 j) (hK : RK h2) : Inv h2 := by
  have hw := I.n
  have s7 := I.V.2.2.2.2.2.1
  refine I.gen (f.ex.mono (fun a j z => ?_) (fun _ _ z => z)) (by rw [f.n]; exact I.2.1) ⟨hV, ⟨hR, ?_, ?_⟩, hK⟩ (I.e.ex (P := Pw) (R := RG) hw f.ex (fun a j z => ?_)) (fun j hj => ⟨?_, ?_⟩)
  · rcases z with z | z
    · exact Or.inl ⟨z.1, z.2.1⟩
    · exact Or.inr (Or.inr (Or.inr (Or.inl z)))
  · intro j hj
    obtain ⟨c, hc, e7⟩ := rg_nI 60 s7 rfl (by decide)
    rw [e 7 (by omega)] at hj
    have hj' := hj
    rw [e7, nI_clamp (n := c) (by omega)] at hj'
    rw [f.2 (1 + 5) j (by omega), e (153 + j) (by omega)]
    exact I.R.t j hj
  · exact I.R.x.fr f (fun a j z => lt117_16 (by rcases z with z | z <;> omega)) (fun u hu => e _ (by omega)) (fun j hj => e j (by omega))
  · rcases z with z | z <;> omega
  · rw [e j (by omega)]; exact (I.zr j hj).1
  · rw [f.2 108 j (by omega)]; exact (I.zr j hj).2.2
theorem RI.far {p a i : Nat} {v : Int32} {S : st_T} (R : RI h p S) (ha : p + 30 ≤ a) : RI (hp_si h a i v) p S := R.keep fun k j hk _ => by rw [hp_i_si, if_neg (by omega)]
theorem RK_si {a i : Nat} {v : Int32} (K : RK h) (ha : ∀ b, b < 6 → ¬ (1 + 8 + 3 * b = a ∧ 3 = i)) : RK (hp_si h a i v) := fun b hb => by
  rw [hp_i_si, if_neg (ha b hb)]
  exact K b hb
end IV
theorem Vl_s {D : Int} {S : st_T} {i : Nat} {v : Int32} (hV : Vl D S) (hi : i = 4 ∨ i = 5 ∨ i = 6 ∨ i = 8 ∨ (213 ≤ i ∧ i < 237)) (h4 : i = 4 → rg v 0 63) (h8 : i = 8 → rg v 0 24) : Vl D (ss S i v) := by
  obtain ⟨a0, a1, a2, a3, a4, a7, a8, ab, ar, at', atp, ax⟩ := hV
  have a12 := en12 a1
  refine ⟨by rw [ss_n (by omega)]; exact a0, by rw [ss_n (by omega)]; exact a1, by rw [ss_n (by omega), ss_n (by omega)]; exact a2, by rw [ss_n (by omega)]; exact a3, ?_, by rw [ss_n (by omega)]; exact a7, ?_, ?_, ?_, ?_, ?_, ?_⟩
  · by_cases g : i = 4
    · subst g; rw [ss_i]; exact h4 rfl
    · rw [ss_n (by omega)]; exact a4
  · by_cases g : i = 8
    · subst g; rw [ss_i]; exact h8 rfl
    · rw [ss_n (by omega)]; exact a8
  · intro b hb
    have e : cr (ss S i v) = cr S := cr_eq (ss_n (by omega))
    rw [e] at hb
    have := cr6 a0
    exact VB_ss (by omega) (by omega) (ab b hb)
  · intro r hr
    have e : en (ss S i v) = en S := by unfold en; rw [ss_n (by omega)]
    rw [e] at hr
    rw [ss_n (by omega), ss_n (by omega)]
    exact ar r hr
  · intro t ht
    unfold VT
    rw [ss_n (by omega), ss_n (by omega), ss_n (by omega), ss_n (by omega)]
    exact at' t ht
  · intro q hq
    rw [ss_n (by omega)] at hq
    obtain ⟨c, hc, e7⟩ := rg_nI 60 a7 rfl (by decide)
    have hq' := hq
    rw [e7, nI_clamp (n := c) (by omega)] at hq'
    rw [ss_n (by omega)]
    exact atp q hq
  · intro u hu
    exact VX_eq (ss_n (by omega)) (fun j hj => ss_n (by omega)) (ax u hu)
theorem c_book {x : Int32} {h : hp_T} (I : Inv h) : wp_X7_book x h (fun r1 h1 => wp_X8_book x h1 (fun r2 h2 => r1 = r2 ∧ Inv h2)) := by
  unfold wp_X7_book
  simp only [w_within, bi_0, er1]
  refine ⟨fun z => ?_, fun z => ?_⟩
  · unfold wp_X8_book
    simp only [x_isBits, bi_0]
    exact ⟨fun _ => f1 I, fun y => absurd z y⟩
  · rintro h1 rfl
    unfold wp_X8_book
    simp only [x_isBits, bi_0]
    refine ⟨fun y => absurd y z, fun _ => ?_⟩
    rintro h2 rfl
    have z := Classical.not_not.mp z
    have e : hp_i (hp_si (hp_si h 1 6 x) 106 4 x) 106 = ss (hp_i h 106) 4 x := by rw [si_row, si_row_ne (by decide)]
    refine ⟨by rw [hp_i_si, if_neg (by decide)]; exact I.R.i.book, Inv_w I ((fr_si (P := Pw) (Or.inl (by decide))).si (Or.inr rfl)) ?_ ?_ ?_ ?_⟩
    · rw [e]; exact Vl_s I.V (by omega) (fun _ => ⟨by have := z.1; rw [i_le] at this; exact this, by have := z.2; rw [i_le] at this; exact this⟩) (by omega)
    · rw [e]; exact (I.R.i.w0 4 6 (Or.inl ⟨rfl, by omega⟩) (by decide)).far (by decide)
    · intro j hj; rw [e, ss_n (by omega)]
    · exact RK_si (RK_si I.K (by omega)) (by omega)
theorem c_seed {x : Int32} {h : hp_T} (I : Inv h) : wp_X7_seed x h (fun r1 h1 => wp_X8_seed x h1 (fun r2 h2 => r1 = r2 ∧ Inv h2)) := by
  unfold wp_X7_seed
  rintro h1 rfl
  unfold wp_X8_seed
  rintro h2 rfl
  have e : hp_i (hp_si (hp_si h 1 10 x) 106 6 x) 106 = ss (hp_i h 106) 6 x := by rw [si_row, si_row_ne (by decide)]
  refine ⟨by rw [hp_i_si, if_neg (by decide)]; exact I.R.i.z, Inv_w I ((fr_si (P := Pw) (Or.inl (by decide))).si (Or.inr rfl)) ?_ ?_ ?_ ?_⟩
  · rw [e]; exact Vl_s I.V (by omega) (by omega) (by omega)
  · rw [e]; exact (I.R.i.w0 6 10 (Or.inl ⟨rfl, by omega⟩) (by decide)).far (by decide)
  · intro j hj; rw [e, ss_n (by omega)]
  · exact RK_si (RK_si I.K (by omega)) (by omega)
theorem c_misheard {x : Int32} {h : hp_T} (I : Inv h) : wp_X7_misheard x h (fun r1 h1 => wp_X8_misheard x h1 (fun r2 h2 => r1 = r2 ∧ Inv h2)) := by
  unfold wp_X7_misheard
  simp only [w_within, bi_0, er1]
  refine ⟨fun z => ?_, fun z => ?_⟩
  · unfold wp_X8_misheard
    simp only [in_0_16, bi_0]
    exact ⟨fun _ => f1 I, fun y => absurd z y⟩
  · rintro h1 rfl
    unfold wp_X8_misheard
    simp only [in_0_16, bi_0]
    refine ⟨fun y => absurd y z, fun _ => ?_⟩
    rintro h2 rfl
    have e : hp_i (hp_si (hp_si h 1 9 x) 106 5 x) 106 = ss (hp_i h 106) 5 x := by rw [si_row, si_row_ne (by decide)]
    refine ⟨by rw [hp_i_si, if_neg (by decide)]; exact I.R.i.mis, Inv_w I ((fr_si (P := Pw) (Or.inl (by decide))).si (Or.inr rfl)) ?_ ?_ ?_ ?_⟩
    · rw [e]; exact Vl_s I.V (by omega) (by omega) (by omega)
    · rw [e]; exact (I.R.i.w0 5 9 (Or.inl ⟨rfl, by omega⟩) (by decide)).far (by decide)
    · intro j hj; rw [e, ss_n (by omega)]
    · exact RK_si (RK_si I.K (by omega)) (by omega)
theorem c_told {x : Int32} {h : hp_T} (I : Inv h) : wp_X7_told x h (fun r1 h1 => wp_X8_told x h1 (fun r2 h2 => r1 = r2 ∧ Inv h2)) := by
  unfold wp_X7_told
  simp only [w_within, bi_0, er1]
  refine ⟨fun z => ?_, fun z => ?_⟩
  · unfold wp_X8_told
    simp only [in_1_6, bi_0]
    exact ⟨fun _ => f1 I, fun y => absurd z y⟩
  · have z' := Classical.not_not.mp z
    rw [i_le, i_le] at z'
    obtain ⟨k, hk, rfl⟩ : ∃ k, k < 6 ∧ x = nI (k + 1) := by
      have e1 : (1 : Int32).toInt = 1 := rfl
      have e6 : (6 : Int32).toInt = 6 := rfl
      exact ⟨x.toInt.toNat - 1, by omega, by rw [i_eq, i_nI (by omega)]; omega⟩
    refine ⟨vp_in_nI (by omega) (by decide), ?_⟩
    unfold wp_X8_told
    simp only [in_1_6, bi_0]
    refine ⟨fun y => absurd y z, fun _ => ?_⟩
    rw [show nI (k + 1) - 1 = nI k from nI_pred k, nI_clamp (n := k + 1) (by omega), nI_clamp (n := k) (by omega)]
    exact ⟨vp_in_nI (by omega) (by decide), I.e k hk, I⟩
theorem c_body {x : Int32} {h : hp_T} (I : Inv h) : wp_X7_body x h (fun r1 h1 => wp_X8_body x h1 (fun r2 h2 => r1 = r2 ∧ Inv h2)) := by
  obtain ⟨n, n1, n2, n3, n4⟩ := I.tr
  unfold wp_X7_body
  rw [n2]
  simp only [w_within, bi_0, er2]
  refine ⟨fun z => ?_, fun z => ?_⟩
  · unfold wp_X8_body
    rw [er_i (by decide), n3, w_in32' ]
    simp only [bi_0]
    exact ⟨fun _ => f2 I, fun y => absurd z y⟩
  · unfold wp_X8_body
    rw [n3, w_in32']
    simp only [bi_0]
    have z' := Classical.not_not.mp z
    have e1 : (1 : Int32).toInt = 1 := rfl
    rw [i_le, i_le, i_sub (by rw [i_nI (by omega)]; omega) (by rw [i_nI (by omega)]; omega), i_nI (by omega)] at z'
    have e0 : (0 : Int32).toInt = 0 := rfl
    have v : vp_in x 30 := i_in.mpr (by omega)
    refine ⟨v, fun y => absurd y z, fun _ => ⟨v, n4 _ ?_, I⟩⟩
    rw [i_nat]; omega
