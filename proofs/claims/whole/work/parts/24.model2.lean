/-! ===== PURE: the reference: needs, tells, wages, a man who comes, a lesson ===== -/
theorem cr_nI {S : st_T} (h : rg (S 0) 0 6) : S 0 = nI (cr S) ∧ cr S ≤ 6 := by
  obtain ⟨c, hc, e⟩ := rg_nI 6 h rfl (by decide)
  have : cr S = c := by show (S 0).toNatClampNeg = c; rw [e, nI_clamp (by omega)]
  rw [this]; exact ⟨e, hc⟩
theorem vp_nI {b : Nat} {S : st_T} (h : rg (S 0) 0 6) (hb : b < cr S) : vp_in (nI b) 6 ∧ (nI b).toNatClampNeg = b ∧ b < 6 := by
  have := (cr_nI h).2
  exact ⟨vp_in_nI (by omega) (by decide), nI_clamp (by omega), by omega⟩
section XK
variable {b k : Int32} {h : hp_T} {Q : Int32 → Prop}
theorem x_itsV (hb : vp_in b 6) (hk : vp_in k 6) : wp_X8_its b (5 + k) h Q = Q (hp_i h 106 (11 + 17 * b.toNatClampNeg + 5 + k.toNatClampNeg)) := by
  obtain ⟨k', hk', rfl⟩ := vp_in_of hk (by decide)
  rw [x_its (5 + k') hb (show (5 : Int32) + nI k' = nI (5 + k') from nI_add 5 k') (by omega), nI_clamp (n := k') (by omega), Nat.add_assoc (11 + 17 * b.toNatClampNeg)]
theorem x_itsL (hb : vp_in b 6) (hk : vp_in k 6) : wp_X8_its b (11 + k) h Q = Q (hp_i h 106 (11 + 17 * b.toNatClampNeg + 11 + k.toNatClampNeg)) := by
  obtain ⟨k', hk', rfl⟩ := vp_in_of hk (by decide)
  rw [x_its (11 + k') hb (show (11 : Int32) + nI k' = nI (11 + k') from nI_add 11 k') (by omega), nI_clamp (n := k') (by omega), Nat.add_assoc (11 + 17 * b.toNatClampNeg)]
theorem x_at (n : Nat) {w : Int32} (hb : vp_in b 6) (hw : w = nI n) (hn : n < 17) {R : Int32 → Prop} : wp_X8_at b w h R = R (nI (11 + 17 * b.toNatClampNeg + n)) := by
  obtain ⟨h1, h2⟩ := ix_at hb hw hn
  have hb6 := vp_in_lt hb
  unfold wp_X8_at
  have e : ((11 : Int32) + ((17 : Int32) * b)) + w = nI (11 + 17 * b.toNatClampNeg + n) := by
    rw [← h2]
    rw [i_eq, i_nI (by rw [h2]; omega), i_nat]
    have := (i_in.mp h1).1
    omega
  rw [e]
end XK
theorem m_needs {S : st_T} {b k : Int32} {h : hp_T} {Q : Int32 → hp_T → Prop} (hb : vp_in b 6) (hS : hp_i h 106 = S) (hk : rg (S (11 + 17 * b.toNatClampNeg + 3)) 0 63) (hX : VX S 0) (hQ : ∀ h1, fr P110 h h1 → Q (nd S b.toNatClampNeg k) h1) : wp_X8_needs b k h Q := by
  unfold wp_X8_needs
  simp only [x_its0 hb, x_its1 hb, x_its3 hb, x_held, hS]
  have hq := hQ h fr.refl
  refine ⟨fun e => by simpa [nd, e, hl] using hq, fun e1 => ⟨fun e => by simpa [nd, e, hl] using hq, fun e2 => ⟨fun e => by simpa [nd, e, hl] using hq, fun e3 => ⟨fun e => by simpa [nd, e, hl] using hq, fun e4 => ⟨fun e => by simpa [nd, e, hl] using hq, fun e5 => ⟨fun e => ⟨fun e9 => by simpa [nd, e, e9] using hq, fun e9 => ?_⟩, fun e6 => by simpa [nd, e1, e2, e4, e6, hl] using hq⟩⟩⟩⟩⟩⟩
  refine m_ones hk ?_
  refine m_worked (u := 0) (t := S (11 + 17 * b.toNatClampNeg + 1)) (by decide) hX e9 (fun _ => rfl) (fun z => by cases z) hS ?_
  intro h1 hf
  simpa [nd, e, e9] using hQ h1 hf
theorem m_wagesOf {S : st_T} {b : Int32} {h : hp_T} {Q : Int32 → hp_T → Prop} (hb : vp_in b 6) (hS : hp_i h 106 = S) (hk : rg (S (11 + 17 * b.toNatClampNeg + 3)) 0 63) (hX : VX S 1) (hQ : ∀ h1, fr P110 h h1 → Q (py S b.toNatClampNeg) h1) : wp_X8_wagesOf b h Q := by
  unfold wp_X8_wagesOf
  simp only [x_its0 hb, x_its2 hb, x_its3 hb, x_held, hS]
  have hq := hQ h fr.refl
  refine m_ones hk ?_
  refine ⟨fun e => ⟨fun e10 => by simpa [py, e10] using hq, fun e10 => ?_⟩, fun e => ⟨fun e10 => by simpa [py, e10] using hq, fun e10 => ?_⟩⟩
  · refine m_worked (u := 1) (by decide) hX e10 (fun z => by cases z) (fun _ => rfl) hS ?_
    intro h1 hf
    have := hQ h1 hf
    unfold py at this
    rw [if_neg e10, if_neg (by simpa using e)] at this
    exact this
  · refine m_worked (u := 1) (by decide) hX e10 (fun z => by cases z) (fun _ => rfl) hS ?_
    intro h1 hf
    have := hQ h1 hf
    unfold py at this
    rw [if_neg e10, if_pos (by simpa using e)] at this
    exact this
theorem x_tells {S : st_T} {b k : Int32} {h : hp_T} {Q : Int32 → Prop} (hb : vp_in b 6) (hk : vp_in k 6) (hS : hp_i h 106 = S) : wp_X8_tells b k h Q = Q (tl S b.toNatClampNeg k) := by
  unfold wp_X8_tells
  simp only [x_its0 hb, x_its1 hb, x_itsV hb hk, x_held, hS]
  by_cases e3 : S (11 + 17 * b.toNatClampNeg) = 3
  · simp [tl, e3]
  · by_cases e4 : S (11 + 17 * b.toNatClampNeg) = 4 <;> simp [tl, e3, e4]
theorem x_isMute {S : st_T} {b : Int32} {h : hp_T} {Q : Int32 → Prop} (hb : vp_in b 6) (hS : hp_i h 106 = S) : wp_X8_isMute b h Q = Q (bi (S (11 + 17 * b.toNatClampNeg) = 2 ∨ S (11 + 17 * b.toNatClampNeg) = 5)) := by
  unfold wp_X8_isMute
  simp only [x_its0 hb, hS]
  by_cases e3 : S (11 + 17 * b.toNatClampNeg) = 2
  · simp [bi, e3]
  · by_cases e4 : S (11 + 17 * b.toNatClampNeg) = 5 <;> simp [bi, e3, e4]
theorem m_isStaying {S : st_T} {b : Int32} {h : hp_T} {Q : Int32 → Prop} (hb : vp_in b 6) (hS : hp_i h 106 = S) (hm : rg (S (11 + 17 * b.toNatClampNeg + 1)) 0 9) (h1 : ry S b.toNatClampNeg → Q 1) (h0 : ¬ ry S b.toNatClampNeg → Q 0) : wp_X8_isStaying b h Q := by
  unfold wp_X8_isStaying
  simp only [x_its0 hb, x_its1 hb, hS]
  refine ⟨fun e => ⟨?_, fun z => h1 ⟨e, z⟩, fun z => h0 (fun w => z w.2)⟩, fun e => h0 (fun w => e w.1)⟩
  have h2 := hm.1
  have h3 := hm.2
  rw [i_eq, i_add (by have : (2 : Int32).toInt = 2 := rfl; omega) (by have : (2 : Int32).toInt = 2 := rfl; omega)]
  have e2 : (2 : Int32).toInt = 2 := rfl
  have e0 : (0 : Int32).toInt = 0 := rfl
  omega
theorem m_knowers_L {S : st_T} {k : Int32} {h : hp_T} {Q : Int32 → Prop} (hc : rg (S 0) 0 6) (hS : hp_i h 106 = S) : ∀ (r i nn : Nat) (a : Int32), i + r = cr S → r < nn → Q (lp (fun b a => a + (if kn S b k = true then 1 else 0)) i r a) → wp_X8_knowers_L4 k h Q nn a (nI i) := by
  intro r
  induction r with
  | zero =>
    intro i nn a hi hn hq
    obtain ⟨nn, rfl⟩ : ∃ m, nn = m + 1 := ⟨nn - 1, by omega⟩
    unfold wp_X8_knowers_L4
    rw [hS, (cr_nI hc).1]
    have := (cr_nI hc).2
    exact ⟨fun _ => hq, fun z => absurd (nI_le (by omega) (by omega)) z⟩
  | succ r ih =>
    intro i nn a hi hn hq
    obtain ⟨nn, rfl⟩ : ∃ m, nn = m + 1 := ⟨nn - 1, by omega⟩
    unfold wp_X8_knowers_L4
    have h6 := (cr_nI hc).2
    obtain ⟨v1, v2, v3⟩ := vp_nI hc (show i < cr S by omega)
    rw [hS, (cr_nI hc).1]
    refine ⟨fun z => absurd z (nI_ge (by omega) (by omega)), fun _ => ?_⟩
    rw [x_isKnowing v1, v2, hS]
    simp only [bi_0, show nI i + 1 = nI (i + 1) from nI_1 i]
    have hq' : Q (lp (fun b a => a + (if kn S b k = true then 1 else 0)) (i + 1) r (a + (if kn S i k = true then 1 else 0))) := hq
    cases hk : kn S i k with
    | true =>
      rw [hk] at hq'
      have hk' : kb (S (11 + 17 * i + 3)) k = true := hk
      simp only [hk', forall_eq, true_implies, false_implies, not_true_eq_false, not_false_eq_true, and_true, true_and, implies_true, bi_0, bi_1, bi_ok]
      exact ih (i + 1) nn _ (by omega) (by omega) hq'
    | false =>
      rw [hk] at hq'
      have hk' : kb (S (11 + 17 * i + 3)) k = false := hk
      simp only [hk', Bool.false_eq_true, forall_eq, true_implies, false_implies, not_true_eq_false, not_false_eq_true, and_true, true_and, implies_true, bi_0, bi_1, bi_ok]
      exact ih (i + 1) nn _ (by omega) (by omega) hq'
theorem m_knowers {S : st_T} {k : Int32} {h : hp_T} {Q : Int32 → Prop} (hc : rg (S 0) 0 6) (hS : hp_i h 106 = S) (hq : Q (kns S k)) : wp_X8_knowers k h Q := by
  refine ⟨cr S + 1, ?_⟩
  exact m_knowers_L hc hS (cr S) 0 (cr S + 1) 0 (by omega) (by omega) hq
abbrev PL : Nat → Nat → Prop := fun a j => a = 106 ∨ a = 110 ∨ (a = 105 ∧ j = 13)
theorem fr110 {h h1 : hp_T} (f : fr P110 h h1) : fr PL h h1 := f.mono fun _ _ q => Or.inr (Or.inl q)
theorem fr110_row {h h1 : hp_T} (f : fr P110 h h1) : hp_i h1 106 = hp_i h 106 := by
  funext j
  exact f.2 106 j (show ¬ (106 : Nat) = 110 by decide)
theorem nx_nI {S : st_T} {b : Nat} (hc : rg (S 0) 0 6) (hb : b < cr S) : (nI b + 1) - (nI b + 1) / S 0 * S 0 = nI (nx S b) ∧ nx S b < cr S := by
  have h6 := (cr_nI hc).2
  refine ⟨?_, Nat.mod_lt _ (by omega)⟩
  conv => lhs; rw [(cr_nI hc).1]
  rw [show nI b + 1 = nI (b + 1) from nI_1 b, pk_rem (by omega) (by omega) (by omega)]
  rfl
/-- the end of a lesson: what the pupil gets -/
theorem m_learn {S : st_T} {c k' : Nat} {h : hp_T} {v : Int32} {Q : hp_T → Prop} (hc6 : c < 6) (hk6 : k' < 6) (hS : hp_i h 106 = S) (hQ : ∀ h1, fr (fun a _ => a = 106) h h1 → hp_i h1 106 = le S c (nI k') v → Q h1) :
    wp_X8_at (nI c) (3 : Int32) h (fun v_24 => (vp_in v_24 357) ∧ (vp_in v_24 357) ∧ (∀ h_27, h_27 = hp_si h 106 v_24.toNatClampNeg ((hp_i h 106 v_24.toNatClampNeg) ||| ((1 : Int32) <<< (nI k' &&& 31))) → wp_X8_at (nI c) ((5 : Int32) + nI k') h_27 (fun v_30 => (vp_in v_30 357) ∧ (∀ h_32, h_32 = hp_si h_27 106 v_30.toNatClampNeg v → (Q h_32))))) := by
  have v1 : vp_in (nI c) 6 := vp_in_nI (by omega) (by decide)
  rw [x_at 3 v1 (show (3 : Int32) = nI 3 from rfl) (by decide), nI_clamp (n := c) (by omega), nI_clamp (n := 11 + 17 * c + 3) (by omega)]
  refine ⟨vp_in_nI (by omega) (by decide), vp_in_nI (by omega) (by decide), ?_⟩
  rintro h1 rfl
  rw [x_at (5 + k') v1 (show (5 : Int32) + nI k' = nI (5 + k') from nI_add 5 k') (by omega), nI_clamp (n := c) (by omega), nI_clamp (n := 11 + 17 * c + (5 + k')) (by omega)]
  refine ⟨vp_in_nI (by omega) (by decide), ?_⟩
  rintro h2 rfl
  refine hQ _ ((fr_si (P := fun a _ => a = 106) rfl).si rfl) ?_
  rw [si_row, si_row, hS]
  unfold le
  rw [nI_clamp (n := k') (by omega), Nat.add_assoc (11 + 17 * c)]
theorem m_lesson {S : st_T} {b : Nat} {h : hp_T} {Q : hp_T → Prop} (dr : Bool) {x2 : Int32} (hdr : (x2 = 0) = (dr = false)) (hc : rg (S 0) 0 6) (hb : b < cr S) (hVb : VB S b) (hVc : VB S (nx S b)) (hX : VX S 0) (hS : hp_i h 106 = S) (hQ : ∀ h1, fr PL h h1 → hp_i h1 106 = (ls dr b S).1 → hp_i h1 105 13 = hp_i h 105 13 + (ls dr b S).2 → Q h1) : wp_X8_lesson (nI b) x2 h Q := by
  obtain ⟨v1, v2, v3⟩ := vp_nI hc hb
  obtain ⟨n1, n2⟩ := nx_nI hc hb
  obtain ⟨w1, w2, w3⟩ := vp_nI hc n2
  unfold wp_X8_lesson
  rw [x_its4 v1, v2, hS, n1]
  have no : ¬ (0 ≤ S (11 + 17 * b + 4) ∧ kn S b (S (11 + 17 * b + 4)) = true ∧ ¬ (S (11 + 17 * b) = 2 ∨ S (11 + 17 * b) = 5) ∧ kn S (nx S b) (S (11 + 17 * b + 4)) = false) → Q h := by
    intro z
    have e : ls dr b S = (S, 0) := by unfold ls; rw [if_neg z]
    exact hQ h fr.refl (by rw [e]; exact hS) (by rw [e]; simp)
  refine ⟨by rw [(cr_nI hc).1]; exact nI_ne0 (by omega) (by have := (cr_nI hc).2; omega), fun hneg => no (fun z => ?_), fun hk0 => ?_⟩
  · rw [i_lt] at hneg
    have := z.1
    rw [i_le] at this
    omega
  have hk1 : (0 : Int32) ≤ S (11 + 17 * b + 4) := by rw [i_lt] at hk0; rw [i_le]; omega
  obtain ⟨k', hk', ek⟩ : ∃ k', k' ≤ 5 ∧ S (11 + 17 * b + 4) = nI k' := by
    refine rg_nI (b := 5) 5 ⟨?_, hVb.2.2.2.1.2⟩ rfl (by decide)
    rw [i_le] at hk1
    exact hk1
  rw [ek] at no hk1 ⊢
  have kin : vp_in (nI k') 6 := vp_in_nI (by omega) (by decide)
  have kcl : (nI k').toNatClampNeg = k' := nI_clamp (by omega)
  rw [x_isKnowing v1, v2, hS]
  simp only [bi_0, x_isMute v1 hS, v2, x_isKnowing w1, w2, hS]
  refine ⟨fun z => no (fun y => z y.2.1), fun z1 => ⟨fun z2 => ⟨fun z3 => ?_, fun z => no (fun y => z (by simpa [kn] using y.2.2.2))⟩, fun z => no (fun y => z y.2.2.1)⟩⟩
  have z1' : kn S b (nI k') = true := by simpa [kn] using z1
  have z3' : kn S (nx S b) (nI k') = false := by simpa [kn] using z3
  have yes : 0 ≤ S (11 + 17 * b + 4) ∧ kn S b (S (11 + 17 * b + 4)) = true ∧ ¬ (S (11 + 17 * b) = 2 ∨ S (11 + 17 * b) = 5) ∧ kn S (nx S b) (S (11 + 17 * b + 4)) = false := by rw [ek]; exact ⟨hk1, z1', z2, z3'⟩
  rw [x_at (11 + k') w1 (show (11 : Int32) + nI k' = nI (11 + k') from nI_add 11 k') (by omega), w2, x_itsL w1 kin, w2, kcl, x_held, nI_clamp (n := 11 + 17 * nx S b + (11 + k')) (by omega), hS, ← Nat.add_assoc (11 + 17 * nx S b)]
  refine ⟨vp_in_nI (by omega) (by decide), ?_⟩
  rintro h1 rfl
  generalize hL : hl (S (11 + 17 * nx S b + 11 + k') + 1) 0 99 = L
  have hS1 : hp_i (hp_si h 106 (11 + 17 * nx S b + 11 + k') L) 106 = ss S (11 + 17 * nx S b + 11 + k') L := by rw [si_row, hS]
  have f1 : fr PL h (hp_si h 106 (11 + 17 * nx S b + 11 + k') L) := fr_si (Or.inl rfl)
  generalize hh1 : hp_si h 106 (11 + 17 * nx S b + 11 + k') L = h1 at hS1 f1 ⊢
  have e13 : hp_i h1 105 13 = hp_i h 105 13 := by rw [← hh1]; rfl
  rw [x_itsL w1 kin, w2, kcl, hS1, ss_i]
  generalize hS1' : ss S (11 + 17 * nx S b + 11 + k') L = S1 at hS1 ⊢
  have S1n : ∀ j, j ≠ 11 + 17 * nx S b + 11 + k' → S1 j = S j := fun j hj => by rw [← hS1', ss_n hj]
  have hlsx : ls dr b S = if nd S1 (nx S b) (nI k') ≤ L then ls1 dr b (nx S b) (nI k') S1 else (S1, 0) := by
    unfold ls
    rw [if_pos yes, ek, kcl, hL, hS1']
  have hX1 : VX S1 0 := by
    rcases hX with e | ⟨n, a1, a2, a3, a4⟩
    · exact Or.inl (by rw [S1n _ (by omega)]; exact e)
    · refine Or.inr ⟨n, a1, a2, by rw [S1n _ (by omega)]; exact a3, ?_⟩
      have ecd : cd S1 0 = cd S 0 := by
        funext i
        exact S1n _ (by omega)
      rw [ecd]; exact a4
  refine m_needs w1 hS1 (by rw [w2, S1n _ (by omega)]; exact hVc.2.2.1) hX1 ?_
  rw [w2]
  intro h2 hf2
  have hS2 : hp_i h2 106 = S1 := by rw [fr110_row hf2, hS1]
  have f2 : fr PL h h2 := f1.trans (fr110 hf2)
  have e13' : hp_i h2 105 13 = hp_i h 105 13 := by rw [hf2.2 105 13 (show ¬ (105 : Nat) = 110 by decide), e13]
  refine ⟨fun z => ?_, fun z => ?_⟩
  · have hlo : ls dr b S = (S1, 0) := by rw [hlsx, if_neg (by rw [i_lt] at z; rw [i_le]; omega)]
    exact hQ h2 f2 (by rw [hlo]; exact hS2) (by rw [hlo, e13']; simp)
  · have hhi : ls dr b S = ls1 dr b (nx S b) (nI k') S1 := by rw [hlsx, if_pos (by rw [i_lt] at z; rw [i_le]; omega)]
    rw [hhi] at hQ
    rw [x_tells v1 kin hS2, v2]
    cases dr with
    | false =>
      rw [hdr]
      refine ⟨fun _ => ?_, fun z => absurd rfl z⟩
      refine m_learn w3 (by omega) hS2 ?_
      intro h3 f3 e3
      exact hQ h3 (f2.trans (f3.mono fun _ _ q => Or.inl q)) (by rw [e3]; rfl) (by rw [f3.2 105 13 (show ¬ (105 : Nat) = 106 by decide), e13']; simp [ls1])
    | true =>
      rw [hdr]
      refine ⟨fun z => absurd z (by decide), fun _ => ?_⟩
      unfold wp_X8_draw
      rintro h3 rfl
      have hS3 : hp_i (hp_si h2 106 6 ((hp_i h2 106 6) * (1103515245 : Int32) + (12345 : Int32))) 106 = ss S1 6 (zn S1) := by rw [si_row, hS2]; rfl
      have f3 : fr PL h (hp_si h2 106 6 ((hp_i h2 106 6) * (1103515245 : Int32) + (12345 : Int32))) := f2.si (Or.inl rfl)
      have e133 : hp_i (hp_si h2 106 6 ((hp_i h2 106 6) * (1103515245 : Int32) + (12345 : Int32))) 105 13 = hp_i h 105 13 := by rw [← e13']; rfl
      generalize hp_si h2 106 6 ((hp_i h2 106 6) * (1103515245 : Int32) + (12345 : Int32)) = h3 at hS3 f3 e133 ⊢
      have e6 : hp_i h3 106 6 = zn S1 := by rw [hS3, ss_i]
      have e5 : hp_i h3 106 5 = S1 5 := by rw [hS3, ss_n (show (5 : Nat) ≠ 6 by decide)]
      rw [e6, e5]
      refine ⟨fun z => ?_, fun z => ?_⟩
      · refine m_learn w3 (by omega) hS3 ?_
        intro h4 f4 e4
        have e : ls1 true b (nx S b) (nI k') S1 = (le (ss S1 6 (zn S1)) (nx S b) (nI k') (tl S1 b (nI k')), 0) := by
          unfold ls1
          rw [if_pos rfl, if_neg (by rw [i_le] at z; rw [i_lt]; omega)]
        exact hQ h4 (f3.trans (f4.mono fun _ _ q => Or.inl q)) (by rw [e, e4]) (by rw [e, f4.2 105 13 (show ¬ (105 : Nat) = 106 by decide), e133]; simp)
      · rw [x_held]
        rintro h4 rfl
        have hS4 : hp_i (hp_si h3 105 13 ((hp_i h3 105 13) + (1 : Int32))) 106 = ss S1 6 (zn S1) := by rw [si_row_ne (by decide), hS3]
        have f4 : fr PL h (hp_si h3 105 13 ((hp_i h3 105 13) + (1 : Int32))) := f3.si (Or.inr (Or.inr ⟨rfl, rfl⟩))
        have e134 : hp_i (hp_si h3 105 13 ((hp_i h3 105 13) + (1 : Int32))) 105 13 = hp_i h 105 13 + 1 := by rw [hp_i_si, if_pos ⟨rfl, rfl⟩, e133]
        generalize hp_si h3 105 13 ((hp_i h3 105 13) + (1 : Int32)) = h4 at hS4 f4 e134 ⊢
        refine m_learn w3 (by omega) hS4 ?_
        intro h5 f5 e5
        have e : ls1 true b (nx S b) (nI k') S1 = (le (ss S1 6 (zn S1)) (nx S b) (nI k') (hl (tl S1 b (nI k') + 1) 0 999), 1) := by
          unfold ls1
          rw [if_pos rfl, if_pos (by rw [i_le] at z; rw [i_lt]; omega)]
        exact hQ h5 (f4.trans (f5.mono fun _ _ q => Or.inl q)) (by rw [e, e5]) (by rw [e, f5.2 105 13 (show ¬ (105 : Nat) = 106 by decide), e134])
