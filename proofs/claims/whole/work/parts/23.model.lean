/-! ===== PURE: the reference's parts of a day ===== -/
def on (n : Nat) (a r : Int32) : Option Int32 := Nat.rec (motive := fun _ => Int32 → Int32 → Option Int32) (fun _ _ => none) (fun _ ih a r => if r = 0 then some a else ih (a + 1) (r &&& (r - 1))) n a r
theorem m_ones_L {x : Int32} {h : hp_T} {Q : Int32 → Prop} {v : Int32} (hq : Q v) : ∀ (n : Nat) (a r : Int32), on n a r = some v → wp_X8_ones_L4 x h Q n a r := by
  intro n
  induction n with
  | zero => intro a r h; cases h
  | succ n ih =>
    intro a r e
    unfold wp_X8_ones_L4
    have e' : (if r = 0 then some a else on n (a + 1) (r &&& (r - 1))) = some v := e
    by_cases h0 : r = 0
    · rw [if_pos h0] at e'
      cases e'
      exact ⟨fun _ => hq, fun z => absurd h0 z⟩
    · rw [if_neg h0] at e'
      exact ⟨fun z => absurd z h0, fun _ => ih _ _ e'⟩
theorem on_bc : (List.range 64).all (fun c => on 8 0 (nI c) == some (bc (nI c))) = true := by decide +kernel
theorem m_ones {x : Int32} {h : hp_T} {Q : Int32 → Prop} (hx : rg x 0 63) (hq : Q (bc x)) : wp_X8_ones x h Q := by
  obtain ⟨c, hc, rfl⟩ := rg_nI 63 hx rfl (by decide)
  refine ⟨8, m_ones_L hq 8 0 (nI c) ?_⟩
  have := List.all_eq_true.mp on_bc c (List.mem_range.mpr (by omega))
  simpa using this
abbrev P110 : Nat → Nat → Prop := fun a _ => a = 110
theorem dp_le {c : Nat → Int32} : ∀ i, dp c i ≤ i
  | 0 => Nat.le_refl 0
  | i + 1 => by
    have := dp_le (c := c) i
    unfold dp
    split
    · omega
    · split <;> omega
theorem div_m1 (x : Int32) : x / -1 = -x := by
  have h1 : (-1 : Int32).toInt = -1 := rfl
  rw [i_eq, Int32.toInt_div, h1, Int.tdiv_neg, Int.tdiv_one, Int32.toInt_neg]
theorem mul_m1 (x : Int32) : x - -x * -1 = 0 := by
  rw [show -x * -1 = x by rw [Int32.neg_mul, Int32.mul_neg, Int32.mul_one, Int32.neg_neg], Int32.sub_self]
theorem x_by {c x y : Int32} {h : hp_T} {Q : Int32 → Prop} (hc : c = -11 ∨ c = -12 ∨ c = -13 ∨ c = -14 ∨ c = -15 ∨ c = -16 ∨ c = -17 ∨ c = -18 ∨ c = -19 ∨ c = -20) (hq : Q (by_s c x y)) : wp_X8_by c x y h Q := by
  unfold wp_X8_by
  rcases hc with rfl | rfl | rfl | rfl | rfl | rfl | rfl | rfl | rfl | rfl <;> simp [by_s] at hq ⊢
  · by_cases h1 : x = 0 <;> by_cases h2 : y = 0 <;> simp [h1, h2] at hq ⊢ <;> exact hq
  · by_cases h1 : x = 0 <;> by_cases h2 : y = 0 <;> simp [h1, h2] at hq ⊢ <;> exact hq
  · by_cases h1 : x < y
    · simp [h1] at hq ⊢; exact ⟨fun z => absurd z (by simpa using h1), hq⟩
    · simp [h1] at hq ⊢; exact fun _ => hq
  · by_cases h1 : x = y <;> simp [h1] at hq ⊢ <;> exact hq
  · by_cases h1 : y < x
    · simp [h1] at hq ⊢; exact ⟨fun z => absurd z (by simpa using h1), hq⟩
    · simp [h1] at hq ⊢; exact fun _ => hq
  · exact hq
  · exact hq
  · exact hq
  · by_cases h1 : y = 0
    · simp [h1] at hq ⊢; exact hq
    · by_cases h2 : y = -1
      · subst h2; rw [div_m1] at hq; simpa using hq
      · simp [h1, h2] at hq ⊢; exact hq
  · by_cases h1 : y = 0
    · simp [h1] at hq ⊢; exact hq
    · by_cases h2 : y = -1
      · subst h2; rw [div_m1, mul_m1] at hq; simpa using hq
      · simp [h1, h2] at hq ⊢; exact hq
theorem m_worked_L {S : st_T} {u n : Nat} (hu : u < 2) (hn : S (9 + u) = nI n) (hn60 : n ≤ 60) (hr : rpn u n (cd S u)) {k hh m d t : Int32} (ht0 : u = 0 → m = t) (ht1 : u = 1 → d = t) {h0 : hp_T} (hS : hp_i h0 106 = S) {Q : Int32 → hp_T → Prop} (hQ : ∀ h1, fr P110 h0 h1 → Q (pl (cd S u) k hh t n 0) h1) :
    ∀ (r i nn : Nat) (h : hp_T), i + r = n → r < nn → fr P110 h0 h → (∀ j, j < dp (cd S u) i → hp_i h 110 j = pl (cd S u) k hh t i j) → wp_X8_worked_L6 (nI u) k hh m d Q nn (nI (dp (cd S u) i)) (nI i) h := by
  intro r
  induction r with
  | zero =>
    intro i nn h hin hnn hf hp
    obtain ⟨nn, rfl⟩ : ∃ m, nn = m + 1 := ⟨nn - 1, by omega⟩
    unfold wp_X8_worked_L6
    have hi : i = n := by omega
    subst hi
    have e9 : (9 : Int32) + nI u = nI (9 + u) := nI_add 9 u
    have eS : hp_i h 106 (9 + u) = nI i := by rw [hf.2 106 _ (show ¬ (106 : Nat) = 110 by decide), hS, hn]
    rw [e9, nI_clamp (by omega), eS]
    refine ⟨vp_in_nI (by omega) (by decide), fun _ => ?_, fun z => absurd (nI_le (Nat.le_refl i) (by omega)) z⟩
    rw [hp 0 (by rw [hr.2]; omega)]
    exact hQ h hf
  | succ r ih =>
    intro i nn h hin hnn hf hp
    obtain ⟨nn, rfl⟩ : ∃ m, nn = m + 1 := ⟨nn - 1, by omega⟩
    unfold wp_X8_worked_L6
    have hdl := dp_le (c := cd S u) i
    have e9 : (9 : Int32) + nI u = nI (9 + u) := nI_add 9 u
    have eS : hp_i h 106 (9 + u) = nI n := by rw [hf.2 106 _ (show ¬ (106 : Nat) = 110 by decide), hS, hn]
    have e237 : ((237 : Int32) + (60 : Int32) * nI u) + nI i = nI (237 + 60 * u + i) := by
      rw [show (237 : Int32) = nI 237 from rfl, show (60 : Int32) = nI 60 from rfl, pk_mul, nI_add, nI_add]
    have ec : hp_i h 106 (237 + 60 * u + i) = cd S u i := by rw [hf.2 106 _ (show ¬ (106 : Nat) = 110 by decide), hS]; rfl
    rw [e9, e237, nI_clamp (n := 9 + u) (by omega), nI_clamp (n := 237 + 60 * u + i) (by omega), eS, ec]
    refine ⟨vp_in_nI (by omega) (by decide), fun z => absurd z (nI_ge (by omega) (by omega)), fun _ => ⟨vp_in_nI (by omega) (by decide), ?_⟩⟩
    have hok := hr.1 i (by omega)
    have hi1 : nI i + 1 = nI (i + 1) := nI_1 i
    have hd1 : nI (dp (cd S u) i) + 1 = nI (dp (cd S u) i + 1) := nI_1 _
    have push : ∀ v : Int32, (-10 < cd S u i) → (if 0 ≤ cd S u i then cd S u i else if cd S u i = -1 then k else if cd S u i = -2 then hh else t) = v → wp_X8_worked_L6 (nI u) k hh m d Q nn (nI (dp (cd S u) i + 1)) (nI (i + 1)) (hp_si h 110 (dp (cd S u) i) v) := by
      intro v hlt hv
      have hd : dp (cd S u) (i + 1) = dp (cd S u) i + 1 := by show (if _ then _ else _) = _; rw [if_pos hlt]
      have hpl : pl (cd S u) k hh t (i + 1) = ss (pl (cd S u) k hh t i) (dp (cd S u) i) v := by show (if _ then _ else _) = _; rw [if_pos hlt, hv]
      have := ih (i + 1) nn (hp_si h 110 (dp (cd S u) i) v) (by omega) (by omega) (hf.si rfl) (by
        intro j hj
        rw [hd] at hj
        rw [hpl, hp_i_si]
        by_cases e : j = dp (cd S u) i
        · rw [if_pos ⟨rfl, e⟩, e, ss_i]
        · rw [if_neg (fun z => e z.2), ss_n e]
          exact hp j (by omega))
      rw [hd] at this
      exact this
    rcases hok with hx | hx | hx | ⟨rfl, hx⟩ | ⟨rfl, hx⟩ | ⟨hx, hd0⟩ | ⟨hx, hd0⟩
    · have f1 : (cd S u i ≤ -10) = False := by rw [i_le] at hx ⊢; simp only [eq_iff_iff, iff_false]; have : (-10 : Int32).toInt = -10 := rfl; have : (0 : Int32).toInt = 0 := rfl; omega
      have f2 : (cd S u i < 0) = False := by rw [i_le] at hx; rw [i_lt]; simp only [eq_iff_iff, iff_false]; omega
      simp only [f1, f2, forall_eq, true_implies, false_implies, not_true_eq_false, not_false_eq_true, and_true, true_and, implies_true, bi_0, bi_1, bi_ok, hi1, hd1, nI_clamp (show dp (cd S u) i < 2 ^ 31 by omega)]
      exact ⟨vp_in_nI (by omega) (by decide), push _ (by rw [i_le] at hx; rw [i_lt]; have : (-10 : Int32).toInt = -10 := rfl; have : (0 : Int32).toInt = 0 := rfl; omega) (if_pos hx)⟩
    · rw [hx]
      have p := push k (by rw [hx]; decide) (by rw [hx]; rfl)
      simp only [show ((-1 : Int32) ≤ -10) = False from by decide, show ((-1 : Int32) < 0) = True from by decide, forall_eq, true_implies, false_implies, not_true_eq_false, not_false_eq_true, and_true, true_and, implies_true, bi_0, bi_1, bi_ok, hi1, hd1, nI_clamp (show dp (cd S u) i < 2 ^ 31 by omega)]
      exact ⟨vp_in_nI (by omega) (by decide), p⟩
    · rw [hx]
      have p := push hh (by rw [hx]; decide) (by rw [hx]; rfl)
      simp only [show ((-2 : Int32) ≤ -10) = False from by decide, show ((-2 : Int32) < 0) = True from by decide, show ((-2 : Int32) = -1) = False from by decide, forall_eq, true_implies, false_implies, not_true_eq_false, not_false_eq_true, and_true, true_and, implies_true, bi_0, bi_1, bi_ok, hi1, hd1, nI_clamp (show dp (cd S u) i < 2 ^ 31 by omega)]
      exact ⟨vp_in_nI (by omega) (by decide), p⟩
    · obtain rfl := ht0 rfl
      rw [hx]
      have p := push m (by rw [hx]; decide) (by rw [hx]; rfl)
      simp only [show ((-3 : Int32) ≤ -10) = False from by decide, show ((-3 : Int32) < 0) = True from by decide, show ((-3 : Int32) = -1) = False from by decide, show ((-3 : Int32) = -2) = False from by decide, forall_eq, true_implies, false_implies, not_true_eq_false, not_false_eq_true, and_true, true_and, implies_true, bi_0, bi_1, bi_ok, hi1, hd1, nI_clamp (show dp (cd S 0) i < 2 ^ 31 by omega)]
      exact ⟨vp_in_nI (by omega) (by decide), p⟩
    · obtain rfl := ht1 rfl
      rw [hx]
      have p := push d (by rw [hx]; decide) (by rw [hx]; rfl)
      simp only [show ((-4 : Int32) ≤ -10) = False from by decide, show ((-4 : Int32) < 0) = True from by decide, show ((-4 : Int32) = -1) = False from by decide, show ((-4 : Int32) = -2) = False from by decide, show ((-4 : Int32) = -3) = False from by decide, forall_eq, true_implies, false_implies, not_true_eq_false, not_false_eq_true, and_true, true_and, implies_true, bi_0, bi_1, bi_ok, hi1, hd1, nI_clamp (show dp (cd S 1) i < 2 ^ 31 by omega)]
      exact ⟨vp_in_nI (by omega) (by decide), p⟩
    · have hd : dp (cd S u) (i + 1) = dp (cd S u) i := by show (if _ then _ else if _ then _ else _) = _; rw [hx]; rfl
      have hpl : pl (cd S u) k hh t (i + 1) = ss (pl (cd S u) k hh t i) (dp (cd S u) i - 1) (if pl (cd S u) k hh t i (dp (cd S u) i - 1) = 0 then 1 else 0) := by show (if _ then _ else if _ then _ else _) = _; rw [hx]; rfl
      have top : ∀ v : Int32, (if pl (cd S u) k hh t i (dp (cd S u) i - 1) = 0 then 1 else 0) = v → wp_X8_worked_L6 (nI u) k hh m d Q nn (nI (dp (cd S u) i)) (nI (i + 1)) (hp_si h 110 (dp (cd S u) i - 1) v) := by
        intro v hv
        have := ih (i + 1) nn (hp_si h 110 (dp (cd S u) i - 1) v) (by omega) (by omega) (hf.si rfl) (by
          intro j hj
          rw [hd] at hj
          rw [hpl, hv, hp_i_si]
          by_cases e : j = dp (cd S u) i - 1
          · rw [if_pos ⟨rfl, e⟩, e, ss_i]
          · rw [if_neg (fun z => e z.2), ss_n e]
            exact hp j (by omega))
        rw [hd] at this
        exact this
      have hv := hp (dp (cd S u) i - 1) (by omega)
      have em : nI (dp (cd S u) i) - 1 = nI (dp (cd S u) i - 1) := pk_sub (a := dp (cd S u) i) (b := 1) hd0
      have vin : vp_in (nI (dp (cd S u) i - 1)) 64 := vp_in_nI (by omega) (by decide)
      rw [hx]
      simp only [show ((-21 : Int32) ≤ -10) = True from by decide, forall_eq, true_implies, false_implies, not_true_eq_false, not_false_eq_true, and_true, true_and, implies_true, bi_0, bi_1, bi_ok, hi1, em, nI_clamp (show dp (cd S u) i - 1 < 2 ^ 31 by omega), vin, hv]
      exact ⟨fun z => top 1 (if_pos z), fun z => top 0 (if_neg z)⟩
    · have hle : ¬ -10 < cd S u i := by rcases hx with e | e | e | e | e | e | e | e | e | e <;> rw [e] <;> decide
      have hle' : (cd S u i ≤ -10) = True := by rcases hx with e | e | e | e | e | e | e | e | e | e <;> rw [e] <;> decide
      have hne : ¬ cd S u i = -21 := by rcases hx with e | e | e | e | e | e | e | e | e | e <;> rw [e] <;> decide
      have hd : dp (cd S u) (i + 1) = dp (cd S u) i - 1 := by show (if _ then _ else if _ then _ else _) = _; rw [if_neg hle, if_neg hne]
      have hpl : pl (cd S u) k hh t (i + 1) = ss (pl (cd S u) k hh t i) (dp (cd S u) i - 2) (by_s (cd S u i) (pl (cd S u) k hh t i (dp (cd S u) i - 2)) (pl (cd S u) k hh t i (dp (cd S u) i - 1))) := by show (if _ then _ else if _ then _ else _) = _; rw [if_neg hle, if_neg hne]
      have em : nI (dp (cd S u) i) + -1 = nI (dp (cd S u) i - 1) := by
        have := pk_m1 (dp (cd S u) i - 1)
        rw [show dp (cd S u) i - 1 + 1 = dp (cd S u) i by omega] at this
        exact this
      have em2 : nI (dp (cd S u) i - 1) - 1 = nI (dp (cd S u) i - 2) := pk_sub (a := dp (cd S u) i - 1) (b := 1) (by omega)
      have hv1 := hp (dp (cd S u) i - 1) (by omega)
      have hv2 := hp (dp (cd S u) i - 2) (by omega)
      have vin1 : vp_in (nI (dp (cd S u) i - 1)) 64 := vp_in_nI (by omega) (by decide)
      have vin2 : vp_in (nI (dp (cd S u) i - 2)) 64 := vp_in_nI (by omega) (by decide)
      simp only [hle', eq_false hne, forall_eq, true_implies, false_implies, not_true_eq_false, not_false_eq_true, and_true, true_and, implies_true, bi_0, bi_1, bi_ok, hi1, em, em2, nI_clamp (show dp (cd S u) i - 1 < 2 ^ 31 by omega), nI_clamp (show dp (cd S u) i - 2 < 2 ^ 31 by omega), vin1, vin2, hv1, hv2]
      refine x_by hx ?_
      have := ih (i + 1) nn (hp_si h 110 (dp (cd S u) i - 2) (by_s (cd S u i) (pl (cd S u) k hh t i (dp (cd S u) i - 2)) (pl (cd S u) k hh t i (dp (cd S u) i - 1)))) (by omega) (by omega) (hf.si rfl) (by
        intro j hj
        rw [hd] at hj
        rw [hpl, hp_i_si]
        by_cases e : j = dp (cd S u) i - 2
        · rw [if_pos ⟨rfl, e⟩, e, ss_i]
        · rw [if_neg (fun z => e z.2), ss_n e]
          exact hp j (by omega))
      rw [hd] at this
      exact this
theorem m_worked {S : st_T} {u : Nat} (hu : u < 2) (hV : VX S u) (h0' : ¬ S (9 + u) = 0) {k hh m d t : Int32} (ht0 : u = 0 → m = t) (ht1 : u = 1 → d = t) {h : hp_T} (hS : hp_i h 106 = S) {Q : Int32 → hp_T → Prop} (hQ : ∀ h1, fr P110 h h1 → Q (ev S u k hh t) h1) : wp_X8_worked (nI u) k hh m d h Q := by
  rcases hV with e | ⟨n, h1, h2, hn, hr⟩
  · exact absurd e h0'
  · refine ⟨n + 1, ?_⟩
    have e : cn S u = n := by show (S (9 + u)).toNatClampNeg = n; rw [hn, nI_clamp (by omega)]
    refine m_worked_L hu hn h2 hr ht0 ht1 hS ?_ n 0 (n + 1) h (by omega) (by omega) fr.refl (fun j hj => absurd hj (Nat.not_lt_zero j))
    intro h1 hf
    have := hQ h1 hf
    unfold ev at this
    rw [e] at this
    exact this
