/-! ===== PURE: the class: texts worked out ===== -/
def okx (x : Int32) : Prop := 0 ≤ x ∨ x = -107 ∨ x = -104 ∨ x = -109 ∨ x = -100 ∨ x = -33 ∨ (x = -124 ∨ x = -38 ∨ x = -60 ∨ x = -61 ∨ x = -62 ∨ x = -43 ∨ x = -45 ∨ x = -42 ∨ x = -47 ∨ x = -37)
theorem w_joined {c x y : Int32} {h : hp_T} {Q : Int32 → Prop} (hc : c = -124 ∨ c = -38 ∨ c = -60 ∨ c = -61 ∨ c = -62 ∨ c = -43 ∨ c = -45 ∨ c = -42 ∨ c = -47 ∨ c = -37) (hq : Q (by_s (tr c) x y)) : wp_X4_joined (-c) x y h Q := by
  unfold wp_X4_joined
  rcases hc with rfl | rfl | rfl | rfl | rfl | rfl | rfl | rfl | rfl | rfl
  · rw [show tr (-124) = -11 from rfl] at hq
    simp [by_s] at hq ⊢
    by_cases h1 : x = 0 <;> by_cases h2 : y = 0 <;> simp [h1, h2] at hq ⊢ <;> exact hq
  · rw [show tr (-38) = -12 from rfl] at hq
    simp [by_s] at hq ⊢
    by_cases h1 : x = 0 <;> by_cases h2 : y = 0 <;> simp [h1, h2] at hq ⊢ <;> exact hq
  · rw [show tr (-60) = -13 from rfl] at hq
    simp [by_s] at hq ⊢
    by_cases h1 : x < y
    · simp [h1] at hq ⊢; exact ⟨fun z => absurd z (by simpa using h1), hq⟩
    · simp [h1] at hq ⊢; exact fun _ => hq
  · rw [show tr (-61) = -14 from rfl] at hq
    simp [by_s] at hq ⊢
    by_cases h1 : x = y <;> simp [h1] at hq ⊢ <;> exact hq
  · rw [show tr (-62) = -15 from rfl] at hq
    simp [by_s] at hq ⊢
    by_cases h1 : y < x
    · simp [h1] at hq ⊢; exact ⟨fun z => absurd z (by simpa using h1), hq⟩
    · simp [h1] at hq ⊢; exact fun _ => hq
  · rw [show tr (-43) = -16 from rfl] at hq
    simp [by_s] at hq ⊢
    exact hq
  · rw [show tr (-45) = -17 from rfl] at hq
    simp [by_s] at hq ⊢
    exact hq
  · rw [show tr (-42) = -18 from rfl] at hq
    simp [by_s] at hq ⊢
    exact hq
  · rw [show tr (-47) = -19 from rfl] at hq
    simp [by_s] at hq ⊢
    by_cases h1 : y = 0 <;> simp [h1] at hq ⊢ <;> exact hq
  · rw [show tr (-37) = -20 from rfl] at hq
    simp [by_s] at hq ⊢
    by_cases h1 : y = 0 <;> simp [h1] at hq ⊢ <;> exact hq
theorem w_value_L {C : Nat → Int32} {u n q : Nat} (hn60 : n ≤ 60) (hn0 : 0 < n) (hr : rpn u n C) {k hh t : Int32} {h0 : hp_T} (hq : q + 2 < hp_n h0) (r0 : hp_r h0 q 0 = some (q + 1)) (r1 : hp_r h0 q 1 = some (q + 2)) (k1 : ab_k (q + 1) = 16) (k2 : ab_k (q + 2) = 17) (l1 : hp_l h0 (q + 1) = n) (l2 : hp_l h0 (q + 2) = n) (hC : ∀ i, i < n → okx (hp_i h0 (q + 1) i) ∧ tr (hp_i h0 (q + 1) i) = C i) {Q : Int32 → hp_T → Prop} (hQ : ∀ h1, fr (fun a _ => a = q + 2) h0 h1 → Q (pl C k hh t n 0) h1) :
    ∀ (r i nn : Nat) (h : hp_T), i + r = n → r < nn → fr (fun a _ => a = q + 2) h0 h → (∀ j, j < dp C i → hp_i h (q + 2) j = pl C k hh t i j) → wp_X4_value_L6 q k hh t Q nn (nI (dp C i)) (nI i) h := by
  intro r
  induction r with
  | zero =>
    intro i nn h hin hnn hf hp
    obtain ⟨nn, rfl⟩ : ∃ m, nn = m + 1 := ⟨nn - 1, by omega⟩
    unfold wp_X4_value_L6
    have hi : i = n := by omega
    subst hi
    have hq0 : q < hp_n h := by rw [hf.n]; omega
    have hq1 : q + 1 < hp_n h := by rw [hf.n]; omega
    have hq2 : q + 2 < hp_n h := by rw [hf.n]; omega
    have r0' : hp_r h q 0 = some (q + 1) := by rw [hf.r]; exact r0
    have r1' : hp_r h q 1 = some (q + 2) := by rw [hf.r]; exact r1
    have l1' : hp_l h (q + 1) = i := by rw [hf.l]; exact l1
    have l2' : hp_l h (q + 2) = i := by rw [hf.l]; exact l2
    refine ⟨hq0, q + 1, r0', k1, hq1, fun _ => ⟨fun z => absurd z ?_, fun _ => ⟨hq0, q + 2, r1', k2, hq2, ?_, ?_⟩⟩, fun z => absurd ?_ z⟩
    · rw [hr.2]; decide
    · rw [l2']; exact vp_in_nI (n := 0) hn0 (by omega)
    · rw [hp 0 (by rw [hr.2]; omega)]; exact hQ h hf
    · rw [l1']; exact nI_le (Nat.le_refl i) (by omega)
  | succ r ih =>
    intro i nn h hin hnn hf hp
    obtain ⟨nn, rfl⟩ : ∃ m, nn = m + 1 := ⟨nn - 1, by omega⟩
    unfold wp_X4_value_L6
    have hq0 : q < hp_n h := by rw [hf.n]; omega
    have hq1 : q + 1 < hp_n h := by rw [hf.n]; omega
    have hq2 : q + 2 < hp_n h := by rw [hf.n]; omega
    have r0' : hp_r h q 0 = some (q + 1) := by rw [hf.r]; exact r0
    have r1' : hp_r h q 1 = some (q + 2) := by rw [hf.r]; exact r1
    have l1' : hp_l h (q + 1) = n := by rw [hf.l]; exact l1
    have l2' : hp_l h (q + 2) = n := by rw [hf.l]; exact l2
    have hdl := dp_le (c := C) i
    obtain ⟨hx, hc⟩ := hC i (by omega)
    rw [← hf.2 (q + 1) i (show ¬ q + 1 = q + 2 by omega)] at hx hc
    have hok := hr.1 i (by omega)
    have icl : (nI i).toNatClampNeg = i := nI_clamp (by omega)
    have dcl : (nI (dp C i)).toNatClampNeg = dp C i := nI_clamp (by omega)
    have hi1 : nI i + 1 = nI (i + 1) := nI_1 i
    have hd1 : nI (dp C i) + 1 = nI (dp C i + 1) := nI_1 _
    have vd : vp_in (nI (dp C i)) n := vp_in_nI (by omega) (by omega)
    rw [icl]
    refine ⟨hq0, q + 1, r0', k1, hq1, fun z => absurd z (by rw [l1']; exact nI_ge (by omega) (by omega)), fun _ => ⟨hq0, q + 2, r1', k2, hq2, fun z => absurd z (by rw [l2']; exact nI_ge (by omega) (by omega)), fun _ => ⟨hq0, q + 1, r0', k1, hq1, by rw [l1']; exact vp_in_nI (by omega) (by omega), ?_⟩⟩⟩
    generalize hp_i h (q + 1) i = x at hx hc ⊢
    have push : ∀ v : Int32, (-10 < C i) → (if 0 ≤ C i then C i else if C i = -1 then k else if C i = -2 then hh else t) = v → q < hp_n h ∧ ∃ q_1, hp_r h q 1 = some q_1 ∧ ab_k q_1 = 17 ∧ q_1 < hp_n h ∧ vp_in (nI (dp C i)) (hp_l h q_1) ∧ ∀ h_1, h_1 = hp_si h q_1 (nI (dp C i)).toNatClampNeg v → wp_X4_value_L6 q k hh t Q nn (nI (dp C i) + 1) (nI i + 1) h_1 := by
      intro v hlt hv
      refine ⟨hq0, q + 2, r1', k2, hq2, by rw [l2']; exact vd, ?_⟩
      rintro h1 rfl
      have hd : dp C (i + 1) = dp C i + 1 := by show (if _ then _ else _) = _; rw [if_pos hlt]
      have hpl : pl C k hh t (i + 1) = ss (pl C k hh t i) (dp C i) v := by show (if _ then _ else _) = _; rw [if_pos hlt, hv]
      have := ih (i + 1) nn (hp_si h (q + 2) (dp C i) v) (by omega) (by omega) (hf.si rfl) (by
        intro j hj
        rw [hd] at hj
        rw [hpl, hp_i_si]
        by_cases e : j = dp C i
        · rw [if_pos ⟨rfl, e⟩, e, ss_i]
        · rw [if_neg (fun z => e z.2), ss_n e]
          exact hp j (by omega))
      rw [hd] at this
      rw [dcl, hi1, hd1]
      exact this
    rcases hx with hx | rfl | rfl | rfl | rfl | rfl | hx
    · have e : C i = x := by rw [← hc]; exact if_pos hx
      refine ⟨fun z => absurd z (by rw [i_le] at hx; rw [i_lt]; omega), fun _ => push x ?_ (by rw [e, if_pos hx])⟩
      rw [e]; rw [i_le] at hx; rw [i_lt]; have : (-10 : Int32).toInt = -10 := rfl; have : (0 : Int32).toInt = 0 := rfl; omega
    · have e : C i = -1 := by rw [← hc]; rfl
      refine ⟨fun _ => ⟨fun _ => push k (by rw [e]; decide) (by rw [e]; rfl), fun z => absurd rfl z⟩, fun z => absurd (by decide) z⟩
    · have e : C i = -2 := by rw [← hc]; rfl
      refine ⟨fun _ => ⟨fun z => absurd z (by decide), fun _ => ⟨fun _ => push hh (by rw [e]; decide) (by rw [e]; rfl), fun z => absurd rfl z⟩⟩, fun z => absurd (by decide) z⟩
    · have e : C i = -3 := by rw [← hc]; rfl
      refine ⟨fun _ => ⟨fun z => absurd z (by decide), fun _ => ⟨fun z => absurd z (by decide), fun _ => ⟨fun _ => push t (by rw [e]; decide) (by rw [e]; rfl), fun z => absurd rfl z⟩⟩⟩, fun z => absurd (by decide) z⟩
    · have e : C i = -4 := by rw [← hc]; rfl
      refine ⟨fun _ => ⟨fun z => absurd z (by decide), fun _ => ⟨fun z => absurd z (by decide), fun _ => ⟨fun z => absurd z (by decide), fun _ => ⟨fun _ => push t (by rw [e]; decide) (by rw [e]; rfl), fun z => absurd rfl z⟩⟩⟩⟩, fun z => absurd (by decide) z⟩
    · have e : C i = -21 := by rw [← hc]; rfl
      have hd0 : 1 ≤ dp C i := by
        rw [e] at hok
        rcases hok with a | a | a | ⟨-, a⟩ | ⟨-, a⟩ | ⟨-, a⟩ | ⟨a, -⟩
        · exact absurd a (by decide)
        · exact absurd a (by decide)
        · exact absurd a (by decide)
        · exact absurd a (by decide)
        · exact absurd a (by decide)
        · exact a
        · exact absurd a (by decide)
      have hd : dp C (i + 1) = dp C i := by show (if _ then _ else if _ then _ else _) = _; rw [e]; rfl
      have hpl : pl C k hh t (i + 1) = ss (pl C k hh t i) (dp C i - 1) (if pl C k hh t i (dp C i - 1) = 0 then 1 else 0) := by show (if _ then _ else if _ then _ else _) = _; rw [e]; rfl
      have em : nI (dp C i) - 1 = nI (dp C i - 1) := pk_sub (a := dp C i) (b := 1) hd0
      have top : ∀ v : Int32, (if pl C k hh t i (dp C i - 1) = 0 then 1 else 0) = v → wp_X4_value_L6 q k hh t Q nn (nI (dp C i)) (nI i + 1) (hp_si h (q + 2) (nI (dp C i) - 1).toNatClampNeg v) := by
        intro v hv
        have := ih (i + 1) nn (hp_si h (q + 2) (dp C i - 1) v) (by omega) (by omega) (hf.si rfl) (by
          intro j hj
          rw [hd] at hj
          rw [hpl, hv, hp_i_si]
          by_cases e : j = dp C i - 1
          · rw [if_pos ⟨rfl, e⟩, e, ss_i]
          · rw [if_neg (fun z => e z.2), ss_n e]
            exact hp j (by omega))
        rw [hd] at this
        rw [em, nI_clamp (n := dp C i - 1) (by omega), hi1]
        exact this
      have hv := hp (dp C i - 1) (by omega)
      have vin : vp_in (nI (dp C i) - 1) (hp_l h (q + 2)) := by rw [em, l2']; exact vp_in_nI (by omega) (by omega)
      refine ⟨fun _ => ⟨fun z => absurd z (by decide), fun _ => ⟨fun z => absurd z (by decide), fun _ => ⟨fun z => absurd z (by decide), fun _ => ⟨fun z => absurd z (by decide), fun _ => ⟨fun _ => ⟨fun z => absurd z (nI_nle (by omega) (by omega)), fun _ => ⟨hq0, q + 2, r1', hq0, q + 2, r1', k2, hq2, vin, ?_⟩⟩, fun z => absurd rfl z⟩⟩⟩⟩⟩, fun z => absurd (by decide) z⟩
      refine ⟨fun z => ⟨k2, hq2, vin, ?_⟩, fun z => ⟨k2, hq2, vin, ?_⟩⟩
      · rintro h1 rfl
        exact top 1 (by rw [em, nI_clamp (n := dp C i - 1) (by omega), hv] at z; exact if_pos z)
      · rintro h1 rfl
        exact top 0 (by rw [em, nI_clamp (n := dp C i - 1) (by omega), hv] at z; exact if_neg z)
    · have hy : (C i = -11 ∨ C i = -12 ∨ C i = -13 ∨ C i = -14 ∨ C i = -15 ∨ C i = -16 ∨ C i = -17 ∨ C i = -18 ∨ C i = -19 ∨ C i = -20) ∧ x < 0 ∧ x ≠ -107 ∧ x ≠ -104 ∧ x ≠ -109 ∧ x ≠ -100 ∧ x ≠ -33 := by
        rw [← hc]
        rcases hx with rfl | rfl | rfl | rfl | rfl | rfl | rfl | rfl | rfl | rfl <;> decide
      obtain ⟨hy, g0, g1, g2, g3, g4, g5⟩ := hy
      have hd0 : 2 ≤ dp C i := by
        rcases hok with a | a | a | ⟨-, a⟩ | ⟨-, a⟩ | ⟨a, -⟩ | ⟨-, a⟩
        · exfalso; rcases hy with e | e | e | e | e | e | e | e | e | e <;> rw [e] at a <;> exact absurd a (by decide)
        · exfalso; rw [a] at hy; exact absurd hy (by decide)
        · exfalso; rw [a] at hy; exact absurd hy (by decide)
        · exfalso; rw [a] at hy; exact absurd hy (by decide)
        · exfalso; rw [a] at hy; exact absurd hy (by decide)
        · exfalso; rw [a] at hy; exact absurd hy (by decide)
        · exact a
      have hle : ¬ -10 < C i := by rcases hy with e | e | e | e | e | e | e | e | e | e <;> rw [e] <;> decide
      have hne : ¬ C i = -21 := by rcases hy with e | e | e | e | e | e | e | e | e | e <;> rw [e] <;> decide
      have hd : dp C (i + 1) = dp C i - 1 := by show (if _ then _ else if _ then _ else _) = _; rw [if_neg hle, if_neg hne]
      have hpl : pl C k hh t (i + 1) = ss (pl C k hh t i) (dp C i - 2) (by_s (C i) (pl C k hh t i (dp C i - 2)) (pl C k hh t i (dp C i - 1))) := by show (if _ then _ else if _ then _ else _) = _; rw [if_neg hle, if_neg hne]
      have em : nI (dp C i) + -1 = nI (dp C i - 1) := by
        have := pk_m1 (dp C i - 1)
        rw [show dp C i - 1 + 1 = dp C i by omega] at this
        exact this
      have em2 : nI (dp C i - 1) - 1 = nI (dp C i - 2) := pk_sub (a := dp C i - 1) (b := 1) (by omega)
      have hv1 := hp (dp C i - 1) (by omega)
      have hv2 := hp (dp C i - 2) (by omega)
      have vin1 : vp_in (nI (dp C i - 1)) (hp_l h (q + 2)) := by rw [l2']; exact vp_in_nI (by omega) (by omega)
      have vin2 : vp_in (nI (dp C i - 2)) (hp_l h (q + 2)) := by rw [l2']; exact vp_in_nI (by omega) (by omega)
      rw [em, em2, nI_clamp (n := dp C i - 1) (by omega), nI_clamp (n := dp C i - 2) (by omega)]
      have two : ¬ nI (dp C i) ≤ 1 := nI_ge (a := 1) (by omega) (by omega)
      refine ⟨fun _ => ⟨fun z => absurd z g1, fun _ => ⟨fun z => absurd z g2, fun _ => ⟨fun z => absurd z g3, fun _ => ⟨fun z => absurd z g4, fun _ => ⟨fun z => absurd z g5, fun _ => ⟨fun z => absurd z two, fun _ => ⟨hq0, q + 2, r1', hq0, q + 2, r1', k2, hq2, vin2, hq0, q + 2, r1', k2, hq2, vin1, ?_⟩⟩⟩⟩⟩⟩⟩, fun z => absurd g0 z⟩
      rw [hv1, hv2]
      refine w_joined hx ?_
      refine ⟨k2, hq2, vin2, ?_⟩
      rintro h1 rfl
      have := ih (i + 1) nn (hp_si h (q + 2) (dp C i - 2) (by_s (C i) (pl C k hh t i (dp C i - 2)) (pl C k hh t i (dp C i - 1)))) (by omega) (by omega) (hf.si rfl) (by
        intro j hj
        rw [hd] at hj
        rw [hpl, hp_i_si]
        by_cases e : j = dp C i - 2
        · rw [if_pos ⟨rfl, e⟩, e, ss_i]
        · rw [if_neg (fun z => e z.2), ss_n e]
          exact hp j (by omega))
      rw [hd] at this
      rw [hc, hi1]
      exact this
abbrev PK : Nat → Nat → Prop := fun a _ => ab_k a = 17
/-- the ship's texts agree -/
def RX (h : hp_T) (p : Nat) (S : st_T) : Prop := ∀ u, u < 2 → (hp_r h (p + 6) u = none ∧ S (9 + u) = 0) ∨ ∃ q n, hp_r h (p + 6) u = some q ∧ ab_k q = 4 ∧ q + 2 < hp_n h ∧ hp_r h q 0 = some (q + 1) ∧ hp_r h q 1 = some (q + 2) ∧ ab_k (q + 1) = 16 ∧ ab_k (q + 2) = 17 ∧ hp_l h (q + 1) = n ∧ hp_l h (q + 2) = n ∧ 0 < n ∧ n ≤ 60 ∧ S (9 + u) = nI n ∧ ∀ i, i < n → okx (hp_i h (q + 1) i) ∧ tr (hp_i h (q + 1) i) = cd S u i
theorem w_value {h : hp_T} {S : st_T} {u q n : Nat} (hu : u < 2) {k hh t : Int32} (hX : VX S u) (kq : q + 2 < hp_n h) (r0 : hp_r h q 0 = some (q + 1)) (r1 : hp_r h q 1 = some (q + 2)) (k1 : ab_k (q + 1) = 16) (k2 : ab_k (q + 2) = 17) (l1 : hp_l h (q + 1) = n) (l2 : hp_l h (q + 2) = n) (hn : 0 < n) (hn60 : n ≤ 60) (eS : S (9 + u) = nI n) (hC : ∀ i, i < n → okx (hp_i h (q + 1) i) ∧ tr (hp_i h (q + 1) i) = cd S u i) {Q : Int32 → hp_T → Prop} (hQ : ∀ h1, fr PK h h1 → Q (ev S u k hh t) h1) : wp_X4_value q k hh t h Q := by
  rcases hX with e | ⟨n', a1, a2, a3, a4⟩
  · rw [eS] at e; exact absurd e (nI_ne0 hn (by omega))
  · have : n = n' := by rw [eS, nI_eq (by omega) (by omega)] at a3; exact a3
    subst this
    refine ⟨n + 1, w_value_L hn60 hn a4 kq r0 r1 k1 k2 l1 l2 hC (fun h1 f => ?_) n 0 (n + 1) h (by omega) (by omega) fr.refl (fun j hj => absurd hj (Nat.not_lt_zero j))⟩
    have e : cn S u = n := by show (S (9 + u)).toNatClampNeg = n; rw [eS, nI_clamp (by omega)]
    have := hQ h1 (f.mono fun a j z => by rw [z]; exact k2)
    unfold ev at this
    rw [e] at this
    exact this
