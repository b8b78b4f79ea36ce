/-! ===== PURE: the class: a man comes, the relief ===== -/
theorem lp_snoc {α : Type} {f : Nat → α → α} : ∀ (n i : Nat) (a : α), lp f i (n + 1) a = f (i + n) (lp f i n a) := by
  intro n
  induction n with
  | zero => intro i a; rfl
  | succ n ih =>
    intro i a
    have e := ih (i + 1) (f i a)
    rw [show i + 1 + n = i + (n + 1) by omega] at e
    exact e
abbrev FB (a : Nat) : Nat → Nat → Prop := fun x _ => x = a ∨ x = a + 1 ∨ x = a + 2
def fgF (k : Nat) (x : Int32) : Int32 := x &&& (((1 : Int32) <<< (nI k &&& 31)) ^^^ (-1 : Int32))
def lrF (b : Int32) (k : Nat) (x : Int32) : Int32 := if kb b (nI k) = true then x ||| ((1 : Int32) <<< (nI k &&& 31)) else x
theorem fg_all : (List.range 64).all (fun c => decide (lp fgF 0 6 (nI c) = 0)) = true := by decide +kernel
theorem lr_all : (List.range 64).all (fun c => (List.range 64).all fun d => decide (lp (lrF (nI d)) 0 6 (lp (lrF (nI c)) 0 6 0) = (nI d ||| nI c))) = true := by decide +kernel
theorem fg_0 {x : Int32} (hx : rg x 0 63) : lp fgF 0 6 x = 0 := by
  obtain ⟨c, hc, rfl⟩ := rg_nI 63 hx rfl (by decide)
  exact of_decide_eq_true (List.all_eq_true.mp fg_all c (List.mem_range.mpr (by omega)))
theorem lr_2 {x y : Int32} (hx : rg x 0 63) (hy : rg y 0 63) : lp (lrF y) 0 6 (lp (lrF x) 0 6 0) = (y ||| x) := by
  obtain ⟨c, hc, rfl⟩ := rg_nI 63 hx rfl (by decide)
  obtain ⟨d, hd, rfl⟩ := rg_nI 63 hy rfl (by decide)
  exact of_decide_eq_true (List.all_eq_true.mp (List.all_eq_true.mp lr_all c (List.mem_range.mpr (by omega))) d (List.mem_range.mpr (by omega)))
theorem w_settle_L {a : Nat} {x1 x2 : Int32} {Q : hp_T → Prop} : ∀ (r i nn : Nat) (h : hp_T), i + r = 6 → r < nn → (∀ h1, fr (FB a) h h1 → hp_i h1 a 3 = lp fgF i r (hp_i h a 3) → (∀ j, j ≠ 3 → hp_i h1 a j = hp_i h a j) → (∀ k, hp_i h1 (a + 1) k = if i ≤ k ∧ k < 6 then 0 else hp_i h (a + 1) k) → (∀ k, hp_i h1 (a + 2) k = if i ≤ k ∧ k < 6 then 0 else hp_i h (a + 2) k) → Q h1) → wp_X0_settle_L23 a x1 x2 Q nn (nI i) h := by
  intro r
  induction r with
  | zero =>
    intro i nn h hi hn hq
    obtain ⟨nn, rfl⟩ : ∃ m, nn = m + 1 := ⟨nn - 1, by omega⟩
    unfold wp_X0_settle_L23
    have : i = 6 := by omega
    subst this
    exact ⟨fun _ => hq h fr.refl rfl (fun _ _ => rfl) (fun k => (if_neg (by omega)).symm) (fun k => (if_neg (by omega)).symm), fun z => absurd (by decide) z⟩
  | succ r ih =>
    intro i nn h hi hn hq
    obtain ⟨nn, rfl⟩ : ∃ m, nn = m + 1 := ⟨nn - 1, by omega⟩
    unfold wp_X0_settle_L23
    refine ⟨fun z => absurd z (nI_ge (b := 6) (by omega) (by decide)), fun _ => ?_⟩
    unfold wp_X0_forget
    rintro h1 rfl
    refine ⟨vp_in_nI (by omega) (by decide), ?_⟩
    rintro h2 rfl
    refine ⟨vp_in_nI (by omega) (by decide), ?_⟩
    rintro h3 rfl
    rw [nI_clamp (n := i) (by omega), show nI i + 1 = nI (i + 1) from nI_1 i]
    refine ih (i + 1) nn _ (by omega) (by omega) ?_
    intro h4 f4 e3 ej ev el
    refine hq h4 ((((fr_si (P := FB a) (Or.inl rfl)).si (Or.inr (Or.inl rfl))).si (Or.inr (Or.inr rfl))).trans f4) ?_ ?_ ?_ ?_
    · rw [e3]
      show lp fgF (i + 1) r _ = lp fgF (i + 1) r (fgF i (hp_i h a 3))
      rw [hp_i_si, if_neg (by omega), hp_i_si, if_neg (by omega), hp_i_si, if_pos ⟨rfl, rfl⟩]
      rfl
    · intro j hj
      rw [ej j hj, hp_i_si, if_neg (by omega), hp_i_si, if_neg (by omega), hp_i_si, if_neg (by omega)]
    · intro k
      rw [ev k, hp_i_si, if_neg (show ¬ (a + 1 = a + 2 ∧ k = i) by omega), hp_i_si]
      by_cases e : k = i
      · subst e
        rw [if_neg (show ¬ (k + 1 ≤ k ∧ k < 6) by omega), if_pos ⟨rfl, rfl⟩, if_pos (show k ≤ k ∧ k < 6 by omega)]
      · rw [if_neg (show ¬ (a + 1 = a + 1 ∧ k = i) by omega), hp_i_si, if_neg (show ¬ (a + 1 = a ∧ k = 3) by omega)]
        by_cases e2 : i + 1 ≤ k ∧ k < 6
        · rw [if_pos e2, if_pos (show i ≤ k ∧ k < 6 by omega)]
        · rw [if_neg e2, if_neg (show ¬ (i ≤ k ∧ k < 6) by omega)]
    · intro k
      rw [el k, hp_i_si]
      by_cases e : k = i
      · subst e
        rw [if_neg (show ¬ (k + 1 ≤ k ∧ k < 6) by omega), if_pos ⟨rfl, rfl⟩, if_pos (show k ≤ k ∧ k < 6 by omega)]
      · rw [if_neg (show ¬ (a + 2 = a + 2 ∧ k = i) by omega), hp_i_si, if_neg (show ¬ (a + 2 = a + 1 ∧ k = i) by omega), hp_i_si, if_neg (show ¬ (a + 2 = a ∧ k = 3) by omega)]
        by_cases e2 : i + 1 ≤ k ∧ k < 6
        · rw [if_pos e2, if_pos (show i ≤ k ∧ k < 6 by omega)]
        · rw [if_neg e2, if_neg (show ¬ (i ≤ k ∧ k < 6) by omega)]
/-- he KNOWS nothing -/
theorem w_settle {a : Nat} {x1 x2 : Int32} {h : hp_T} {Q : hp_T → Prop} (hk : rg (hp_i h a 3) 0 63) (hq : ∀ h1, fr (FB a) h h1 → hp_i h1 a 0 = x1 / 10 → hp_i h1 a 1 = x1 - x1 / 10 * 10 → hp_i h1 a 2 = x2 → hp_i h1 a 3 = 0 → hp_i h1 a 4 = hp_i h a 4 → (∀ k, k < 6 → hp_i h1 (a + 1) k = 0) → (∀ k, k < 6 → hp_i h1 (a + 2) k = 0) → Q h1) : wp_X0_settle a x1 x2 h Q := by
  unfold wp_X0_settle
  rintro h1 rfl
  rintro h2 rfl
  rintro h3 rfl
  refine ⟨7, w_settle_L 6 0 7 _ rfl (by decide) ?_⟩
  intro h4 f4 e3 ej ev el
  refine hq h4 ((((fr_si (P := FB a) (Or.inl rfl)).si (Or.inl rfl)).si (Or.inl rfl)).trans f4) ?_ ?_ ?_ ?_ ?_ ?_ ?_
  · rw [ej 0 (by decide), hp_i_si, if_neg (by omega), hp_i_si, if_neg (by omega), hp_i_si, if_pos ⟨rfl, rfl⟩]
  · rw [ej 1 (by decide), hp_i_si, if_neg (by omega), hp_i_si, if_pos ⟨rfl, rfl⟩]
  · rw [ej 2 (by decide), hp_i_si, if_pos ⟨rfl, rfl⟩]
  · rw [e3, hp_i_si, if_neg (by omega), hp_i_si, if_neg (by omega), hp_i_si, if_neg (by omega)]
    exact fg_0 hk
  · rw [ej 4 (by decide), hp_i_si, if_neg (by omega), hp_i_si, if_neg (by omega), hp_i_si, if_neg (by omega)]
  · intro k hk; rw [ev k, if_pos ⟨Nat.zero_le k, hk⟩]
  · intro k hk; rw [el k, if_pos ⟨Nat.zero_le k, hk⟩]
theorem w_learnAll_L {a : Nat} {x1 v : Int32} {Q : hp_T → Prop} : ∀ (r i nn : Nat) (h : hp_T), i + r = 6 → r < nn → (∀ h1, fr (FB a) h h1 → hp_i h1 a 3 = lp (lrF x1) i r (hp_i h a 3) → (∀ j, j ≠ 3 → hp_i h1 a j = hp_i h a j) → (∀ k, k < 6 → hp_i h1 (a + 1) k = if i ≤ k ∧ kb x1 (nI k) = true then v else hp_i h (a + 1) k) → (∀ k, hp_i h1 (a + 2) k = hp_i h (a + 2) k) → Q h1) → wp_X0_learnAll_L2 a x1 v Q nn (nI i) h := by
  intro r
  induction r with
  | zero =>
    intro i nn h hi hn hq
    obtain ⟨nn, rfl⟩ : ∃ m, nn = m + 1 := ⟨nn - 1, by omega⟩
    unfold wp_X0_learnAll_L2
    have : i = 6 := by omega
    subst this
    exact ⟨fun _ => hq h fr.refl rfl (fun _ _ => rfl) (fun k hk => (if_neg (by omega)).symm) (fun _ => rfl), fun z => absurd (by decide) z⟩
  | succ r ih =>
    intro i nn h hi hn hq
    obtain ⟨nn, rfl⟩ : ∃ m, nn = m + 1 := ⟨nn - 1, by omega⟩
    unfold wp_X0_learnAll_L2
    rw [show nI i + 1 = nI (i + 1) from nI_1 i, kb_0]
    refine ⟨fun z => absurd z (nI_ge (b := 6) (by omega) (by decide)), fun _ => ⟨fun z => ?_, fun z => ?_⟩⟩
    · refine ih (i + 1) nn h (by omega) (by omega) ?_
      intro h4 f4 e3 ej ev el
      refine hq h4 f4 ?_ ej ?_ el
      · rw [e3]
        show lp (lrF x1) (i + 1) r _ = lp (lrF x1) (i + 1) r (lrF x1 i (hp_i h a 3))
        unfold lrF
        rw [z, if_neg (by decide)]
      · intro k hk
        rw [ev k hk]
        by_cases e : k = i
        · subst e; rw [if_neg (fun q => absurd q.1 (by omega)), if_neg (fun q => by rw [z] at q; exact absurd q.2 (by decide))]
        · by_cases e2 : i + 1 ≤ k ∧ kb x1 (nI k) = true
          · rw [if_pos e2, if_pos ⟨by omega, e2.2⟩]
          · rw [if_neg e2, if_neg (fun q => e2 ⟨by omega, q.2⟩)]
    · have z : kb x1 (nI i) = true := by simpa using z
      unfold wp_X0_learn
      rintro h1 rfl
      refine ⟨vp_in_nI (by omega) (by decide), ?_⟩
      rintro h2 rfl
      rw [nI_clamp (n := i) (by omega)]
      refine ih (i + 1) nn _ (by omega) (by omega) ?_
      intro h4 f4 e3 ej ev el
      refine hq h4 (((fr_si (P := FB a) (Or.inl rfl)).si (Or.inr (Or.inl rfl))).trans f4) ?_ ?_ ?_ ?_
      · rw [e3]
        show lp (lrF x1) (i + 1) r _ = lp (lrF x1) (i + 1) r (lrF x1 i (hp_i h a 3))
        rw [hp_i_si, if_neg (by omega), hp_i_si, if_pos ⟨rfl, rfl⟩]
        unfold lrF
        rw [if_pos z]
      · intro j hj
        rw [ej j hj, hp_i_si, if_neg (by omega), hp_i_si, if_neg (by omega)]
      · intro k hk
        rw [ev k hk, hp_i_si]
        by_cases e : k = i
        · subst e
          rw [if_neg (fun q => absurd q.1 (by omega)), if_pos ⟨rfl, rfl⟩, if_pos ⟨Nat.le_refl k, z⟩]
        · rw [if_neg (show ¬ (a + 1 = a + 1 ∧ k = i) from fun q => e q.2), hp_i_si, if_neg (show ¬ (a + 1 = a ∧ k = 3) by omega)]
          by_cases e2 : i + 1 ≤ k ∧ kb x1 (nI k) = true
          · rw [if_pos e2, if_pos ⟨by omega, e2.2⟩]
          · rw [if_neg e2, if_neg (fun q => e2 ⟨by omega, q.2⟩)]
      · intro k
        rw [el k, hp_i_si, if_neg (by omega), hp_i_si, if_neg (by omega)]
theorem w_learnAll {a : Nat} {x1 v : Int32} {h : hp_T} {Q : hp_T → Prop} (hq : ∀ h1, fr (FB a) h h1 → hp_i h1 a 3 = lp (lrF x1) 0 6 (hp_i h a 3) → (∀ j, j ≠ 3 → hp_i h1 a j = hp_i h a j) → (∀ k, k < 6 → hp_i h1 (a + 1) k = if kb x1 (nI k) = true then v else hp_i h (a + 1) k) → (∀ k, hp_i h1 (a + 2) k = hp_i h (a + 2) k) → Q h1) : wp_X0_learnAll a x1 v h Q :=
  ⟨7, w_learnAll_L 6 0 7 h rfl (by decide) fun h1 f a1 a2 a3 a4 => hq h1 f a1 a2 (fun k hk => by rw [a3 k hk]; simp) a4⟩
/-- all but one bunk, and the bunk -/
theorem RI_split {h : hp_T} {p b : Nat} {T : st_T} (hb : b < 6) (hx : ∀ i k j, Lc i k j → Lv T i → (i < 11 + 17 * b ∨ 28 + 17 * b ≤ i) → hp_i h (p + k) j = T i) (h5 : ∀ w, w < 5 → hp_i h (p + 8 + 3 * b) w = T (11 + 17 * b + w)) (hv : ∀ k, k < 6 → hp_i h (p + 8 + 3 * b + 1) k = T (11 + 17 * b + 5 + k)) (hl : ∀ k, k < 6 → hp_i h (p + 8 + 3 * b + 2) k = T (11 + 17 * b + 11 + k)) : RI h p T := by
  intro i k j hL hV
  rcases Nat.lt_or_ge i (11 + 17 * b) with h1 | h1
  · exact hx i k j hL hV (Or.inl h1)
  rcases Nat.lt_or_ge i (28 + 17 * b) with h2 | h2
  · rcases hL with ⟨rfl, z⟩ | ⟨b', w, hb', hw, rfl, rfl, rfl⟩ | ⟨b', w, hb', hw, rfl, rfl, rfl⟩ | ⟨b', w, hb', hw, rfl, rfl, rfl⟩ | ⟨r, hr, rfl, rfl, rfl⟩ | ⟨r, hr, rfl, rfl, rfl⟩ | ⟨t, w, ht, hw, rfl, rfl, rfl⟩ | ⟨q, hq, rfl, rfl, rfl⟩
    · omega
    · obtain rfl : b' = b := by omega
      rw [← h5 j hw]
      congr 1; omega
    · obtain rfl : b' = b := by omega
      rw [show p + (9 + 3 * b') = p + 8 + 3 * b' + 1 by omega, hv j hw]
      congr 1; omega
    · obtain rfl : b' = b := by omega
      rw [show p + (10 + 3 * b') = p + 8 + 3 * b' + 2 by omega, hl j hw]
      congr 1; omega
    · omega
    · omega
    · omega
    · omega
  · exact hx i k j hL hV (Or.inr h2)
/-- the others stay when a bunk's cells are written -/
theorem Lc_b {i k j b : Nat} (h : Lc i k j) (hb : b < 6) (hi : i < 11 + 17 * b ∨ 28 + 17 * b ≤ i) : k ≠ 8 + 3 * b ∧ k ≠ 9 + 3 * b ∧ k ≠ 10 + 3 * b := by
  rcases h with ⟨rfl, z⟩ | ⟨b', w, hb', hw, rfl, rfl, rfl⟩ | ⟨b', w, hb', hw, rfl, rfl, rfl⟩ | ⟨b', w, hb', hw, rfl, rfl, rfl⟩ | ⟨r, hr, rfl, rfl, rfl⟩ | ⟨r, hr, rfl, rfl, rfl⟩ | ⟨t, w, ht, hw, rfl, rfl, rfl⟩ | ⟨q, hq, rfl, rfl, rfl⟩ <;> omega
theorem w_stays {h : hp_T} {p : Nat} {S : st_T} {b : Nat} {Q : Int32 → Prop} (hR : RI h p S) (hb : b < cr S) (h6 : b < 6) (hm : rg (S (11 + 17 * b + 1)) 0 9) (h1 : ry S b → Q 1) (h0 : ¬ ry S b → Q 0) : wp_X0_stays (p + 8 + 3 * b) (S 3) h Q := by
  unfold wp_X0_stays
  rw [hR.bk0 hb h6, hR.bk 1 hb h6 (by decide)]
  refine ⟨fun e => ⟨?_, fun z => h1 ⟨e, z⟩, fun z => h0 (fun w => z w.2)⟩, fun e => h0 (fun w => e w.1)⟩
  have h2 := hm.1
  have h3 := hm.2
  rw [i_eq, i_add (by have : (2 : Int32).toInt = 2 := rfl; omega) (by have : (2 : Int32).toInt = 2 := rfl; omega)]
  have e2 : (2 : Int32).toInt = 2 := rfl
  have e0 : (0 : Int32).toInt = 0 := rfl
  omega
theorem FB_PS {p b c : Nat} (hb : b < c) {a : Nat} (h : FB (p + 8 + 3 * b) a 0) : PS p c a 0 := by
  refine Or.inl ?_
  rcases h with h | h | h <;> omega
theorem cr_eq {S T : st_T} (e : T 0 = S 0) : cr T = cr S := by unfold cr; rw [e]
theorem w_relieve {h : hp_T} {p : Nat} {S : st_T} {D : Int} {Q : Int32 → hp_T → Prop} (hp : p ≤ 61) (hV : Vl D S) (hR : Rl h p S) (hQ : ∀ h1, fr (PS p (cr S)) h h1 → Rl h1 p (rl S).1 → Q (rl S).2 h1) : wp_X2_relieve p h Q := by
  obtain ⟨R, RTt, RXx⟩ := hR
  unfold wp_X2_relieve
  rw [R.crew, R.enl, R.day]
  have no : (S 0 ≤ 0 ∨ S 1 ≤ 0 ∨ ry S (rb S)) → Q 0 h := by
    intro z
    have e : rl S = (S, 0) := by unfold rl; rw [if_pos z]
    have := hQ h fr.refl
    rw [e] at this
    exact this ⟨R, RTt, RXx⟩
  refine ⟨fun z => no (Or.inl (by rw [z]; decide)), fun z0 => ⟨fun z => no (Or.inr (Or.inl (by rw [z]; decide))), fun z1 => ⟨z0, ?_⟩⟩⟩
  have e0 : (0 : Int32).toInt = 0 := rfl
  have z0' : ¬ S 0 ≤ 0 := by
    rw [i_le]; rw [i_eq] at z0
    have := hV.1.1
    omega
  have z1' : ¬ S 1 ≤ 0 := by
    rw [i_le]; rw [i_eq] at z1
    have := hV.2.1.1
    omega
  obtain ⟨p0, p1, p2⟩ := rl_pos hV z0'
  obtain ⟨b1, b2⟩ := rb_nI hV.1 p0 hV.2.2.2.1
  obtain ⟨v1, v2, v3⟩ := vp_nI hV.1 b2
  obtain ⟨q0, q1, q2⟩ := pos_nI hV.2.1 (n := 12) rfl (by decide) z1'
  rw [b1]
  refine ⟨v1, ?_⟩
  rw [v2]
  refine w_stays R b2 v3 (hV.2.2.2.2.2.2.2.1 _ b2).2.1 (fun y => ?_) (fun y => ?_)
  · exact ⟨fun z => absurd z (by decide), fun _ => no (Or.inr (Or.inr y))⟩
  have e : rl S = (rl1 S, 1) := by
    unfold rl
    rw [if_neg (fun z => by rcases z with z | z | z; exact z0' z; exact z1' z; exact y z)]
  rw [e] at hQ
  refine ⟨fun _ => ?_, fun z => absurd rfl z⟩
  obtain ⟨n, hn, e2⟩ := rg_nI 11 hV.2.2.1.1 rfl (by decide)
  have hne : n < en S := by
    have := hV.2.2.1.2
    rw [e2, i_nI (by omega)] at this
    have h1 : (S 1).toInt = (en S : Int) := by
      conv => lhs; rw [q1]
      rw [i_nI (by omega)]
    rw [h1] at this
    have h0 : 0 < en S := q0
    omega
  obtain ⟨r1, r2⟩ := hV.2.2.2.2.2.2.2.2.1 n hne
  have s2 : (S 2).toNatClampNeg = n := by rw [e2, nI_clamp (by omega)]
  have vn : vp_in (S 2) 12 := by rw [e2]; exact vp_in_nI (by omega) (by decide)
  rw [R.next, s2, R.km hne (by omega)]
  refine ⟨vn, ?_⟩
  generalize hbq : rb S = b at *
  have hB := hV.2.2.2.2.2.2.2.1 b b2
  refine w_settle (by rw [R.bk 3 b2 v3 (by decide)]; exact hB.2.2.1) ?_
  intro h1 f1 s0 s1 s22 s3 s4 sv sl
  rw [f1.2 p 6 (by omega), R.book]
  refine w_learnAll ?_
  intro h2 f2 t3 tj tv tl'
  have f12 := f1.trans f2
  rw [f12.2 p 5 (by omega), R.next]
  refine ⟨vn, ?_⟩
  rw [s2, f12.2 (p + 3) n (by omega), R.br hne (by omega)]
  refine w_learnAll ?_
  intro h3 f3 u3 uj uv ul
  have f13 := f12.trans f3
  rw [f13.2 p 4 (by omega), f13.2 p 5 (by omega), R.enl, R.next]
  refine ⟨z1, ?_⟩
  rintro h4 rfl
  have F : fr (PS p (cr S)) h (hp_si h3 p 5 ((S 2 + 1) - (S 2 + 1) / S 1 * S 1)) := (f13.mono fun a _ z => FB_PS b2 z).si (Or.inl ⟨by omega, by omega, by omega⟩)
  have hcm : RI h3 p (cm S b (S (113 + 2 * n)) (S (114 + 2 * n)) (S 4) (S 3)) := by
    refine RI_split v3 ?_ ?_ ?_ ?_
    · intro i k j hL hLv hi
      obtain ⟨a1, a2, a3⟩ := Lc_b hL v3 hi
      rw [f13.2 (p + k) j (by omega), cm_out (by omega)]
      refine R i k j hL ?_
      rw [Lv_eq (S := S) (cm_out (by omega)) (cm_out (by omega)) (cm_out (by omega))] at hLv
      exact hLv
    · intro w hw
      rcases (show w = 0 ∨ w = 1 ∨ w = 2 ∨ w = 3 ∨ w = 4 by omega) with rfl | rfl | rfl | rfl | rfl
      · rw [uj 0 (by decide), tj 0 (by decide), s0]; exact cm_0.symm
      · rw [uj 1 (by decide), tj 1 (by decide), s1, cm_1]
      · rw [uj 2 (by decide), tj 2 (by decide), s22, cm_2]
      · rw [u3, t3, s3, lr_2 hV.2.2.2.2.1 r2, cm_3]
      · rw [uj 4 (by decide), tj 4 (by decide), s4, cm_out (by omega), R.bk 4 b2 v3 (by decide)]
    · intro k hk
      rw [uv k hk, tv k hk, sv k hk, cm_v hk]
      by_cases g : kb (S (114 + 2 * n)) (nI k) = true
      · rw [if_pos g, if_pos g]
      · rw [if_neg g, if_neg g]
        split <;> rfl
    · intro k hk
      rw [ul k, tl' k, sl k hk, cm_l hk]
  have erl : rl1 S = ss (cm S b (S (113 + 2 * n)) (S (114 + 2 * n)) (S 4) (S 3)) 2 ((S 2 + 1) - (S 2 + 1) / S 1 * S 1) := by
    unfold rl1
    rw [hbq, s2]
  have out : ∀ j, (j < 11 ∨ 113 ≤ j) → j ≠ 2 → rl1 S j = S j := fun j hj h2 => rl1_out hj h2 (by rw [hbq]; exact v3)
  refine hQ _ F ⟨?_, ?_, ?_⟩
  · rw [erl]
    exact hcm.w0 2 5 (Or.inl ⟨rfl, by omega⟩) (by decide)
  · intro j hj
    have hj : j < (rl1 S 7).toNatClampNeg := hj
    show _ = (rl1 S (153 + j)).toInt8.toInt32
    rw [out 7 (by omega) (by decide)] at hj
    rw [F.2 (p + 5) j (by
      intro z
      rcases z with z | z | z
      · omega
      · omega
      · have := k17 z; omega), out (153 + j) (by omega) (by omega)]
    exact RTt j hj
  · exact RXx.fr F (fun a _ z => PS16 hp p2 z) (fun u hu => out _ (by omega) (by omega)) (fun j hj => out j (by omega) (by omega))
