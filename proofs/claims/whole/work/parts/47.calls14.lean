/-! ===== PURE: the calls: storm ===== -/
def cnt (S : st_T) (k : Int32) : Nat → Nat → Nat
  | _, 0 => 0
  | i, n + 1 => (if kn S i k = true then 1 else 0) + cnt S k (i + 1) n
theorem lp_cnt {S : st_T} {k : Int32} : ∀ (n i a : Nat), lp (fun b a => a + (if kn S b k = true then 1 else 0)) i n (nI a) = nI (a + cnt S k i n) := by
  intro n
  induction n with
  | zero => intro i a; rfl
  | succ n ih =>
    intro i a
    show lp (fun b a => a + (if kn S b k = true then 1 else 0)) (i + 1) n (nI a + (if kn S i k = true then 1 else 0)) = nI (a + ((if kn S i k = true then 1 else 0) + cnt S k (i + 1) n))
    cases kn S i k with
    | true =>
      rw [if_pos rfl, if_pos rfl, show nI a + 1 = nI (a + 1) from nI_1 a, ih]
      congr 1; omega
    | false =>
      rw [if_neg (by decide), if_neg (by decide), Int32.add_zero, ih]
      congr 1; omega
theorem cnt_one {S : st_T} {k : Int32} {b : Nat} : ∀ (n i : Nat), i ≤ b → b < i + n → (if kn S b k = true then 1 else 0) ≤ cnt S k i n := by
  intro n
  induction n with
  | zero => intro i h1 h2; omega
  | succ n ih =>
    intro i h1 h2
    unfold cnt
    by_cases g : i = b
    · subst g; omega
    · have := ih (i + 1) (by omega) (by omega)
      omega
theorem cnt_two {S : st_T} {k : Int32} {b c : Nat} (hbc : b < c) : ∀ (n i : Nat), i ≤ b → c < i + n → (if kn S b k = true then 1 else 0) + (if kn S c k = true then 1 else 0) ≤ cnt S k i n := by
  intro n
  induction n with
  | zero => intro i h1 h2; omega
  | succ n ih =>
    intro i h1 h2
    unfold cnt
    by_cases g : i = b
    · subst g
      have := cnt_one (S := S) (k := k) (b := c) n (i + 1) (by omega) (by omega)
      omega
    · have := ih (i + 1) (by omega) (by omega)
      omega
theorem cnt_le {S : st_T} {k : Int32} : ∀ (n i : Nat), cnt S k i n ≤ n := by
  intro n
  induction n with
  | zero => intro i; exact Nat.le_refl 0
  | succ n ih =>
    intro i
    unfold cnt
    have := ih (i + 1)
    split <;> omega
theorem kns_cnt {S : st_T} {k : Int32} : kns S k = nI (cnt S k 0 (cr S)) := by
  have := lp_cnt (S := S) (k := k) (cr S) 0 0
  rw [Nat.zero_add] at this
  exact this
def kz (S : st_T) (b : Nat) (k : Int32) : Nat := if kn S b k = true then 1 else 0
/-- the task t is still done without b and c -/
def spt (S : st_T) (b c t : Nat) : Prop := (S (137 + 4 * t + 1)).toInt ≤ (cnt S (S (137 + 4 * t)) 0 (cr S) : Int) - (kz S b (S (137 + 4 * t)) + kz S c (S (137 + 4 * t)) : Nat)
noncomputable def spA (S : st_T) (b c : Nat) : Nat → Nat → Bool
  | _, 0 => true
  | i, r + 1 => @decide (spt S b c i) (Classical.propDecidable _) && spA S b c (i + 1) r
theorem spt_le {S : st_T} {b c t p : Nat} (hc : cr S ≤ 6) (hp : kz S b (S (137 + 4 * t)) + kz S c (S (137 + 4 * t)) = p) (hp2 : p ≤ 2) : (S (137 + 4 * t + 1) ≤ kns S (S (137 + 4 * t)) - nI p) = spt S b c t := by
  have h1 := cnt_le (S := S) (k := S (137 + 4 * t)) (cr S) 0
  unfold spt
  rw [hp, i_le, kns_cnt, pk_sub_toInt (by omega) (by omega)]
theorem spt_0 {S : st_T} {b c t : Nat} (hbc : b < c) (hc : c < cr S) (h : S (137 + 4 * t + 1) ≤ 0) : spt S b c t := by
  have h1 := cnt_two (S := S) (k := S (137 + 4 * t)) hbc (cr S) 0 (by omega) (by omega)
  unfold spt kz
  rw [i_le] at h
  have e0 : (0 : Int32).toInt = 0 := rfl
  omega
theorem w_canSpare_L {S : st_T} {D : Int} {p b c : Nat} {h : hp_T} {Q : Int32 → Prop} (hV : Vl D S) (R : RI h p S) (hbc : b < c) (hc : c < cr S) : ∀ (r i nn : Nat), i + r = 4 → r < nn → (spA S b c i r = true → Q 1) → (spA S b c i r = false → Q 0) → wp_X2_canSpare_L2 p (nI b) (nI c) h Q nn (nI i) := by
  have c6 := cr6 hV.1
  have vb : vp_in (nI b) 6 := vp_in_nI (by omega) (by decide)
  have vc : vp_in (nI c) 6 := vp_in_nI (by omega) (by decide)
  intro r
  induction r with
  | zero =>
    intro i nn hi hn q1 q0
    obtain ⟨nn, rfl⟩ : ∃ m, nn = m + 1 := ⟨nn - 1, by omega⟩
    unfold wp_X2_canSpare_L2
    have : i = 4 := by omega
    subst this
    exact ⟨fun _ => q1 rfl, fun z => absurd (by decide) z⟩
  | succ r ih =>
    intro i nn hi hn q1 q0
    obtain ⟨nn, rfl⟩ : ∃ m, nn = m + 1 := ⟨nn - 1, by omega⟩
    unfold wp_X2_canSpare_L2
    have vi : vp_in (nI i) 4 := vp_in_nI (by omega) (by decide)
    have hT := hV.2.2.2.2.2.2.2.2.2.1 i (by omega)
    have k5 : 0 ≤ S (137 + 4 * i) ∧ S (137 + 4 * i) ≤ 5 := ⟨by rw [i_le]; exact hT.1.1, by rw [i_le]; exact hT.1.2⟩
    unfold wp_X2_canSpare_b37
    simp only [w_knows, bi_0]
    rw [nI_clamp (n := i) (by omega), nI_clamp (n := b) (by omega), nI_clamp (n := c) (by omega), R.tk0 (by omega), R.tk 1 (by omega) (by decide), R.bk 3 (by omega) (by omega) (by decide), R.bk 3 (b := c) (by omega) (by omega) (by decide), show nI i + 1 = nI (i + 1) from nI_1 i]
    have e : spA S b c i (r + 1) = (@decide (spt S b c i) (Classical.propDecidable _) && spA S b c (i + 1) r) := rfl
    rw [e] at q1 q0
    have yes : spt S b c i → wp_X2_canSpare_L2 p (nI b) (nI c) h Q nn (nI (i + 1)) := by
      intro g
      rw [@decide_eq_true _ (Classical.propDecidable _) g, Bool.true_and] at q1 q0
      exact ih (i + 1) nn (by omega) (by omega) q1 q0
    have no : ¬ spt S b c i → Q 0 := by
      intro g
      rw [@decide_eq_false _ (Classical.propDecidable _) g, Bool.false_and] at q0
      exact q0 rfl
    have fin : ∀ (y : Int32) (n : Nat), y = nI n → n ≤ 2 → kz S b (S (137 + 4 * i)) + kz S c (S (137 + 4 * i)) = n → (vp_in (nI i) 4 ∧ (S (137 + 4 * i + 1) ≤ 0 → wp_X2_canSpare_L2 p (nI b) (nI c) h Q nn (nI (i + 1))) ∧ (¬ S (137 + 4 * i + 1) ≤ 0 → wp_X2_knowers p (S (137 + 4 * i)) h (fun v => vp_in (nI i) 4 ∧ (S (137 + 4 * i + 1) ≤ v - y → wp_X2_canSpare_L2 p (nI b) (nI c) h Q nn (nI (i + 1))) ∧ (¬ S (137 + 4 * i + 1) ≤ v - y → Q 0)))) := by
      intro y n hy hn2 hk
      refine ⟨vi, fun g => yes (spt_0 hbc hc g), fun g => w_knowers hV.1 k5 R ⟨vi, fun g2 => yes ?_, fun g2 => no ?_⟩⟩
      · rw [hy, spt_le c6 hk hn2] at g2; exact g2
      · rw [hy, spt_le c6 hk hn2] at g2; exact g2
    have kzT : ∀ d, kb (S (11 + 17 * d + 3)) (S (137 + 4 * i)) = true → kz S d (S (137 + 4 * i)) = 1 := fun d g => if_pos g
    have kzF : ∀ d, ¬ ((0 ≤ S (137 + 4 * i) ∧ S (137 + 4 * i) ≤ 5) ∧ kb (S (11 + 17 * d + 3)) (S (137 + 4 * i)) = true) → kz S d (S (137 + 4 * i)) = 0 := fun d g => if_neg fun w => g ⟨k5, w⟩
    refine ⟨fun z => absurd z (nI_ge (b := 4) (by omega) (by decide)), fun _ => ⟨vi, vb, fun z => ⟨vc, fun z2 => ?_, fun z2 => ?_⟩, fun z => ⟨vc, fun z2 => ?_, fun z2 => ?_⟩⟩⟩
    · exact fin _ 0 rfl (by decide) (by rw [kzF b z, kzF c z2])
    · exact fin _ 1 rfl (by decide) (by rw [kzF b z, kzT c (Classical.not_not.mp z2).2])
    · exact fin _ 1 rfl (by decide) (by rw [kzT b (Classical.not_not.mp z).2, kzF c z2])
    · exact fin _ 2 rfl (by decide) (by rw [kzT b (Classical.not_not.mp z).2, kzT c (Classical.not_not.mp z2).2])
theorem m_isDW_L {S : st_T} {D : Int} {b c : Nat} {h : hp_T} {Q : Int32 → Prop} (hV : Vl D S) (hS : hp_i h 106 = S) (hbc : b < c) (hc : c < cr S) : ∀ (r i nn : Nat) (f : Int32), i + r = 4 → r < nn → (f = 0 ∨ f = 1) → (f = 1 → spA S b c i r = true → Q 1) → (¬ (f = 1 ∧ spA S b c i r = true) → Q 0) → wp_X8_isDoneWithout_L5 (nI b) (nI c) h Q nn f (nI i) := by
  have c6 := cr6 hV.1
  have vb : vp_in (nI b) 6 := vp_in_nI (by omega) (by decide)
  have vc : vp_in (nI c) 6 := vp_in_nI (by omega) (by decide)
  have bc : (nI b).toNatClampNeg = b := nI_clamp (by omega)
  have cc : (nI c).toNatClampNeg = c := nI_clamp (by omega)
  intro r
  induction r with
  | zero =>
    intro i nn f hi hn hf q1 q0
    obtain ⟨nn, rfl⟩ : ∃ m, nn = m + 1 := ⟨nn - 1, by omega⟩
    unfold wp_X8_isDoneWithout_L5
    have : i = 4 := by omega
    subst this
    refine ⟨fun _ => ⟨hf, ?_⟩, fun z => absurd (by decide) z⟩
    rcases hf with rfl | rfl
    · exact q0 (fun w => absurd w.1 (by decide))
    · exact q1 rfl rfl
  | succ r ih =>
    intro i nn f hi hn hf q1 q0
    obtain ⟨nn, rfl⟩ : ∃ m, nn = m + 1 := ⟨nn - 1, by omega⟩
    unfold wp_X8_isDoneWithout_L5
    have vi : vp_in (nI i) 4 := vp_in_nI (by omega) (by decide)
    have icl : (nI i).toNatClampNeg = i := nI_clamp (by omega)
    unfold wp_X8_isDoneWithout_b41
    simp only [x_isKnowing vb, x_isKnowing vc, x_ofTask 0 vi (show (0 : Int32) = nI 0 from rfl) (by decide), x_ofTask 1 vi (show (1 : Int32) = nI 1 from rfl) (by decide), bi_0, bc, cc, icl, hS, show nI i + 1 = nI (i + 1) from nI_1 i, Nat.add_zero]
    refine ⟨fun z => absurd z (nI_ge (b := 4) (by omega) (by decide)), fun _ => ?_⟩
    refine m_knowers hV.1 hS ?_
    have e : spA S b c i (r + 1) = (@decide (spt S b c i) (Classical.propDecidable _) && spA S b c (i + 1) r) := rfl
    rw [e] at q1 q0
    have yes : f = 1 → spt S b c i → wp_X8_isDoneWithout_L5 (nI b) (nI c) h Q nn 1 (nI (i + 1)) := by
      intro f1 g
      rw [@decide_eq_true _ (Classical.propDecidable _) g, Bool.true_and] at q1 q0
      exact ih (i + 1) nn 1 (by omega) (by omega) (Or.inr rfl) (fun _ w => q1 f1 w) (fun w => q0 (fun y => w ⟨rfl, y.2⟩))
    have no : f = 0 ∨ ¬ spt S b c i → wp_X8_isDoneWithout_L5 (nI b) (nI c) h Q nn 0 (nI (i + 1)) := by
      intro g
      refine ih (i + 1) nn 0 (by omega) (by omega) (Or.inl rfl) (fun w => absurd w (by decide)) (fun _ => q0 (fun y => ?_))
      rcases g with g | g
      · rw [g] at y; exact absurd y.1 (by decide)
      · rw [@decide_eq_false _ (Classical.propDecidable _) g, Bool.false_and] at y; exact absurd y.2 (by decide)
    have fin : ∀ (y : Int32) (n : Nat), kns S (S (137 + 4 * i)) - nI n = y → n ≤ 2 → kz S b (S (137 + 4 * i)) + kz S c (S (137 + 4 * i)) = n → ((f = 0 → wp_X8_isDoneWithout_L5 (nI b) (nI c) h Q nn 0 (nI (i + 1))) ∧ (¬ f = 0 → (y < S (137 + 4 * i + 1) → wp_X8_isDoneWithout_L5 (nI b) (nI c) h Q nn 0 (nI (i + 1))) ∧ (¬ y < S (137 + 4 * i + 1) → wp_X8_isDoneWithout_L5 (nI b) (nI c) h Q nn 1 (nI (i + 1))))) := by
      intro y n hy hn2 hk
      refine ⟨fun g => no (Or.inl g), fun g => ⟨fun g2 => no (Or.inr fun w => ?_), fun g2 => yes (hf.resolve_left g) ?_⟩⟩
      · rw [← spt_le c6 hk hn2, hy] at w
        exact Int32.not_lt.mpr w g2
      · rw [← spt_le c6 hk hn2, hy]
        exact Int32.not_lt.mp g2
    have kzT : ∀ d, kb (S (11 + 17 * d + 3)) (S (137 + 4 * i)) = true → kz S d (S (137 + 4 * i)) = 1 := fun d g => if_pos g
    have kzF : ∀ d, ¬ kb (S (11 + 17 * d + 3)) (S (137 + 4 * i)) = true → kz S d (S (137 + 4 * i)) = 0 := fun d g => if_neg g
    have s2 : ∀ x : Int32, x - nI 2 = x - 1 - 1 := fun x => by rw [Int32.sub_sub]; rfl
    refine ⟨fun z => ⟨fun z2 => ?_, fun z2 => ?_⟩, fun z => ⟨fun z2 => ?_, fun z2 => ?_⟩⟩
    · exact fin _ 0 (by simp [nI_0]) (by decide) (by rw [kzF b z, kzF c z2])
    · exact fin _ 1 (by simp; rfl) (by decide) (by rw [kzF b z, kzT c (Classical.not_not.mp z2)])
    · exact fin _ 1 (by simp; rfl) (by decide) (by rw [kzT b (Classical.not_not.mp z), kzF c z2])
    · exact fin _ 2 (s2 _) (by decide) (by rw [kzT b (Classical.not_not.mp z), kzT c (Classical.not_not.mp z2)])
noncomputable def stF (S : st_T) (i j : Nat) (x : Int32 × Int32) : Int32 × Int32 := if spA S i j 0 4 = true then (x.1 + 1, if 0 ≤ x.2 then x.2 else 10 * nI i + nI j) else x
noncomputable def stO (S : st_T) (i : Nat) (x : Int32 × Int32) : Int32 × Int32 := lp (stF S i) (i + 1) (cr S - (i + 1)) x
theorem w_storm_I {S : st_T} {D : Int} {h : hp_T} {x1 : Int32} {i : Nat} {Q : Int32 → hp_T → Prop} {L : Int32 → Int32 → Int32 → hp_T → Prop} (hV : Vl D S) (R : RI h 1 S) (hi : i < cr S) : ∀ (r j nn : Nat) (x : Int32 × Int32), j + r = cr S → i < j → r < nn → (∀ y, y = lp (stF S i) j r x → L y.1 y.2 (nI (i + 1)) h) → wp_X7_storm_L40 x1 Q L nn x.1 x.2 (nI i) (nI j) h := by
  have C := cr_nI hV.1
  intro r
  induction r with
  | zero =>
    intro j nn x hj hij hn hq
    obtain ⟨nn, rfl⟩ : ∃ m, nn = m + 1 := ⟨nn - 1, by omega⟩
    unfold wp_X7_storm_L40
    rw [R.crew, C.1, show nI i + 1 = nI (i + 1) from nI_1 i]
    exact ⟨fun _ => hq x rfl, fun z => absurd (nI_le (by omega) (by omega)) z⟩
  | succ r ih =>
    intro j nn x hj hij hn hq
    obtain ⟨nn, rfl⟩ : ∃ m, nn = m + 1 := ⟨nn - 1, by omega⟩
    unfold wp_X7_storm_L40
    rw [R.crew, C.1, show nI j + 1 = nI (j + 1) from nI_1 j]
    have next : ∀ y : Int32 × Int32, stF S i j x = y → wp_X7_storm_L40 x1 Q L nn y.1 y.2 (nI i) (nI (j + 1)) h := by
      intro y hy
      refine ih (j + 1) nn y (by omega) (by omega) (by omega) (fun w hw => hq w ?_)
      rw [hw, ← hy]; rfl
    refine ⟨fun z => absurd z (nI_ge (by omega) (by omega)), fun _ => ⟨5, w_canSpare_L hV R hij (by omega) 4 0 5 rfl (by decide) (fun g => ?_) (fun g => ?_)⟩⟩
    · refine ⟨fun z => absurd z (by decide), fun _ => ⟨fun p => next (x.1 + 1, x.2) ?_, fun p => next (x.1 + 1, 10 * nI i + nI j) ?_⟩⟩
      · unfold stF; rw [if_pos g, if_pos p]
      · unfold stF; rw [if_pos g, if_neg p]
    · refine ⟨fun _ => next x ?_, fun z => absurd rfl z⟩
      unfold stF; rw [if_neg (by rw [g]; decide)]
theorem w_storm_O {S : st_T} {D : Int} {h : hp_T} {x1 : Int32} {Q : Int32 → hp_T → Prop} (hV : Vl D S) (R : RI h 1 S) : ∀ (r i nn : Nat) (x : Int32 × Int32), i + r = cr S → r < nn → (∀ y, y = lp (stO S) i r x → ((x1 = 0 → Q y.1 h) ∧ (¬ x1 = 0 → ((0 ≤ y.2 → Q y.2 h) ∧ (¬ 0 ≤ y.2 → wp_X7_error 2 h Q))))) → wp_X7_storm_L22 x1 Q nn x.1 x.2 (nI i) h := by
  have C := cr_nI hV.1
  intro r
  induction r with
  | zero =>
    intro i nn x hi hn hq
    obtain ⟨nn, rfl⟩ : ∃ m, nn = m + 1 := ⟨nn - 1, by omega⟩
    unfold wp_X7_storm_L22
    rw [R.crew, C.1]
    exact ⟨fun _ => hq x rfl, fun z => absurd (nI_le (by omega) (by omega)) z⟩
  | succ r ih =>
    intro i nn x hi hn hq
    obtain ⟨nn, rfl⟩ : ∃ m, nn = m + 1 := ⟨nn - 1, by omega⟩
    unfold wp_X7_storm_L22
    rw [R.crew, C.1, show nI i + 1 = nI (i + 1) from nI_1 i]
    refine ⟨fun z => absurd z (nI_ge (by omega) (by omega)), fun _ => ⟨cr S + 1, w_storm_I hV R (by omega) (cr S - (i + 1)) (i + 1) (cr S + 1) x (by omega) (by omega) (by omega) (fun y hy => ?_)⟩⟩
    refine ih (i + 1) nn y (by omega) (by omega) (fun w hw => hq w ?_)
    rw [hw, hy]; rfl
theorem m_storm_I {S : st_T} {D : Int} {h : hp_T} {x1 : Int32} {i : Nat} {Q : Int32 → hp_T → Prop} {L : Int32 → Int32 → Int32 → hp_T → Prop} (hV : Vl D S) (hS : hp_i h 106 = S) (hi : i < cr S) : ∀ (r j nn : Nat) (x : Int32 × Int32), j + r = cr S → i < j → r < nn → (∀ y, y = lp (stF S i) j r x → L y.1 y.2 (nI (i + 1)) h) → wp_X8_storm_L41 x1 Q L nn x.1 x.2 (nI i) (nI j) h := by
  have C := cr_nI hV.1
  intro r
  induction r with
  | zero =>
    intro j nn x hj hij hn hq
    obtain ⟨nn, rfl⟩ : ∃ m, nn = m + 1 := ⟨nn - 1, by omega⟩
    unfold wp_X8_storm_L41
    rw [hS, C.1, show nI i + 1 = nI (i + 1) from nI_1 i]
    exact ⟨fun _ => hq x rfl, fun z => absurd (nI_le (by omega) (by omega)) z⟩
  | succ r ih =>
    intro j nn x hj hij hn hq
    obtain ⟨nn, rfl⟩ : ∃ m, nn = m + 1 := ⟨nn - 1, by omega⟩
    unfold wp_X8_storm_L41
    rw [hS, C.1, show nI j + 1 = nI (j + 1) from nI_1 j]
    have next : ∀ y : Int32 × Int32, stF S i j x = y → wp_X8_storm_L41 x1 Q L nn y.1 y.2 (nI i) (nI (j + 1)) h := by
      intro y hy
      refine ih (j + 1) nn y (by omega) (by omega) (by omega) (fun w hw => hq w ?_)
      rw [hw, ← hy]; rfl
    refine ⟨fun z => absurd z (nI_ge (by omega) (by omega)), fun _ => ⟨5, m_isDW_L hV hS hij (by omega) 4 0 5 1 rfl (by decide) (Or.inr rfl) (fun _ g => ?_) (fun g => ?_)⟩⟩
    · refine ⟨fun z => absurd z (by decide), fun _ => ⟨fun p => next (x.1 + 1, x.2) ?_, fun p => next (x.1 + 1, 10 * nI i + nI j) ?_⟩⟩
      · unfold stF; rw [if_pos g, if_pos p]
      · unfold stF; rw [if_pos g, if_neg p]
    · refine ⟨fun _ => next x ?_, fun z => absurd rfl z⟩
      unfold stF; rw [if_neg (fun w => g ⟨rfl, w⟩)]
theorem m_storm_O {S : st_T} {D : Int} {h : hp_T} {x1 : Int32} {Q : Int32 → hp_T → Prop} (hV : Vl D S) (hS : hp_i h 106 = S) : ∀ (r i nn : Nat) (x : Int32 × Int32), i + r = cr S → r < nn → (∀ y, y = lp (stO S) i r x → ((x1 = 0 → Q y.1 h) ∧ (¬ x1 = 0 → ((0 ≤ y.2 → Q y.2 h) ∧ (¬ 0 ≤ y.2 → wp_X8_errs (-1000000002) h Q))))) → wp_X8_storm_L24 x1 Q nn x.1 x.2 (nI i) h := by
  have C := cr_nI hV.1
  intro r
  induction r with
  | zero =>
    intro i nn x hi hn hq
    obtain ⟨nn, rfl⟩ : ∃ m, nn = m + 1 := ⟨nn - 1, by omega⟩
    unfold wp_X8_storm_L24
    rw [hS, C.1]
    exact ⟨fun _ => hq x rfl, fun z => absurd (nI_le (by omega) (by omega)) z⟩
  | succ r ih =>
    intro i nn x hi hn hq
    obtain ⟨nn, rfl⟩ : ∃ m, nn = m + 1 := ⟨nn - 1, by omega⟩
    unfold wp_X8_storm_L24
    rw [hS, C.1, show nI i + 1 = nI (i + 1) from nI_1 i]
    refine ⟨fun z => absurd z (nI_ge (by omega) (by omega)), fun _ => ⟨cr S + 1, m_storm_I hV hS (by omega) (cr S - (i + 1)) (i + 1) (cr S + 1) x (by omega) (by omega) (by omega) (fun y hy => ?_)⟩⟩
    refine ih (i + 1) nn y (by omega) (by omega) (fun w hw => hq w ?_)
    rw [hw, hy]; rfl
theorem c_storm {x : Int32} {h : hp_T} (I : Inv h) : wp_X7_storm x h (fun r1 h1 => wp_X8_storm x h1 (fun r2 h2 => r1 = r2 ∧ Inv h2)) := by
  have V := I.V
  unfold wp_X7_storm
  simp only [w_within, bi_0, er1]
  refine ⟨fun z => ?_, fun z => ?_⟩
  · unfold wp_X8_storm
    simp only [in_0_1, bi_0]
    exact ⟨fun _ => f1 I, fun w => absurd z w⟩
  have ref : ∀ (h' : hp_T) (Q : Int32 → hp_T → Prop), hp_i h' 106 = hp_i h 106 → (∀ y, y = lp (stO (hp_i h 106)) 0 (cr (hp_i h 106)) (0, -1) → ((x = 0 → Q y.1 h') ∧ (¬ x = 0 → ((0 ≤ y.2 → Q y.2 h') ∧ (¬ 0 ≤ y.2 → wp_X8_errs (-1000000002) h' Q))))) → wp_X8_storm x h' Q := by
    intro h' Q e q
    unfold wp_X8_storm
    simp only [in_0_1, bi_0]
    exact ⟨fun w => absurd w z, fun _ => ⟨cr (hp_i h 106) + 1, m_storm_O V e (cr (hp_i h 106)) 0 (cr (hp_i h 106) + 1) (0, -1) (by omega) (by omega) q⟩⟩
  refine ⟨cr (hp_i h 106) + 1, w_storm_O V I.R.i (cr (hp_i h 106)) 0 (cr (hp_i h 106) + 1) (0, -1) (by omega) (by omega) (fun y hy => ⟨fun x0 => ?_, fun x0 => ⟨fun p => ?_, fun p => ?_⟩⟩)⟩
  · exact ref h _ rfl (fun w hw => ⟨fun _ => ⟨by rw [hw, ← hy], I⟩, fun n => absurd x0 n⟩)
  · exact ref h _ rfl (fun w hw => ⟨fun n => absurd n x0, fun _ => ⟨fun _ => ⟨by rw [hw, ← hy], I⟩, fun n => absurd (by rw [hw, ← hy]; exact p) n⟩⟩)
  · rw [er2]
    exact ref _ _ (er_row (by decide)) (fun w hw => ⟨fun n => absurd n x0, fun _ => ⟨fun n => absurd n (by rw [hw, ← hy]; exact p), fun _ => f2 I⟩⟩)
