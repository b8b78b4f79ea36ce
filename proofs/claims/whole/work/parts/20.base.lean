/-! ===== PURE: small things ===== -/
/-- a truth as an int -/
def bi (c : Prop) [Decidable c] : Int32 := if c then 1 else 0
theorem bi_0 {c : Prop} [Decidable c] : (bi c = 0) = ¬ c := by by_cases h : c <;> simp [bi, h]
theorem bi_1 {c : Prop} [Decidable c] : (bi c = 1) = c := by by_cases h : c <;> simp [bi, h]
theorem bi_ok {c : Prop} [Decidable c] : bo_ok (bi c) = True := by by_cases h : c <;> simp [bi, h, bo_ok]
theorem bi_ex {c d : Prop} [Decidable c] [Decidable d] (h : c ↔ d) : bi c = bi d := by by_cases h1 : c <;> simp_all [bi]
theorem br_q {c : Prop} [Decidable c] {α : Type} {Q : α → Prop} {a b : α} : ((c → Q a) ∧ (¬ c → Q b)) = Q (if c then a else b) := by by_cases h : c <;> simp [h]
theorem w_within {x lo hi : Int32} {h : hp_T} {Q : Int32 → Prop} : wp_X7_within x lo hi h Q = Q (bi (lo ≤ x ∧ x ≤ hi)) := by
  unfold wp_X7_within bi
  by_cases h1 : x < lo
  · have h2 : ¬ lo ≤ x := Int32.not_le.mpr h1
    simp [h1, h2]
  · have h2 : lo ≤ x := Int32.not_lt.mp h1
    by_cases h3 : hi < x
    · have h4 : ¬ x ≤ hi := Int32.not_le.mpr h3
      simp [h1, h2, h3, h4]
    · have h4 : x ≤ hi := Int32.not_lt.mp h3
      simp [h1, h2, h3, h4]
theorem w_isKnack {x : Int32} {h : hp_T} {Q : Int32 → Prop} : wp_X7_isKnack x h Q = Q (bi (0 ≤ x ∧ x ≤ 5)) := by
  unfold wp_X7_isKnack
  simp only [w_within, bi_ok, true_and]
theorem w_isSheet {x : Int32} {h : hp_T} {Q : Int32 → Prop} : wp_X7_isSheet x h Q = Q (bi (0 ≤ x ∧ x ≤ 3)) := by
  unfold wp_X7_isSheet
  simp only [w_within, bi_ok, true_and]
theorem w_isBunk {x : Int32} {h : hp_T} {Q : Int32 → Prop} : wp_X7_isBunk x h Q = Q (bi (0 ≤ x ∧ x ≤ hp_i h 1 1 - 1)) := by
  unfold wp_X7_isBunk
  simp only [w_within, bi_ok, true_and]
theorem w_mayEnlist {x y : Int32} {h : hp_T} {Q : Int32 → Prop} : wp_X7_mayEnlist x y h Q = Q (bi ((0 ≤ x ∧ x ≤ 69) ∧ 0 ≤ y ∧ y ≤ 63)) := by
  unfold wp_X7_mayEnlist
  simp only [w_within, bi_0]
  by_cases h1 : (0 ≤ x ∧ x ≤ 69) <;> by_cases h2 : (0 ≤ y ∧ y ≤ 63) <;> simp [h1, h2, bi]
theorem w_in {x lo hi : Int64} {h : hp_T} {Q : Int32 → Prop} : wp_X8_in x lo hi h Q = Q (bi (lo ≤ x ∧ x ≤ hi)) := by
  unfold wp_X8_in bi
  have e1 : (lg_cmp x lo < 0) = ¬ lo ≤ x := by rw [← lg_cmp_ge]; simp
  have e2 : (0 < lg_cmp x hi) = ¬ x ≤ hi := by
    unfold lg_cmp
    simp only [gt_iff_lt, Int64.lt_iff_toInt_lt, Int64.le_iff_toInt_le, ← Int64.toInt_inj]
    by_cases h1 : hi.toInt < x.toInt
    · simp [h1]
    · by_cases h2 : x.toInt = hi.toInt
      · simp [h2]
      · simp [h1, h2]
  rw [e1, e2]
  by_cases h1 : lo ≤ x <;> by_cases h2 : x ≤ hi <;> simp [h1, h2]
theorem l_le {x y : Int32} : (x.toInt64 ≤ y.toInt64) = (x ≤ y) := by
  simp [Int64.le_iff_toInt_le, Int32.le_iff_toInt_le]
theorem w_in32 {x lo hi : Int32} {h : hp_T} {Q : Int32 → Prop} : wp_X8_in x.toInt64 lo.toInt64 hi.toInt64 h Q = Q (bi (lo ≤ x ∧ x ≤ hi)) := by
  rw [w_in, bi_ex (show (lo.toInt64 ≤ x.toInt64 ∧ x.toInt64 ≤ hi.toInt64) ↔ (lo ≤ x ∧ x ≤ hi) by rw [l_le, l_le])]
theorem x_isKnack {x : Int32} {h : hp_T} {Q : Int32 → Prop} : wp_X8_isKnack x h Q = Q (bi (0 ≤ x ∧ x ≤ 5)) := by
  unfold wp_X8_isKnack
  rw [show (0 : Int64) = (0 : Int32).toInt64 from rfl, show (5 : Int64) = (5 : Int32).toInt64 from rfl]
  simp only [w_in32, bi_ok, true_and]
theorem x_isBits {x : Int32} {h : hp_T} {Q : Int32 → Prop} : wp_X8_isBits x h Q = Q (bi (0 ≤ x ∧ x ≤ 63)) := by
  unfold wp_X8_isBits
  rw [show (0 : Int64) = (0 : Int32).toInt64 from rfl, show (63 : Int64) = (63 : Int32).toInt64 from rfl]
  simp only [w_in32, bi_ok, true_and]
theorem x_isMan {x : Int32} {h : hp_T} {Q : Int32 → Prop} : wp_X8_isMan x h Q = Q (bi (0 ≤ x ∧ x ≤ 69)) := by
  unfold wp_X8_isMan
  rw [show (0 : Int64) = (0 : Int32).toInt64 from rfl, show (69 : Int64) = (69 : Int32).toInt64 from rfl]
  simp only [w_in32, bi_ok, true_and]
theorem x_isSpan {x : Int32} {h : hp_T} {Q : Int32 → Prop} : wp_X8_isSpan x h Q = Q (bi (1 ≤ x ∧ x ≤ 90)) := by
  unfold wp_X8_isSpan
  rw [show (1 : Int64) = (1 : Int32).toInt64 from rfl, show (90 : Int64) = (90 : Int32).toInt64 from rfl]
  simp only [w_in32, bi_ok, true_and]
theorem x_isVersion {x : Int32} {h : hp_T} {Q : Int32 → Prop} : wp_X8_isVersion x h Q = Q (bi (0 ≤ x ∧ x ≤ 999)) := by
  unfold wp_X8_isVersion
  rw [show (0 : Int64) = (0 : Int32).toInt64 from rfl, show (999 : Int64) = (999 : Int32).toInt64 from rfl]
  simp only [w_in32, bi_ok, true_and]
theorem x_isSheet {x : Int32} {h : hp_T} {Q : Int32 → Prop} : wp_X8_isSheet x h Q = Q (bi (0 ≤ x ∧ x ≤ 3)) := by
  unfold wp_X8_isSheet
  rw [show (0 : Int64) = (0 : Int32).toInt64 from rfl, show (3 : Int64) = (3 : Int32).toInt64 from rfl]
  simp only [w_in32, bi_ok, true_and]
theorem x_isBunk {x : Int32} {h : hp_T} {Q : Int32 → Prop} : wp_X8_isBunk x h Q = Q (bi (0 ≤ x ∧ x ≤ hp_i h 106 0 - 1)) := by
  unfold wp_X8_isBunk
  rw [show (0 : Int64) = (0 : Int32).toInt64 from rfl]
  simp only [w_in32, bi_ok, true_and]
/-- a bit of a set of knacks -/
def kb (x k : Int32) : Bool := decide (((x >>> (k &&& 31)) &&& 1) = 1)
theorem and1 (x : Int32) : x &&& 1 = 0 ∨ x &&& 1 = 1 := by
  obtain ⟨j, hj, e⟩ := pk_andE x (m := 1) 1 rfl
  rcases (show j = 0 ∨ j = 1 by omega) with rfl | rfl
  · exact Or.inl e
  · exact Or.inr e
theorem kb_0 {x k : Int32} : (((x >>> (k &&& 31)) &&& 1) = 0) = (kb x k = false) := by
  unfold kb
  rcases and1 (x >>> (k &&& 31)) with e | e <;> rw [e] <;> decide
theorem kb_1 {x k : Int32} : (((x >>> (k &&& 31)) &&& 1) = 1) = (kb x k = true) := by simp [kb]
theorem w_knows {a : Nat} {k : Int32} {h : hp_T} {Q : Int32 → Prop} : wp_X0_knows a k h Q = Q (bi ((0 ≤ k ∧ k ≤ 5) ∧ kb (hp_i h a 3) k = true)) := by
  unfold wp_X0_knows
  simp only [w_isKnack, bi_0, kb_0]
  by_cases h1 : (0 ≤ k ∧ k ≤ 5) <;> cases h2 : kb (hp_i h a 3) k <;> simp [h1, bi]
theorem x_has {x k : Int32} {h : hp_T} {Q : Int32 → Prop} : wp_X8_has x k h Q = Q (bi (kb x k = true)) := by
  unfold wp_X8_has
  simp only [kb_1]
  cases h2 : kb x k <;> simp [bi]
def hl (x lo hi : Int32) : Int32 := if lo ≤ x then (if x ≤ hi then x else hi) else lo
theorem x_held {x lo hi : Int32} {h : hp_T} {Q : Int32 → Prop} : wp_X8_held x lo hi h Q = Q (hl x lo hi) := by
  unfold wp_X8_held hl
  by_cases h1 : lo ≤ x <;> by_cases h2 : x ≤ hi <;> simp [h1, h2]
/-! ints as numbers -/
def rg (x : Int32) (a b : Int) : Prop := a ≤ x.toInt ∧ x.toInt ≤ b
theorem i_le {x y : Int32} : (x ≤ y) = (x.toInt ≤ y.toInt) := by simp [Int32.le_iff_toInt_le]
theorem i_lt {x y : Int32} : (x < y) = (x.toInt < y.toInt) := by simp [Int32.lt_iff_toInt_lt]
theorem i_eq {x y : Int32} : (x = y) = (x.toInt = y.toInt) := by simp [Int32.toInt_inj]
theorem i_add {x y : Int32} (h1 : -2147483648 ≤ x.toInt + y.toInt) (h2 : x.toInt + y.toInt < 2147483648) : (x + y).toInt = x.toInt + y.toInt := by
  rw [Int32.toInt_add, Int.bmod_def]
  omega
theorem i_sub {x y : Int32} (h1 : -2147483648 ≤ x.toInt - y.toInt) (h2 : x.toInt - y.toInt < 2147483648) : (x - y).toInt = x.toInt - y.toInt := by
  rw [Int32.toInt_sub, Int.bmod_def]
  omega
theorem i_nat {x : Int32} : x.toNatClampNeg = x.toInt.toNat := rfl
theorem i_in {x : Int32} {n : Nat} : vp_in x n ↔ 0 ≤ x.toInt ∧ x.toInt < n := vp_in_iff
theorem i_nI {n : Nat} (h : n < 2147483648) : (nI n).toInt = n := nI_toInt h
theorem rg_nI {x : Int32} {b : Int} (n : Nat) (h : rg x 0 b) (hb : b = n) (hn : n < 2147483648) : ∃ c, c ≤ n ∧ x = nI c := by
  subst hb
  have h1 := h.1
  have h2 := h.2
  refine ⟨x.toInt.toNat, by omega, ?_⟩
  rw [i_eq, i_nI (by omega)]
  omega
/-- places in the reference's row: of a bunk, of a task -/
theorem ix_at {b w : Int32} {n : Nat} (hb : vp_in b 6) (hw : w = nI n) (hn : n < 17) : vp_in ((11 + (17 * b)) + w) 357 ∧ ((11 + (17 * b)) + w).toNatClampNeg = 11 + 17 * b.toNatClampNeg + n := by
  obtain ⟨b', hb', rfl⟩ := vp_in_of hb (by decide)
  subst hw
  rw [show (11 : Int32) = nI 11 from rfl, show (17 : Int32) = nI 17 from rfl, pk_mul, nI_add, nI_add, nI_clamp (by omega), nI_clamp (by omega)]
  exact ⟨vp_in_nI (by omega) (by decide), rfl⟩
theorem ix_task {t w : Int32} {n : Nat} (hb : vp_in t 4) (hw : w = nI n) (hn : n < 4) : vp_in ((137 + (4 * t)) + w) 357 ∧ ((137 + (4 * t)) + w).toNatClampNeg = 137 + 4 * t.toNatClampNeg + n := by
  obtain ⟨b', hb', rfl⟩ := vp_in_of hb (by decide)
  subst hw
  rw [show (137 : Int32) = nI 137 from rfl, show (4 : Int32) = nI 4 from rfl, pk_mul, nI_add, nI_add, nI_clamp (by omega), nI_clamp (by omega)]
  exact ⟨vp_in_nI (by omega) (by decide), rfl⟩
theorem x_its {b w : Int32} (n : Nat) {h : hp_T} {Q : Int32 → Prop} (hb : vp_in b 6) (hw : w = nI n) (hn : n < 17) : wp_X8_its b w h Q = Q (hp_i h 106 (11 + 17 * b.toNatClampNeg + n)) := by
  obtain ⟨h1, h2⟩ := ix_at hb hw hn
  unfold wp_X8_its wp_X8_at
  show (_ ∧ _) = _
  rw [h2, eq_true h1, true_and]
theorem x_ofTask {t w : Int32} (n : Nat) {h : hp_T} {Q : Int32 → Prop} (hb : vp_in t 4) (hw : w = nI n) (hn : n < 4) : wp_X8_ofTask t w h Q = Q (hp_i h 106 (137 + 4 * t.toNatClampNeg + n)) := by
  obtain ⟨h1, h2⟩ := ix_task hb hw hn
  unfold wp_X8_ofTask wp_X8_where
  show (_ ∧ _) = _
  rw [h2, eq_true h1, true_and]
section XB
variable {b : Int32} {h : hp_T} {Q : Int32 → Prop}
theorem x_its0 (hb : vp_in b 6) : wp_X8_its b 0 h Q = Q (hp_i h 106 (11 + 17 * b.toNatClampNeg)) := x_its 0 hb rfl (by decide)
theorem x_its1 (hb : vp_in b 6) : wp_X8_its b 1 h Q = Q (hp_i h 106 (11 + 17 * b.toNatClampNeg + 1)) := x_its 1 hb rfl (by decide)
theorem x_its2 (hb : vp_in b 6) : wp_X8_its b 2 h Q = Q (hp_i h 106 (11 + 17 * b.toNatClampNeg + 2)) := x_its 2 hb rfl (by decide)
theorem x_its3 (hb : vp_in b 6) : wp_X8_its b 3 h Q = Q (hp_i h 106 (11 + 17 * b.toNatClampNeg + 3)) := x_its 3 hb rfl (by decide)
theorem x_its4 (hb : vp_in b 6) : wp_X8_its b 4 h Q = Q (hp_i h 106 (11 + 17 * b.toNatClampNeg + 4)) := x_its 4 hb rfl (by decide)
theorem x_isKnowing {k : Int32} (hb : vp_in b 6) : wp_X8_isKnowing b k h Q = Q (bi (kb (hp_i h 106 (11 + 17 * b.toNatClampNeg + 3)) k = true)) := by
  unfold wp_X8_isKnowing
  rw [x_its3 hb, x_has]
  simp [bi_ok]
end XB
/-! ===== what stays ===== -/
def fr (P : Nat → Nat → Prop) (h h1 : hp_T) : Prop := h1.2 = h.2 ∧ ∀ a j, ¬ P a j → hp_i h1 a j = hp_i h a j
theorem fr.refl {P : Nat → Nat → Prop} {h : hp_T} : fr P h h := ⟨rfl, fun _ _ _ => rfl⟩
theorem fr.trans {P : Nat → Nat → Prop} {h h1 h2 : hp_T} (a : fr P h h1) (b : fr P h1 h2) : fr P h h2 := ⟨b.1.trans a.1, fun x j hx => (b.2 x j hx).trans (a.2 x j hx)⟩
theorem fr.mono {P P' : Nat → Nat → Prop} {h h1 : hp_T} (a : fr P h h1) (hp : ∀ x j, P x j → P' x j) : fr P' h h1 := ⟨a.1, fun x j hx => a.2 x j fun q => hx (hp x j q)⟩
theorem fr_si {P : Nat → Nat → Prop} {h : hp_T} {a k : Nat} {v : Int32} (hp : P a k) : fr P h (hp_si h a k v) := ⟨rfl, fun x j hx => if_neg fun ⟨e1, e2⟩ => hx (by rw [e1, e2]; exact hp)⟩
theorem fr.si {P : Nat → Nat → Prop} {h h1 : hp_T} {a k : Nat} {v : Int32} (f : fr P h h1) (hp : P a k) : fr P h (hp_si h1 a k v) := f.trans (fr_si hp)
theorem fr.wf {P : Nat → Nat → Prop} {h h1 : hp_T} (f : fr P h h1) (hw : wf h) : wf h1 := by
  have e : h1 = (h1.1, h.2) := by rw [← f.1]
  rw [e]; exact hw
theorem fr.r {P : Nat → Nat → Prop} {h h1 : hp_T} (f : fr P h h1) : hp_r h1 = hp_r h := by unfold hp_r; rw [f.1]
theorem fr.l {P : Nat → Nat → Prop} {h h1 : hp_T} (f : fr P h h1) : hp_l h1 = hp_l h := by unfold hp_l; rw [f.1]
theorem fr.n {P : Nat → Nat → Prop} {h h1 : hp_T} (f : fr P h h1) : hp_n h1 = hp_n h := by unfold hp_n; rw [f.1]
theorem hp_i_si {h : hp_T} {a k : Nat} {v : Int32} {b j : Nat} : hp_i (hp_si h a k v) b j = if b = a ∧ j = k then v else hp_i h b j := rfl
theorem hp_i_cp {h : hp_T} {a i b j n c k : Nat} : hp_i (hp_cp h a i b j n) c k = if c = b then va_cpy (hp_i h a) (hp_i h b) i j n k else hp_i h c k := rfl
