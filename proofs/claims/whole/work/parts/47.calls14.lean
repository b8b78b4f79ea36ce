/-! ===== PURE: the calls: storm ===== -/
def cnt (S : st_T) (k : Int32) : Nat → Nat → Nat
  | _, 0 => 0
  | i, n + 1 => (if kn S i k = true then 1 else 0) + cnt S k (i + 1) n
theorem lp_cnt {S : st_T} {k : Int32} : ∀ (n i a : Nat), lp (fun b a => a + (if kn S b k = true then 1 else 0)) i n (nI a) = nI (a + cnt S k i n) := by
  intro n
  induction n with
  | zero => intro i a; rfl
  | succ n ih =>
    intro i a
    show lp (fun b a => a + (if kn S b k = true then 1 else 0)) (i + 1) n (nI a + (if kn S i k = true then 1 else 0)) = nI (a + ((if kn S i k = true then 1 else 0) + cnt S k (i + 1) n))
    cases kn S i k with
    | true =>
      rw [if_pos rfl, if_pos rfl, show nI a + 1 = nI (a + 1) from nI_1 a, ih]
      congr 1; omega
    | false =>
      rw [if_neg (by decide), if_neg (by decide), Int32.add_zero, ih]
      congr 1; omega
theorem cnt_one {S : st_T} {k : Int32} {b : Nat} : ∀ (n i : Nat), i ≤ b → b < i + n → (if kn S b k = true then 1 else 0) ≤ cnt S k i n := by
  intro n
  induction n with
  | zero => intro i h1 h2; omega
  | succ n ih =>
    intro i h1 h2
    unfold cnt
    by_cases g : i = b
    · subst g; omega
    · have := ih (i + 1) (by omega) (by omega)
      omega
theorem cnt_two {S : st_T} {k : Int32} {b c : Nat} (hbc : b < c) : ∀ (n i : Nat), i ≤ b → c < i + n → (if kn S b k = true then 1 else 0) + (if kn S c k = true then 1 else 0) ≤ cnt S k i n := by
  intro n
  induction n with
  | zero => intro i h1 h2; omega
  | succ n ih =>
    intro i h1 h2
    unfold cnt
    by_cases g : i = b
    · subst g
      have := cnt_one (S := S) (k := k) (b := c) n (i + 1) (by omega) (by omega)
      omega
    · have := ih (i + 1) (by omega) (by omega)
      omega
theorem cnt_le {S : st_T} {k : Int32} : ∀ (n i : Nat), cnt S k i n ≤ n := by
  intro n
  induction n with
  | zero => intro i; exact Nat.le_refl 0
  | succ n ih =>
    intro i
    unfold cnt
    have := ih (i + 1)
    split <;> omega
theorem kns_cnt {S : st_T} {k : Int32} : kns S k = nI (cnt S k 0 (cr S)) := by
  have := lp_cnt (S := S) (k := k) (cr S) 0 0
  rw [Nat.zero_add] at this
  exact this
def kz (S : st_T) (b : Nat) (k : Int32) : Nat := if kn S b k = true then 1 else 0
/-- the task t is still done without b and c -/
def spt (S : st_T) (b c t : Nat) : Prop := (S (137 + 4 * t + 1)).toInt ≤ (cnt S (S (137 + 4 * t)) 0 (cr S) : Int) - (kz S b (S (137 + 4 * t)) + kz S c (S (137 + 4 * t)) : Nat)
noncomputable def spA (S : st_T) (b c : Nat) : Nat → Nat → Bool
  | _, 0 => true
  | i, r + 1 => @decide (spt S b c i) (Classical.propDecidable _) && spA S b c (i + 1) r
