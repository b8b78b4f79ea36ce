/-! ===== PURE: the class: its men ===== -/
def fbc (x0 : Int32) : Int32 := ((((((((x0 - ((ab_ush x0 (1 : Int32)) &&& (1431655765 : Int32))) &&& (858993459 : Int32)) + ((ab_ush (x0 - ((ab_ush x0 (1 : Int32)) &&& (1431655765 : Int32))) (2 : Int32)) &&& (858993459 : Int32))) + (ab_ush (((x0 - ((ab_ush x0 (1 : Int32)) &&& (1431655765 : Int32))) &&& (858993459 : Int32)) + ((ab_ush (x0 - ((ab_ush x0 (1 : Int32)) &&& (1431655765 : Int32))) (2 : Int32)) &&& (858993459 : Int32))) (4 : Int32))) &&& (252645135 : Int32)) + (ab_ush (((((x0 - ((ab_ush x0 (1 : Int32)) &&& (1431655765 : Int32))) &&& (858993459 : Int32)) + ((ab_ush (x0 - ((ab_ush x0 (1 : Int32)) &&& (1431655765 : Int32))) (2 : Int32)) &&& (858993459 : Int32))) + (ab_ush (((x0 - ((ab_ush x0 (1 : Int32)) &&& (1431655765 : Int32))) &&& (858993459 : Int32)) + ((ab_ush (x0 - ((ab_ush x0 (1 : Int32)) &&& (1431655765 : Int32))) (2 : Int32)) &&& (858993459 : Int32))) (4 : Int32))) &&& (252645135 : Int32)) (8 : Int32))) + (ab_ush ((((((x0 - ((ab_ush x0 (1 : Int32)) &&& (1431655765 : Int32))) &&& (858993459 : Int32)) + ((ab_ush (x0 - ((ab_ush x0 (1 : Int32)) &&& (1431655765 : Int32))) (2 : Int32)) &&& (858993459 : Int32))) + (ab_ush (((x0 - ((ab_ush x0 (1 : Int32)) &&& (1431655765 : Int32))) &&& (858993459 : Int32)) + ((ab_ush (x0 - ((ab_ush x0 (1 : Int32)) &&& (1431655765 : Int32))) (2 : Int32)) &&& (858993459 : Int32))) (4 : Int32))) &&& (252645135 : Int32)) + (ab_ush (((((x0 - ((ab_ush x0 (1 : Int32)) &&& (1431655765 : Int32))) &&& (858993459 : Int32)) + ((ab_ush (x0 - ((ab_ush x0 (1 : Int32)) &&& (1431655765 : Int32))) (2 : Int32)) &&& (858993459 : Int32))) + (ab_ush (((x0 - ((ab_ush x0 (1 : Int32)) &&& (1431655765 : Int32))) &&& (858993459 : Int32)) + ((ab_ush (x0 - ((ab_ush x0 (1 : Int32)) &&& (1431655765 : Int32))) (2 : Int32)) &&& (858993459 : Int32))) (4 : Int32))) &&& (252645135 : Int32)) (8 : Int32))) (16 : Int32))) &&& (63 : Int32))
theorem fbc_all : (List.range 64).all (fun c => decide (fbc (nI c) = bc (nI c))) = true := by decide +kernel
theorem w_bits {x : Int32} {h : hp_T} {Q : Int32 → Prop} (hx : rg x 0 63) : wp_J6_bitCount_0f7a4 x h Q = Q (bc x) := by
  obtain ⟨c, hc, rfl⟩ := rg_nI 63 hx rfl (by decide)
  have := of_decide_eq_true (List.all_eq_true.mp fbc_all c (List.mem_range.mpr (by omega)))
  rw [← this]
  rfl
theorem mm_hl {x lo hi : Int32} (hlt : lo < hi) : (if lo < (if x < hi then x else hi) then (if x < hi then x else hi) else lo) = hl x lo hi := by
  rw [i_lt] at hlt
  unfold hl
  by_cases h1 : x < hi
  · rw [if_pos h1]
    rw [i_lt] at h1
    by_cases h2 : lo < x
    · rw [if_pos h2]
      rw [i_lt] at h2
      rw [if_pos (by rw [i_le]; omega), if_pos (by rw [i_le]; omega)]
    · rw [if_neg h2]
      rw [i_lt] at h2
      by_cases h3 : lo ≤ x
      · rw [if_pos h3, if_pos (by rw [i_le]; omega)]
        rw [i_le] at h3
        rw [i_eq]; omega
      · rw [if_neg h3]
  · rw [if_neg h1]
    rw [i_lt] at h1
    rw [if_pos (by rw [i_lt]; omega), if_pos (by rw [i_le]; omega)]
    by_cases h3 : x ≤ hi
    · rw [if_pos h3]
      rw [i_le] at h3
      rw [i_eq]; omega
    · rw [if_neg h3]
theorem mn_hl {x hi : Int32} (h0 : 0 ≤ x.toInt) : (if x < hi then x else hi) = hl x 0 hi := by
  unfold hl
  have e0 : (0 : Int32).toInt = 0 := rfl
  rw [if_pos (show (0 : Int32) ≤ x by rw [i_le]; omega)]
  by_cases h1 : x < hi
  · rw [if_pos h1]
    rw [i_lt] at h1
    rw [if_pos (by rw [i_le]; omega)]
  · rw [if_neg h1]
    rw [i_lt] at h1
    by_cases h3 : x ≤ hi
    · rw [if_pos h3]
      rw [i_le] at h3
      rw [i_eq]; omega
    · rw [if_neg h3]
theorem hl_in {x lo hi : Int32} (h1 : lo.toInt ≤ x.toInt) (h2 : x.toInt ≤ hi.toInt) : hl x lo hi = x := by
  unfold hl
  rw [if_pos (by rw [i_le]; exact h1), if_pos (by rw [i_le]; exact h2)]
theorem k16 {a : Nat} (h : ab_k a = 16) : 117 ≤ a := by
  rcases Nat.lt_or_ge a 117 with h1 | h1
  · have : (List.range 117).all (fun a => decide (ab_k a ≠ 16)) = true := by decide +kernel
    exact absurd h (of_decide_eq_true (List.all_eq_true.mp this a (List.mem_range.mpr h1)))
  · exact h1
theorem k17 {a : Nat} (h : ab_k a = 17) : 117 ≤ a := by
  rcases Nat.lt_or_ge a 117 with h1 | h1
  · have : (List.range 117).all (fun a => decide (ab_k a ≠ 17)) = true := by decide +kernel
    exact absurd h (of_decide_eq_true (List.all_eq_true.mp this a (List.mem_range.mpr h1)))
  · exact h1
/-- what a day of the ship at p with c bunks may write -/
abbrev PS (p c : Nat) : Nat → Nat → Prop := fun a _ => (p ≤ a ∧ a < p + 8 + 3 * c ∧ a ≠ p + 5) ∨ (p + 26 ≤ a ∧ a < p + 30) ∨ ab_k a = 17
def RT (h : hp_T) (p : Nat) (S : st_T) : Prop := ∀ j, j < (S 7).toNatClampNeg → hp_i h (p + 5) j = (S (153 + j)).toInt8.toInt32
def Rl (h : hp_T) (p : Nat) (S : st_T) : Prop := RI h p S ∧ RT h p S ∧ RX h p S
theorem Rl.i {h : hp_T} {p : Nat} {S : st_T} (R : Rl h p S) : RI h p S := R.1
theorem Rl.t {h : hp_T} {p : Nat} {S : st_T} (R : Rl h p S) : RT h p S := R.2.1
theorem Rl.x {h : hp_T} {p : Nat} {S : st_T} (R : Rl h p S) : RX h p S := R.2.2
theorem RX.fr {P : Nat → Nat → Prop} {h h1 : hp_T} {p : Nat} {S S' : st_T} (hX : RX h p S) (f : fr P h h1) (hP : ∀ a j, P a j → ab_k a ≠ 16) (e9 : ∀ u, u < 2 → S' (9 + u) = S (9 + u)) (ec : ∀ j, 237 ≤ j → S' j = S j) : RX h1 p S' := by
  intro u hu
  rw [e9 u hu]
  have e : cd S' u = cd S u := by funext i; exact ec _ (by omega)
  rw [e, f.r, f.n, f.l]
  rcases hX u hu with a | ⟨q, n, b1, b2, b3, b4, b5, b6, b7, b8, b9, b10, b11, b12, b13⟩
  · exact Or.inl a
  · refine Or.inr ⟨q, n, b1, b2, b3, b4, b5, b6, b7, b8, b9, b10, b11, b12, fun i hi => ?_⟩
    rw [f.2 (q + 1) i (fun z => hP _ _ z b6)]
    exact b13 i hi
theorem PS16 {p c a : Nat} (hp : p ≤ 61) (hc : c ≤ 6) (h : PS p c a 0) : ab_k a ≠ 16 := by
  intro z
  have := k16 z
  rcases h with h | h | h
  · omega
  · omega
  · rw [z] at h; exact absurd h (by decide)
/-- needs, pay -/
theorem w_needs {h : hp_T} {p : Nat} {S : st_T} {b : Nat} {k : Int32} {Q : Int32 → hp_T → Prop} (hR : RI h p S) (hRX : RX h p S) (hb : b < cr S) (h6 : b < 6) (hV : VB S b) (hX : VX S 0) (hQ : ∀ h1, fr PK h h1 → Q (nd S b k) h1) : wp_X2_needs p (p + 8 + 3 * b) k h Q := by
  unfold wp_X2_needs
  have hq := hQ h fr.refl
  rw [hR.bk0 hb h6, hR.bk 1 hb h6 (by decide), hR.bk 3 hb h6 (by decide)]
  have m9 := hV.2.1
  unfold rg at m9
  refine ⟨fun e => by simpa [nd, e] using hq, fun e1 => ⟨fun e => ?_, fun e2 => ⟨fun e => by simpa [nd, e] using hq, fun e3 => ⟨fun e => by simpa [nd, e] using hq, fun e4 => ⟨fun e => by simpa [nd, e] using hq, fun e5 => ⟨fun e => ⟨fun en => ?_, fun q en => ?_⟩, fun e6 => by simpa [nd, e1, e2, e4, e6] using hq⟩⟩⟩⟩⟩⟩
  · have : nd S b k = 2 + S (11 + 17 * b + 1) := by
      unfold nd
      rw [if_neg (by rw [e]; decide), if_pos e]
      have e2 : (2 : Int32).toInt = 2 := rfl
      have e1 : (1 : Int32).toInt = 1 := rfl
      have e99 : (99 : Int32).toInt = 99 := rfl
      exact hl_in (by rw [i_add (by omega) (by omega)]; omega) (by rw [i_add (by omega) (by omega)]; omega)
    rw [this] at hq
    exact hq
  · rw [w_bits hV.2.2.1, mm_hl (by decide)]
    rcases hRX 0 (by decide) with ⟨a, a2⟩ | ⟨q, n, b1, b2⟩
    · have : nd S b k = hl (S (11 + 17 * b + 1)) 1 99 := by
        unfold nd
        rw [if_neg (by rw [e]; decide), if_neg (by rw [e]; decide), if_pos e, if_pos a2]
      rw [this] at hq
      exact hq
    · rw [b1] at en; cases en
  · rw [w_bits hV.2.2.1]
    rcases hRX 0 (by decide) with ⟨a, a2⟩ | ⟨q', n, b1, b2, b3, b4, b5, b6, b7, b8, b9, b10, b11, b12, b13⟩
    · rw [a] at en; cases en
    · rw [b1] at en
      obtain rfl := Option.some.inj en
      refine ⟨b2, by omega, w_value (by decide) hX b3 b4 b5 b6 b7 b8 b9 b10 b11 b12 b13 (fun h1 f => ?_)⟩
      have := hQ h1 f
      rw [mm_hl (by decide)]
      have n9 : ¬ S 9 = 0 := by
        have e9 : S 9 = nI n := b12
        rw [e9]
        exact nI_ne0 b10 (by omega)
      unfold nd at this
      rw [if_neg (by rw [e]; decide), if_neg (by rw [e]; decide), if_pos e, if_neg n9] at this
      exact this
theorem w_pay {h : hp_T} {p : Nat} {S : st_T} {b : Nat} {Q : Int32 → hp_T → Prop} (hR : RI h p S) (hRX : RX h p S) (hb : b < cr S) (h6 : b < 6) (hV : VB S b) (hX : VX S 1) (hQ : ∀ h1, fr PK h h1 → Q (py S b) h1) : wp_X2_pay p (p + 8 + 3 * b) h Q := by
  unfold wp_X2_pay
  rw [hR.bk0 hb h6, hR.bk 2 hb h6 (by decide), hR.bk 3 hb h6 (by decide), hR.day, w_bits hV.2.2.1]
  have hq := hQ h fr.refl
  rcases hRX 1 (by decide) with ⟨a, a2⟩ | ⟨q', n, b1, b2, b3, b4, b5, b6, b7, b8, b9, b10, b11, b12, b13⟩
  · refine ⟨fun _ => ?_, fun q z => absurd (a.symm.trans z) (by simp)⟩
    have : py S b = 1 + bc (S (11 + 17 * b + 3)) := by unfold py; rw [if_pos a2]
    rw [this] at hq
    exact hq
  · have n0 : ¬ S 10 = 0 := by
      have b12' : S 10 = nI n := b12
      rw [b12']; exact nI_ne0 b10 (by omega)
    refine ⟨fun z => absurd (b1.symm.trans z) (by simp), fun q z => ?_⟩
    rw [b1] at z
    obtain rfl := Option.some.inj z
    refine ⟨fun y => ⟨b2, by omega, w_value (by decide) hX b3 b4 b5 b6 b7 b8 b9 b10 b11 b12 b13 (fun h1 f => ?_)⟩, fun y => ⟨b2, by omega, w_value (by decide) hX b3 b4 b5 b6 b7 b8 b9 b10 b11 b12 b13 (fun h1 f => ?_)⟩⟩
    · have := hQ h1 f
      rw [mm_hl (by decide)]
      unfold py at this
      rw [if_neg n0, if_neg (by rw [i_le] at y; rw [i_lt]; omega)] at this
      exact this
    · have := hQ h1 f
      rw [mm_hl (by decide)]
      unfold py at this
      rw [if_neg n0, if_pos (by rw [i_le] at y; rw [i_lt]; omega)] at this
      exact this
theorem w_tellsOf {h : hp_T} {p : Nat} {S : st_T} {b k : Nat} {Q : Int32 → Prop} (hR : RI h p S) (hb : b < cr S) (h6 : b < 6) (hk : k < 6) : wp_X0_tellsOf (p + 8 + 3 * b) (nI k) h Q = Q (tl S b (nI k)) := by
  unfold wp_X0_tellsOf
  rw [nI_clamp (n := k) (by omega), hR.bk0 hb h6, hR.bk 1 hb h6 (by decide), hR.ver hb h6 hk, mm_hl (by decide), mm_hl (by decide), mm_hl (by decide)]
  have hin : vp_in (nI k) 6 := vp_in_nI hk (by decide)
  unfold tl
  rw [nI_clamp (n := k) (by omega)]
  by_cases e3 : S (11 + 17 * b) = 3
  · simp [e3, hin]
  · by_cases e4 : S (11 + 17 * b) = 4 <;> simp [e3, e4, hin]
/-- of a kind -/
def isf (x : Int32) : Nat → Int32 → Int32 → Option Int32
  | 0 => fun _ _ => none
  | n + 1 => fun y2 y3 => if 7 ≤ y3 then some (if y2 = x then 1 else 0) else if y2 < 0 then some (if y2 = x then 1 else 0) else if y2 = x then some 1 else if 0 ≤ y2.toInt ∧ y2.toInt < 7 then isf x n (ab_abv y2.toNatClampNeg) (y3 + 1) else none
theorem w_isOf_L {a : Nat} {x v : Int32} {h : hp_T} {Q : Int32 → Prop} (hq : Q v) : ∀ (n : Nat) (y2 y3 : Int32), isf x n y2 y3 = some v → wp_X0_isOf_L7 a x h Q n y2 y3 := by
  intro n
  induction n with
  | zero => intro y2 y3 h; cases h
  | succ n ih =>
    intro y2 y3 e
    unfold wp_X0_isOf_L7
    have e' : (if 7 ≤ y3 then some (if y2 = x then 1 else 0) else if y2 < 0 then some (if y2 = x then 1 else 0) else if y2 = x then some 1 else if 0 ≤ y2.toInt ∧ y2.toInt < 7 then isf x n (ab_abv y2.toNatClampNeg) (y3 + 1) else none) = some v := e
    have fin : some (if y2 = x then (1 : Int32) else 0) = some v → ((y2 = x → Q 1) ∧ (¬ y2 = x → Q 0)) := by
      intro z
      obtain z := Option.some.inj z
      rw [br_q, z]
      exact hq
    by_cases h1 : 7 ≤ y3
    · rw [if_pos h1] at e'
      exact ⟨fun _ => fin e', fun z => absurd h1 z⟩
    · rw [if_neg h1] at e'
      refine ⟨fun z => absurd z h1, fun _ => ?_⟩
      by_cases h2 : y2 < 0
      · rw [if_pos h2] at e'
        exact ⟨fun _ => fin e', fun z => absurd h2 z⟩
      · rw [if_neg h2] at e'
        refine ⟨fun z => absurd z h2, fun _ => ?_⟩
        by_cases h3 : y2 = x
        · rw [if_pos h3] at e'
          have := Option.some.inj e'
          refine ⟨fun _ => ⟨fun _ => by rw [this]; exact hq, fun z => absurd h3 z⟩, fun z => absurd h3 z⟩
        · rw [if_neg h3] at e'
          refine ⟨fun z => absurd z h3, fun _ => ?_⟩
          by_cases h4 : 0 ≤ y2.toInt ∧ y2.toInt < 7
          · rw [if_pos h4] at e'
            exact ⟨i_in.mpr h4, ih _ _ e'⟩
          · rw [if_neg h4] at e'; cases e'
theorem isf_mute : (List.range 7).all (fun c => isf 2 9 (nI c) 0 == some (bi (nI c = 2 ∨ nI c = 5))) = true := by decide +kernel
theorem w_isMute {a : Nat} {h : hp_T} {Q : Int32 → Prop} (hk : rg (hp_i h a 0) 0 6) (hq : Q (bi (hp_i h a 0 = 2 ∨ hp_i h a 0 = 5))) : wp_X0_isOf a 2 h Q := by
  obtain ⟨c, hc, e⟩ := rg_nI 6 hk rfl (by decide)
  refine ⟨9, w_isOf_L hq 9 _ 0 ?_⟩
  rw [e]
  have := List.all_eq_true.mp isf_mute c (List.mem_range.mpr (by omega))
  simpa using this
