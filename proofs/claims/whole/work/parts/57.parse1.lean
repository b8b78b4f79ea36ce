/-! ===== PURE: a text read: what both sides do ===== -/
abbrev dig (x : Int32) : Prop := 48 ≤ x ∧ x ≤ 57
/-- where it stands; 0: well so far, 1: a fault, 2: a digit too many stands there; the steps -/
abbrev sg : Type := Nat × Nat × List Int32
def psh (c : Int32) (s : sg) : sg := if s.2.1 = 0 then (s.1, 0, s.2.2 ++ [c]) else s
def opc (lev : Nat) (c : Int32) : Option Int32 := if lev = 5 then (if c = 124 then some (-11) else none) else if lev = 4 then (if c = 38 then some (-12) else none) else if lev = 3 then (if c = 60 then some (-13) else if c = 61 then some (-14) else if c = 62 then some (-15) else none) else if lev = 2 then (if c = 43 then some (-16) else if c = 45 then some (-17) else none) else (if c = 42 then some (-18) else if c = 47 then some (-19) else if c = 37 then some (-20) else none)
def lo (T : Nat → Int32) (L : Nat) (sub : Nat → List Int32 → sg) (lev : Nat) : Nat → sg → sg
  | 0, s => s
  | n + 1, s => if s.2.1 = 0 ∧ s.1 < L then (match opc lev (T s.1) with | some c => lo T L sub lev n (psh c (sub (s.1 + 1) s.2.2)) | none => s) else s
def nmb (T : Nat → Int32) (L : Nat) : Nat → Int32 → Nat → Int32 × Nat
  | 0, v, p => (v, p)
  | n + 1, v, p => if p < L ∧ dig (T p) then nmb T L n (10 * v + T p - 48) (p + 1) else (v, p)
def nmc (u : Nat) (c : Int32) : Int32 := if c = 107 then -1 else if c = 104 then -2 else if u = 0 then (if c = 109 then -3 else 0) else (if c = 100 then -4 else 0)
def clo (T : Nat → Int32) (L : Nat) (s : sg) : sg := if s.2.1 = 0 ∧ s.1 < L ∧ T s.1 = 41 then (s.1 + 1, 0, s.2.2) else (s.1, 1, s.2.2)
def nmq (T : Nat → Int32) (L : Nat) (out : List Int32) (r : Int32 × Nat) : sg := if r.2 < L ∧ dig (T r.2) then (r.2, 2, out) else (r.2, 0, out ++ [r.1])
def pq (T : Nat → Int32) (L u : Nat) (rc : Nat → Nat → Nat → List Int32 → sg) (o p : Nat) (out : List Int32) : sg :=
  if p < L then
    (if dig (T p) then nmq T L out (nmb T L 4 0 p)
    else if nmc u (T p) ≠ 0 then (p + 1, 0, out ++ [nmc u (T p)])
    else if T p = 33 ∧ o < 5 then psh (-21) (rc 0 (o + 1) (p + 1) out)
    else if T p = 40 ∧ o < 5 then clo T L (rc 5 (o + 1) (p + 1) out)
    else (p, 1, out))
  else (p, 1, out)
def ps (T : Nat → Int32) (L u : Nat) : Nat → Nat → Nat → Nat → List Int32 → sg
  | 0, _, _, p, out => (p, 1, out)
  | d + 1, lev, o, p, out => if lev = 0 then pq T L u (ps T L u d) o p out else lo T L (ps T L u d (lev - 1) o) lev (if lev = 3 then 1 else L) (ps T L u d (lev - 1) o p out)
/-- how a row of steps works on the pile -/
def dq (x : Int32) (d : Nat) : Nat := if -10 < x then d + 1 else if x = -21 then d else d - 1
def dpl : List Int32 → Nat → Nat
  | [], d => d
  | x :: l, d => dpl l (dq x d)
def okl (u : Nat) : List Int32 → Nat → Prop
  | [], _ => True
  | x :: l, d => ok_c u x d ∧ okl u l (dq x d)
def fgr (u : Nat) (e : List Int32) : Prop := ∀ d, okl u e d ∧ dpl e d = d + 1
theorem dpl_app {a b : List Int32} : ∀ d, dpl (a ++ b) d = dpl b (dpl a d) := by
  induction a with
  | nil => intro d; rfl
  | cons x l ih => intro d; exact ih (dq x d)
theorem okl_app {u : Nat} {a b : List Int32} : ∀ d, okl u (a ++ b) d ↔ okl u a d ∧ okl u b (dpl a d) := by
  induction a with
  | nil => intro d; exact ⟨fun h => ⟨trivial, h⟩, fun h => h.2⟩
  | cons x l ih =>
    intro d
    show (ok_c u x d ∧ okl u (l ++ b) (dq x d)) ↔ (ok_c u x d ∧ okl u l (dq x d)) ∧ okl u b (dpl l (dq x d))
    rw [ih (dq x d)]
    exact ⟨fun h => ⟨⟨h.1, h.2.1⟩, h.2.2⟩, fun h => ⟨h.1.1, h.1.2, h.2⟩⟩
abbrev bin (k : Int32) : Prop := k = -11 ∨ k = -12 ∨ k = -13 ∨ k = -14 ∨ k = -15 ∨ k = -16 ∨ k = -17 ∨ k = -18 ∨ k = -19 ∨ k = -20
theorem opc_bin {lev : Nat} {c k : Int32} (h : opc lev c = some k) : bin k := by
  unfold opc at h
  unfold bin
  split at h
  · split at h
    · obtain rfl := Option.some.inj h; simp
    · cases h
  split at h
  · split at h
    · obtain rfl := Option.some.inj h; simp
    · cases h
  split at h
  · split at h
    · obtain rfl := Option.some.inj h; simp
    split at h
    · obtain rfl := Option.some.inj h; simp
    split at h
    · obtain rfl := Option.some.inj h; simp
    · cases h
  split at h
  · split at h
    · obtain rfl := Option.some.inj h; simp
    split at h
    · obtain rfl := Option.some.inj h; simp
    · cases h
  · split at h
    · obtain rfl := Option.some.inj h; simp
    split at h
    · obtain rfl := Option.some.inj h; simp
    split at h
    · obtain rfl := Option.some.inj h; simp
    · cases h
theorem bin_dq {k : Int32} (h : bin k) (d : Nat) : dq k d = d - 1 := by
  rcases h with rfl | rfl | rfl | rfl | rfl | rfl | rfl | rfl | rfl | rfl <;> rfl
theorem fg_bin {u : Nat} {e f : List Int32} {k : Int32} (he : fgr u e) (hf : fgr u f) (hk : bin k) : fgr u (e ++ f ++ [k]) := by
  intro d
  obtain ⟨a1, a2⟩ := he d
  obtain ⟨b1, b2⟩ := hf (d + 1)
  have c : dpl (e ++ f) d = d + 1 + 1 := by rw [dpl_app, a2, b2]
  rw [okl_app, okl_app, dpl_app (a := e ++ f), c, a2]
  refine ⟨⟨⟨a1, b1⟩, Or.inr (Or.inr (Or.inr (Or.inr (Or.inr (Or.inr ⟨hk, by omega⟩))))), trivial⟩, ?_⟩
  show dq k (d + 1 + 1) = d + 1
  rw [bin_dq hk]
  omega
theorem fg_not {u : Nat} {e : List Int32} (he : fgr u e) : fgr u (e ++ [-21]) := by
  intro d
  obtain ⟨a1, a2⟩ := he d
  rw [okl_app, dpl_app, a2]
  exact ⟨⟨a1, Or.inr (Or.inr (Or.inr (Or.inr (Or.inr (Or.inl ⟨rfl, by omega⟩))))), trivial⟩, rfl⟩
theorem fg_one {u : Nat} {x : Int32} (hx : 0 ≤ x ∨ x = -1 ∨ x = -2 ∨ (u = 0 ∧ x = -3) ∨ (u = 1 ∧ x = -4)) : fgr u [x] := by
  intro d
  have hd : dq x d = d + 1 := by
    unfold dq
    rw [if_pos]
    rcases hx with h | rfl | rfl | ⟨-, rfl⟩ | ⟨-, rfl⟩
    · rw [i_lt]
      rw [i_le] at h
      have e0 : (0 : Int32).toInt = 0 := rfl
      have e1 : (-10 : Int32).toInt = -10 := rfl
      omega
    · decide
    · decide
    · decide
    · decide
  refine ⟨⟨?_, trivial⟩, hd⟩
  unfold ok_c
  rcases hx with h | h | h | h | h
  · exact Or.inl h
  · exact Or.inr (Or.inl h)
  · exact Or.inr (Or.inr (Or.inl h))
  · exact Or.inr (Or.inr (Or.inr (Or.inl h)))
  · exact Or.inr (Or.inr (Or.inr (Or.inr (Or.inl h))))
section PP
variable {T : Nat → Int32} {L u : Nat}
/-- what a part of a text leaves -/
def PRs (T : Nat → Int32) (L u p : Nat) (out : List Int32) (s : sg) : Prop := p ≤ s.1 ∧ s.1 ≤ L ∧ s.2.1 ≤ 2 ∧ (s.2.1 = 0 → p < s.1 ∧ ∃ e, s.2.2 = out ++ e ∧ fgr u e ∧ e.length + p ≤ s.1) ∧ (s.2.1 = 2 → s.1 < L ∧ dig (T s.1))
theorem PRs_1 {p : Nat} {out out' : List Int32} {q : Nat} (h1 : p ≤ q) (h2 : q ≤ L) : PRs T L u p out (q, 1, out') := ⟨h1, h2, (by decide : 1 ≤ 2), fun h => absurd h (by decide : ¬ (1 : Nat) = 0), fun h => absurd h (by decide : ¬ (1 : Nat) = 2)⟩
theorem p10 {n : Nat} (h : n ≤ 3) : (10 : Int) ^ (4 - n) = 10 * (10 : Int) ^ (4 - (n + 1)) ∧ (10 : Int) ^ (4 - (n + 1)) ≤ 1000 := by
  have : n = 0 ∨ n = 1 ∨ n = 2 ∨ n = 3 := by omega
  rcases this with rfl | rfl | rfl | rfl <;> decide
theorem nmb_ok : ∀ (n : Nat) (v : Int32) (p : Nat), n ≤ 4 → p ≤ L → 0 ≤ v.toInt → v.toInt < 10 ^ (4 - n) → p ≤ (nmb T L n v p).2 ∧ (nmb T L n v p).2 ≤ L ∧ 0 ≤ (nmb T L n v p).1.toInt := by
  intro n
  induction n with
  | zero => intro v p _ h1 h2 _; exact ⟨Nat.le_refl _, h1, h2⟩
  | succ n ih =>
    intro v p h0 h1 h2 h3
    unfold nmb
    by_cases g : p < L ∧ dig (T p)
    · rw [if_pos g]
      obtain ⟨g1, g2, g3⟩ := g
      rw [i_le] at g2 g3
      have e48 : (48 : Int32).toInt = 48 := rfl
      have e57 : (57 : Int32).toInt = 57 := rfl
      have e10 : (10 : Int32).toInt = 10 := rfl
      obtain ⟨p1, p2⟩ := p10 (n := n) (by omega)
      generalize (10 : Int) ^ (4 - (n + 1)) = B at p1 p2 h3
      have m1 : ((10 : Int32) * v).toInt = 10 * v.toInt := by
        rw [Int32.toInt_mul, e10, Int.bmod_def]
        omega
      have m2 : ((10 : Int32) * v + T p).toInt = 10 * v.toInt + (T p).toInt := by rw [i_add (by omega) (by omega), m1]
      have m3 : ((10 : Int32) * v + T p - 48).toInt = 10 * v.toInt + (T p).toInt - 48 := by rw [i_sub (by omega) (by omega), m2, e48]
      obtain ⟨i1, i2, i3⟩ := ih (10 * v + T p - 48) (p + 1) (by omega) (by omega) (by omega) (by rw [p1]; omega)
      exact ⟨by omega, i2, i3⟩
    · rw [if_neg g]
      exact ⟨Nat.le_refl _, h1, h2⟩
theorem nmq_ok {p : Nat} {out : List Int32} (hp : p < L) (hd : dig (T p)) : PRs T L u p out (nmq T L out (nmb T L 4 0 p)) := by
  obtain ⟨a1, a2, a3⟩ : p + 1 ≤ (nmb T L 4 0 p).2 ∧ (nmb T L 4 0 p).2 ≤ L ∧ 0 ≤ (nmb T L 4 0 p).1.toInt := by
    unfold nmb
    rw [if_pos ⟨hp, hd⟩]
    have e48 : (48 : Int32).toInt = 48 := rfl
    have e57 : (57 : Int32).toInt = 57 := rfl
    obtain ⟨g2, g3⟩ := hd
    rw [i_le] at g2 g3
    have z : (10 : Int32) * 0 + T p = T p := by rw [Int32.mul_zero, Int32.zero_add]
    have m3 : ((10 : Int32) * 0 + T p - 48).toInt = (T p).toInt - 48 := by rw [z, i_sub (by omega) (by omega), e48]
    exact nmb_ok 3 _ (p + 1) (by decide) hp (by omega) (by rw [m3]; show _ < (10 : Int); omega)
  unfold nmq
  by_cases g : (nmb T L 4 0 p).2 < L ∧ dig (T (nmb T L 4 0 p).2)
  · rw [if_pos g]
    exact ⟨by show p ≤ (nmb T L 4 0 p).2; omega, a2, (by decide : 2 ≤ 2), fun h => absurd h (by decide : ¬ (2 : Nat) = 0), fun _ => g⟩
  · rw [if_neg g]
    refine ⟨by show p ≤ (nmb T L 4 0 p).2; omega, a2, (by decide : 0 ≤ 2), fun _ => ⟨by show p < (nmb T L 4 0 p).2; omega, [(nmb T L 4 0 p).1], rfl, fg_one (Or.inl ?_), ?_⟩, fun h => absurd h (by decide : ¬ (0 : Nat) = 2)⟩
    · rw [i_le]; exact a3
    · show 1 + p ≤ (nmb T L 4 0 p).2
      omega
theorem nmc_ok {x : Int32} (h : nmc u x ≠ 0) (hu : u < 2) : nmc u x = -1 ∨ nmc u x = -2 ∨ (u = 0 ∧ nmc u x = -3) ∨ (u = 1 ∧ nmc u x = -4) := by
  unfold nmc at h ⊢
  split
  · exact Or.inl rfl
  · split
    · exact Or.inr (Or.inl rfl)
    · rename_i h1 h2
      rw [if_neg h1, if_neg h2] at h
      split
      · rename_i hu0
        rw [if_pos hu0] at h
        split
        · exact Or.inr (Or.inr (Or.inl ⟨hu0, rfl⟩))
        · rename_i h3
          rw [if_neg h3] at h
          exact absurd rfl h
      · rename_i hu0
        rw [if_neg hu0] at h
        split
        · exact Or.inr (Or.inr (Or.inr ⟨by omega, rfl⟩))
        · rename_i h3
          rw [if_neg h3] at h
          exact absurd rfl h
theorem psh_ok {p q : Nat} {out e : List Int32} {k : Int32} {s : sg} (hp : p < q) (he : fgr u e) (hl : e.length + p ≤ q) (hk : bin k) (h : PRs T L u (q + 1) (out ++ e) s) : PRs T L u p out (psh k s) := by
  obtain ⟨a1, a2, a3, a4, a5⟩ := h
  unfold psh
  by_cases g : s.2.1 = 0
  · rw [if_pos g]
    obtain ⟨b1, f, b2, b3, b4⟩ := a4 g
    refine ⟨by show p ≤ s.1; omega, a2, (by decide : 0 ≤ 2), fun _ => ⟨by show p < s.1; omega, e ++ f ++ [k], ?_, fg_bin he b3 hk, ?_⟩, fun h => absurd h (by decide : ¬ (0 : Nat) = 2)⟩
    · show s.2.2 ++ [k] = _
      rw [b2, List.append_assoc, List.append_assoc, List.append_assoc]
    · rw [List.length_append, List.length_append]
      show e.length + f.length + 1 + p ≤ s.1
      omega
  · rw [if_neg g]
    exact ⟨by omega, a2, a3, fun h => absurd h g, a5⟩
theorem pshn_ok {p : Nat} {out : List Int32} {s : sg} (h : PRs T L u (p + 1) out s) : PRs T L u p out (psh (-21) s) := by
  obtain ⟨a1, a2, a3, a4, a5⟩ := h
  unfold psh
  by_cases g : s.2.1 = 0
  · rw [if_pos g]
    obtain ⟨b1, f, b2, b3, b4⟩ := a4 g
    refine ⟨by show p ≤ s.1; omega, a2, (by decide : 0 ≤ 2), fun _ => ⟨by show p < s.1; omega, f ++ [-21], ?_, fg_not b3, ?_⟩, fun h => absurd h (by decide : ¬ (0 : Nat) = 2)⟩
    · show s.2.2 ++ [-21] = _
      rw [b2, List.append_assoc]
    · rw [List.length_append]
      show f.length + 1 + p ≤ s.1
      omega
  · rw [if_neg g]
    exact ⟨by omega, a2, a3, fun h => absurd h g, a5⟩
theorem clo_ok {p : Nat} {out : List Int32} {s : sg} (h : PRs T L u (p + 1) out s) : PRs T L u p out (clo T L s) := by
  obtain ⟨a1, a2, a3, a4, a5⟩ := h
  unfold clo
  by_cases g : s.2.1 = 0 ∧ s.1 < L ∧ T s.1 = 41
  · rw [if_pos g]
    obtain ⟨b1, f, b2, b3, b4⟩ := a4 g.1
    exact ⟨by show p ≤ s.1 + 1; omega, g.2.1, (by decide : 0 ≤ 2), fun _ => ⟨by show p < s.1 + 1; omega, f, b2, b3, by show f.length + p ≤ s.1 + 1; omega⟩, fun h => absurd h (by decide : ¬ (0 : Nat) = 2)⟩
  · rw [if_neg g]
    exact PRs_1 (by omega) a2
theorem lo_ok {sub : Nat → List Int32 → sg} {lev : Nat} (hs : ∀ p out, p ≤ L → PRs T L u p out (sub p out)) {p : Nat} {out : List Int32} : ∀ (n : Nat) (s : sg), PRs T L u p out s → PRs T L u p out (lo T L sub lev n s) := by
  intro n
  induction n with
  | zero => intro s h; exact h
  | succ n ih =>
    intro s h
    unfold lo
    by_cases g : s.2.1 = 0 ∧ s.1 < L
    · rw [if_pos g]
      split
      · rename_i c hc
        obtain ⟨b1, e, b2, b3, b4⟩ := h.2.2.2.1 g.1
        refine ih _ (psh_ok (q := s.1) (e := e) b1 b3 b4 (opc_bin hc) ?_)
        rw [← b2]
        exact hs _ _ g.2
      · exact h
    · rw [if_neg g]
      exact h
theorem ps_ok (hu : u < 2) : ∀ (d lev o p : Nat) (out : List Int32), p ≤ L → PRs T L u p out (ps T L u d lev o p out) := by
  intro d
  induction d with
  | zero => intro lev o p out hp; exact PRs_1 (Nat.le_refl _) hp
  | succ d ih =>
    intro lev o p out hp
    unfold ps
    by_cases g : lev = 0
    · rw [if_pos g]
      unfold pq
      by_cases g1 : p < L
      · rw [if_pos g1]
        by_cases g2 : dig (T p)
        · rw [if_pos g2]
          exact nmq_ok g1 g2
        · rw [if_neg g2]
          by_cases g3 : nmc u (T p) ≠ 0
          · rw [if_pos g3]
            exact ⟨by show p ≤ p + 1; omega, g1, (by decide : 0 ≤ 2), fun _ => ⟨by show p < p + 1; omega, [nmc u (T p)], rfl, fg_one (Or.inr (nmc_ok g3 hu)), by show 1 + p ≤ p + 1; omega⟩, fun h => absurd h (by decide : ¬ (0 : Nat) = 2)⟩
          · rw [if_neg g3]
            by_cases g4 : T p = 33 ∧ o < 5
            · rw [if_pos g4]
              exact pshn_ok (ih 0 (o + 1) (p + 1) out g1)
            · rw [if_neg g4]
              by_cases g5 : T p = 40 ∧ o < 5
              · rw [if_pos g5]
                exact clo_ok (ih 5 (o + 1) (p + 1) out g1)
              · rw [if_neg g5]
                exact PRs_1 (Nat.le_refl _) hp
      · rw [if_neg g1]
        exact PRs_1 (Nat.le_refl _) hp
    · rw [if_neg g]
      exact lo_ok (fun p out hp => ih (lev - 1) o p out hp) _ _ (ih (lev - 1) o p out hp)
end PP
