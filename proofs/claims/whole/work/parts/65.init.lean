/-! ===== PURE: what the constructors leave ===== -/
def pI (a j : Nat) : Int32 := if (a = 1 ∨ a = 31 ∨ a = 61) ∧ j = 9 then 4 else if (a = 1 ∨ a = 31 ∨ a = 61) ∧ j = 10 then 1 else if a = 106 ∧ j = 5 then 4 else if a = 106 ∧ j = 6 then 1 else 0
/-- n cells stand, k references of the first are set; L is wanting yet -/
def BP (n k : Nat) (L : List (Nat × Nat)) (h : hp_T) : Prop := hp_n h = n ∧ (∀ a j, a < n → hp_i h a j = if (a, j) ∈ L then 0 else pI a j) ∧ (∀ a j, 0 < a → a < n → hp_r h a j = if (a, j) ∈ L then none else ab_sr a j) ∧ (∀ a, a < n → ab_len (ab_k a) ≠ 0 → hp_l h a = ab_len (ab_k a)) ∧ ∀ j, hp_r h 0 j = if j < k then ab_sr 0 j else none
theorem sr_big {a j : Nat} (h : 24 ≤ j) : ab_sr a j = none ∧ pI a j = 0 := by
  constructor
  · unfold ab_sr
    repeat rw [if_neg (by omega)]
  · unfold pI
    repeat rw [if_neg (by omega)]
def chk (n : Nat) (J : List Nat) (m : Nat) (L L' : List (Nat × Nat)) : Bool := ((List.range 24).all fun j => J.contains j || ((ab_sr n j == none) && (pI n j == 0))) && (ab_len (ab_k n) == 0 || ab_len (ab_k n) == m) && decide (0 < n) && (J.map (fun j => (n, j)) ++ L == L')
theorem chk_ok {n m : Nat} {J : List Nat} {L L' : List (Nat × Nat)} (hc : chk n J m L L' = true) : (∀ j, ¬ (n, j) ∈ L' → ab_sr n j = none ∧ pI n j = 0) ∧ (ab_len (ab_k n) ≠ 0 → ab_len (ab_k n) = m) ∧ 0 < n ∧ ∀ a j, a ≠ n → ((a, j) ∈ L' ↔ (a, j) ∈ L) := by
  unfold chk at hc
  rw [Bool.and_eq_true, Bool.and_eq_true, Bool.and_eq_true] at hc
  obtain ⟨⟨⟨h1, h2⟩, h3⟩, h4⟩ := hc
  have e : J.map (fun j => (n, j)) ++ L = L' := by simpa using h4
  subst e
  refine ⟨fun j hj => ?_, fun g => ?_, of_decide_eq_true h3, fun a j ha => ?_⟩
  · by_cases g : j < 24
    · have := List.all_eq_true.mp h1 j (List.mem_range.mpr g)
      rw [Bool.or_eq_true] at this
      rcases this with w | w
      · exfalso
        apply hj
        rw [List.mem_append, List.mem_map]
        exact Or.inl ⟨j, by simpa using w, rfl⟩
      · rw [Bool.and_eq_true] at w
        exact ⟨by simpa using w.1, by simpa using w.2⟩
    · exact sr_big (by omega)
  · rw [Bool.or_eq_true] at h2
    rcases h2 with w | w
    · exact absurd (by simpa using w) g
    · simpa using w
  · rw [List.mem_append, List.mem_map]
    refine ⟨fun w => ?_, fun w => Or.inr w⟩
    rcases w with ⟨x, -, w⟩ | w
    · exact absurd (congrArg Prod.fst w).symm ha
    · exact w
section BK
variable {n k : Nat} {L : List (Nat × Nat)} {h : hp_T} {Q : hp_T → Prop}
theorem k_na {m m' : Nat} (J : List Nat) (L' : List (Nat × Nat)) (B : BP n k L h) (hc : chk n J m L L' = true) (hm : m' = m) (hq : ∀ h1, BP (n + 1) k L' h1 → Q h1) : ∀ h1, h1 = hp_na h m' → Q h1 := by
  obtain ⟨b1, b2, b3, b4, b5⟩ := B
  obtain ⟨c1, c2, c3, c4⟩ := chk_ok hc
  subst hm
  rintro h1 rfl
  refine hq _ ⟨by show hp_n h + 1 = _; rw [b1], fun a j ha => ?_, fun a j h0 ha => ?_, fun a ha hl => ?_, fun j => ?_⟩
  · by_cases g : a = n
    · subst g
      refine (if_pos (show a = hp_n h from b1.symm)).trans ?_
      by_cases w : (a, j) ∈ L'
      · rw [if_pos w]
      · rw [if_neg w, (c1 j w).2]
    · refine (if_neg (show ¬ a = hp_n h by omega)).trans ?_
      refine (b2 a j (by omega)).trans ?_
      by_cases w : (a, j) ∈ L
      · rw [if_pos w, if_pos ((c4 a j g).mpr w)]
      · rw [if_neg w, if_neg (fun z => w ((c4 a j g).mp z))]
  · by_cases g : a = n
    · subst g
      refine (if_pos (show a = hp_n h from b1.symm)).trans ?_
      by_cases w : (a, j) ∈ L'
      · rw [if_pos w]
      · rw [if_neg w, (c1 j w).1]
    · refine (if_neg (show ¬ a = hp_n h by omega)).trans ?_
      refine (b3 a j h0 (by omega)).trans ?_
      by_cases w : (a, j) ∈ L
      · rw [if_pos w, if_pos ((c4 a j g).mpr w)]
      · rw [if_neg w, if_neg (fun z => w ((c4 a j g).mp z))]
  · by_cases g : a = n
    · subst g
      refine (if_pos (show a = hp_n h from b1.symm)).trans ?_
      exact (c2 hl).symm
    · refine (if_neg (show ¬ a = hp_n h by omega)).trans ?_
      exact b4 a (by omega) hl
  · refine (if_neg (show ¬ 0 = hp_n h by omega)).trans ?_
    exact b5 j
theorem k_no (J : List Nat) (L' : List (Nat × Nat)) (B : BP n k L h) (hc : chk n J 0 L L' = true) (hq : ∀ h1, BP (n + 1) k L' h1 → Q h1) : ∀ h1, h1 = hp_no h → Q h1 := by
  obtain ⟨b1, b2, b3, b4, b5⟩ := B
  obtain ⟨c1, c2, c3, c4⟩ := chk_ok hc
  rintro h1 rfl
  refine hq _ ⟨by show hp_n h + 1 = _; rw [b1], fun a j ha => ?_, fun a j h0 ha => ?_, fun a ha hl => ?_, fun j => ?_⟩
  · by_cases g : a = n
    · subst g
      refine (if_pos (show a = hp_n h from b1.symm)).trans ?_
      by_cases w : (a, j) ∈ L'
      · rw [if_pos w]
      · rw [if_neg w, (c1 j w).2]
    · refine (if_neg (show ¬ a = hp_n h by omega)).trans ?_
      refine (b2 a j (by omega)).trans ?_
      by_cases w : (a, j) ∈ L
      · rw [if_pos w, if_pos ((c4 a j g).mpr w)]
      · rw [if_neg w, if_neg (fun z => w ((c4 a j g).mp z))]
  · by_cases g : a = n
    · subst g
      refine (if_pos (show a = hp_n h from b1.symm)).trans ?_
      by_cases w : (a, j) ∈ L'
      · rw [if_pos w]
      · rw [if_neg w, (c1 j w).1]
    · refine (if_neg (show ¬ a = hp_n h by omega)).trans ?_
      refine (b3 a j h0 (by omega)).trans ?_
      by_cases w : (a, j) ∈ L
      · rw [if_pos w, if_pos ((c4 a j g).mpr w)]
      · rw [if_neg w, if_neg (fun z => w ((c4 a j g).mp z))]
  · by_cases g : a = n
    · subst g
      exact absurd (c2 hl) hl
    · exact b4 a (by omega) hl
  · refine (if_neg (show ¬ 0 = hp_n h by omega)).trans ?_
    exact b5 j
def chs (n a j t : Nat) (L L' : List (Nat × Nat)) : Bool := decide (a < n) && decide (0 < a) && (ab_sr a j == some t) && (pI a j == 0) && (L.filter (fun x => !(x == (a, j))) == L')
theorem fil {a j : Nat} {L L' : List (Nat × Nat)} (h : (L.filter (fun x => !(x == (a, j))) == L') = true) : ∀ b i, (b, i) ∈ L' ↔ ((b, i) ∈ L ∧ ¬ (b = a ∧ i = j)) := by
  have e : L.filter (fun x => !(x == (a, j))) = L' := by simpa using h
  subst e
  intro b i
  rw [List.mem_filter]
  simp
theorem k_sr {a j j' t : Nat} {v : Option Nat} (L' : List (Nat × Nat)) (B : BP n k L h) (hc : chs n a j t L L' = true) (hj : j' = j) (hv : v = some t) (hq : ∀ h1, BP n k L' h1 → Q h1) : ∀ h1, h1 = hp_sr h a j' v → Q h1 := by
  obtain ⟨b1, b2, b3, b4, b5⟩ := B
  unfold chs at hc
  rw [Bool.and_eq_true, Bool.and_eq_true, Bool.and_eq_true, Bool.and_eq_true] at hc
  obtain ⟨⟨⟨⟨h1, h2⟩, h3⟩, h4⟩, h5⟩ := hc
  have c1 : a < n := of_decide_eq_true h1
  have c2 : 0 < a := of_decide_eq_true h2
  have c3 : ab_sr a j = some t := by simpa using h3
  have c4 : pI a j = 0 := by simpa using h4
  have c5 := fil h5
  subst hj
  subst hv
  rintro h1 rfl
  refine hq _ ⟨b1, fun b i hb => ?_, fun b i h0 hb => ?_, b4, fun i => ?_⟩
  · show hp_i h b i = _
    rw [b2 b i hb]
    by_cases w : (b, i) ∈ L
    · rw [if_pos w]
      by_cases g : b = a ∧ i = j'
      · rw [if_neg (fun z => ((c5 b i).mp z).2 g)]
        obtain ⟨rfl, rfl⟩ := g
        exact c4.symm
      · rw [if_pos ((c5 b i).mpr ⟨w, g⟩)]
    · rw [if_neg w, if_neg (fun z => w ((c5 b i).mp z).1)]
  · show (if b = a ∧ i = j' then some t else h.2.1 b i) = _
    by_cases g : b = a ∧ i = j'
    · rw [if_pos g, if_neg (fun z => ((c5 b i).mp z).2 g)]
      obtain ⟨rfl, rfl⟩ := g
      exact c3.symm
    · rw [if_neg g]
      refine (b3 b i h0 hb).trans ?_
      by_cases w : (b, i) ∈ L
      · rw [if_pos w, if_pos ((c5 b i).mpr ⟨w, g⟩)]
      · rw [if_neg w, if_neg (fun z => w ((c5 b i).mp z).1)]
  · refine (if_neg (by omega)).trans (b5 i)
theorem k_sr0 {t : Nat} {v : Option Nat} (B : BP n k L h) (hc : ab_sr 0 k = some t) (hv : v = some t) (hq : ∀ h1, BP n (k + 1) L h1 → Q h1) : ∀ h1, h1 = hp_sr h 0 k v → Q h1 := by
  obtain ⟨b1, b2, b3, b4, b5⟩ := B
  subst hv
  rintro h1 rfl
  refine hq _ ⟨b1, b2, fun b i h0 hb => (if_neg (by omega)).trans (b3 b i h0 hb), b4, fun i => ?_⟩
  show (if 0 = 0 ∧ i = k then some t else h.2.1 0 i) = _
  by_cases g : i = k
  · subst g
    rw [if_pos ⟨rfl, rfl⟩, if_pos (by omega), hc]
  · rw [if_neg (fun z => g z.2)]
    refine (b5 i).trans ?_
    by_cases w : i < k
    · rw [if_pos w, if_pos (by omega)]
    · rw [if_neg w, if_neg (by omega)]
def chi (n a j : Nat) (v : Int32) (L L' : List (Nat × Nat)) : Bool := decide (a < n) && decide (0 < a) && (ab_sr a j == none) && (pI a j == v) && (L.filter (fun x => !(x == (a, j))) == L')
theorem k_si {a j : Nat} {v : Int32} (L' : List (Nat × Nat)) (B : BP n k L h) (hc : chi n a j v L L' = true) (hq : ∀ h1, BP n k L' h1 → Q h1) : ∀ h1, h1 = hp_si h a j v → Q h1 := by
  obtain ⟨b1, b2, b3, b4, b5⟩ := B
  unfold chi at hc
  rw [Bool.and_eq_true, Bool.and_eq_true, Bool.and_eq_true, Bool.and_eq_true] at hc
  obtain ⟨⟨⟨⟨h1, h2⟩, h3⟩, h4⟩, h5⟩ := hc
  have c1 : a < n := of_decide_eq_true h1
  have c2 : 0 < a := of_decide_eq_true h2
  have c3 : ab_sr a j = none := by simpa using h3
  have c4 : pI a j = v := by simpa using h4
  have c5 := fil h5
  rintro h1 rfl
  refine hq _ ⟨b1, fun b i hb => ?_, fun b i h0 hb => ?_, b4, b5⟩
  · rw [hp_i_si]
    by_cases g : b = a ∧ i = j
    · rw [if_pos g, if_neg (fun z => ((c5 b i).mp z).2 g)]
      obtain ⟨rfl, rfl⟩ := g
      exact c4.symm
    · rw [if_neg g, b2 b i hb]
      by_cases w : (b, i) ∈ L
      · rw [if_pos w, if_pos ((c5 b i).mpr ⟨w, g⟩)]
      · rw [if_neg w, if_neg (fun z => w ((c5 b i).mp z).1)]
  · show hp_r h b i = _
    rw [b3 b i h0 hb]
    by_cases w : (b, i) ∈ L
    · rw [if_pos w]
      by_cases g : b = a ∧ i = j
      · rw [if_neg (fun z => ((c5 b i).mp z).2 g)]
        obtain ⟨rfl, rfl⟩ := g
        exact c3.symm
      · rw [if_pos ((c5 b i).mpr ⟨w, g⟩)]
    · rw [if_neg w, if_neg (fun z => w ((c5 b i).mp z).1)]
def chr2 (n a j t : Nat) (L : List (Nat × Nat)) : Bool := decide (a < n) && decide (0 < a) && (ab_sr a j == some t) && !(L.contains (a, j))
theorem BP.r {a j t : Nat} (B : BP n k L h) (hc : chr2 n a j t L = true) : hp_r h a j = some t := by
  unfold chr2 at hc
  rw [Bool.and_eq_true, Bool.and_eq_true, Bool.and_eq_true] at hc
  obtain ⟨⟨⟨h1, h2⟩, h3⟩, h4⟩ := hc
  rw [B.2.2.1 a j (of_decide_eq_true h2) (of_decide_eq_true h1), if_neg (by simpa using h4)]
  simpa using h3
theorem BP.l {a m : Nat} (B : BP n k L h) (hc : (decide (a < n) && (ab_len (ab_k a) == m) && !(m == 0)) = true) : hp_l h a = m := by
  rw [Bool.and_eq_true, Bool.and_eq_true] at hc
  obtain ⟨⟨h1, h2⟩, h3⟩ := hc
  have e : ab_len (ab_k a) = m := by simpa using h2
  have e3 : ¬ m = 0 := by simpa using h3
  rw [B.2.2.2.1 a (of_decide_eq_true h1) (by rw [e]; exact e3)]
  exact e
theorem BP.lt {a : Nat} (B : BP n k L h) (hc : a < n) : a < hp_n h := by rw [B.1]; exact hc
theorem BP.ltn {a : Nat} {n' k' : Nat} {L' : List (Nat × Nat)} {h' : hp_T} (B : BP n k L h) (B' : BP n' k' L' h') (hc : n' < n) : hp_n h' < hp_n h := by rw [B.1, B'.1]; exact hc
theorem BP.v {a m : Nat} {y : Int32} (B : BP n k L h) (hc : (decide (a < n) && (ab_len (ab_k a) == m) && !(m == 0)) = true) (hy : vp_in y m) : vp_in y (hp_l h a) := by rw [B.l hc]; exact hy
end BK
theorem i_ship1 {k : Nat} {h : hp_T} {Q : hp_T → Prop} (B0 : BP 2 k [(1, 0), (1, 2), (1, 3), (1, 7), (1, 9), (1, 10), (1, 11), (1, 13), (1, 14)] h) (hq : ∀ h1, BP 31 k [] h1 → Q h1) : wp_X2_init 1 h Q := by
  unfold wp_X2_init
  refine ⟨(by rw [B0.1]; decide), k_na (n := 2) (m := 6) [0, 1, 2, 3, 4, 5] [(2, 0), (2, 1), (2, 2), (2, 3), (2, 4), (2, 5), (1, 0), (1, 2), (1, 3), (1, 7), (1, 9), (1, 10), (1, 11), (1, 13), (1, 14)] B0 (by decide +kernel) rfl (fun h1 B1 => ?_)⟩
  refine ⟨(B1.lt (by decide)), k_sr (n := 3) (a := 1) (j := 0) (t := 2) [(2, 0), (2, 1), (2, 2), (2, 3), (2, 4), (2, 5), (1, 2), (1, 3), (1, 7), (1, 9), (1, 10), (1, 11), (1, 13), (1, 14)] B1 (by decide +kernel) rfl (by rw [B0.1]) (fun h2 B2 => ?_)⟩
  refine ⟨(by rw [B2.1]; decide), k_na (n := 3) (m := 12) [] [(2, 0), (2, 1), (2, 2), (2, 3), (2, 4), (2, 5), (1, 2), (1, 3), (1, 7), (1, 9), (1, 10), (1, 11), (1, 13), (1, 14)] B2 (by decide +kernel) rfl (fun h3 B3 => ?_)⟩
  refine ⟨(B3.lt (by decide)), k_sr (n := 4) (a := 1) (j := 2) (t := 3) [(2, 0), (2, 1), (2, 2), (2, 3), (2, 4), (2, 5), (1, 3), (1, 7), (1, 9), (1, 10), (1, 11), (1, 13), (1, 14)] B3 (by decide +kernel) rfl (by rw [B2.1]) (fun h4 B4 => ?_)⟩
  refine ⟨(by rw [B4.1]; decide), k_na (n := 4) (m := 12) [] [(2, 0), (2, 1), (2, 2), (2, 3), (2, 4), (2, 5), (1, 3), (1, 7), (1, 9), (1, 10), (1, 11), (1, 13), (1, 14)] B4 (by decide +kernel) rfl (fun h5 B5 => ?_)⟩
  refine ⟨(B5.lt (by decide)), k_sr (n := 5) (a := 1) (j := 3) (t := 4) [(2, 0), (2, 1), (2, 2), (2, 3), (2, 4), (2, 5), (1, 7), (1, 9), (1, 10), (1, 11), (1, 13), (1, 14)] B5 (by decide +kernel) rfl (by rw [B4.1]) (fun h6 B6 => ?_)⟩
  refine ⟨(by rw [B6.1]; decide), k_na (n := 5) (m := 4) [0, 1, 2, 3] [(5, 0), (5, 1), (5, 2), (5, 3), (2, 0), (2, 1), (2, 2), (2, 3), (2, 4), (2, 5), (1, 7), (1, 9), (1, 10), (1, 11), (1, 13), (1, 14)] B6 (by decide +kernel) rfl (fun h7 B7 => ?_)⟩
  refine ⟨(B7.lt (by decide)), k_sr (n := 6) (a := 1) (j := 7) (t := 5) [(5, 0), (5, 1), (5, 2), (5, 3), (2, 0), (2, 1), (2, 2), (2, 3), (2, 4), (2, 5), (1, 9), (1, 10), (1, 11), (1, 13), (1, 14)] B7 (by decide +kernel) rfl (by rw [B6.1]) (fun h8 B8 => ?_)⟩
  refine ⟨(B8.lt (by decide)), k_si (n := 6) (a := 1) (j := 9) (v := 4) [(5, 0), (5, 1), (5, 2), (5, 3), (2, 0), (2, 1), (2, 2), (2, 3), (2, 4), (2, 5), (1, 10), (1, 11), (1, 13), (1, 14)] B8 (by decide +kernel) (fun h9 B9 => ?_)⟩
  refine ⟨(B9.lt (by decide)), k_si (n := 6) (a := 1) (j := 10) (v := 1) [(5, 0), (5, 1), (5, 2), (5, 3), (2, 0), (2, 1), (2, 2), (2, 3), (2, 4), (2, 5), (1, 11), (1, 13), (1, 14)] B9 (by decide +kernel) (fun h10 B10 => ?_)⟩
  refine ⟨(by rw [B10.1]; decide), k_na (n := 6) (m := 60) [] [(5, 0), (5, 1), (5, 2), (5, 3), (2, 0), (2, 1), (2, 2), (2, 3), (2, 4), (2, 5), (1, 11), (1, 13), (1, 14)] B10 (by decide +kernel) rfl (fun h11 B11 => ?_)⟩
  refine ⟨(B11.lt (by decide)), k_sr (n := 7) (a := 1) (j := 11) (t := 6) [(5, 0), (5, 1), (5, 2), (5, 3), (2, 0), (2, 1), (2, 2), (2, 3), (2, 4), (2, 5), (1, 13), (1, 14)] B11 (by decide +kernel) rfl (by rw [B10.1]) (fun h12 B12 => ?_)⟩
  refine ⟨(by rw [B12.1]; decide), k_na (n := 7) (m := 2) [] [(5, 0), (5, 1), (5, 2), (5, 3), (2, 0), (2, 1), (2, 2), (2, 3), (2, 4), (2, 5), (1, 13), (1, 14)] B12 (by decide +kernel) rfl (fun h13 B13 => ?_)⟩
  refine ⟨(B13.lt (by decide)), k_sr (n := 8) (a := 1) (j := 13) (t := 7) [(5, 0), (5, 1), (5, 2), (5, 3), (2, 0), (2, 1), (2, 2), (2, 3), (2, 4), (2, 5), (1, 14)] B13 (by decide +kernel) rfl (by rw [B12.1]) (fun h14 B14 => ?_)⟩
  refine ⟨(by rw [B14.1]; decide), k_na (n := 8) (m := 24) [] [(5, 0), (5, 1), (5, 2), (5, 3), (2, 0), (2, 1), (2, 2), (2, 3), (2, 4), (2, 5), (1, 14)] B14 (by decide +kernel) rfl (fun h15 B15 => ?_)⟩
  refine ⟨(B15.lt (by decide)), k_sr (n := 9) (a := 1) (j := 14) (t := 8) [(5, 0), (5, 1), (5, 2), (5, 3), (2, 0), (2, 1), (2, 2), (2, 3), (2, 4), (2, 5)] B15 (by decide +kernel) rfl (by rw [B14.1]) (fun h16 B16 => ?_)⟩
  refine ⟨0 + 1 + 1 + 1 + 1 + 1 + 1 + 1, ?_⟩
  unfold wp_X2_init_L73
  refine br_n (by decide) ⟨(B16.lt (by decide)), 2, B16.r (by decide +kernel), (by rw [B16.1]; decide), (by decide), (by decide), ?_⟩
  refine k_no (n := 9) [5, 6] [(9, 5), (9, 6), (5, 0), (5, 1), (5, 2), (5, 3), (2, 0), (2, 1), (2, 2), (2, 3), (2, 4), (2, 5)] B16 (by decide +kernel) (fun h17 B17 => ?_)
  rw [B16.1]
  refine ⟨(B17.lt (by decide)), (by decide), (by decide), ?_⟩
  unfold wp_X0_init
  refine ⟨(by rw [B17.1]; decide), k_na (n := 10) (m := 6) [] [(9, 5), (9, 6), (5, 0), (5, 1), (5, 2), (5, 3), (2, 0), (2, 1), (2, 2), (2, 3), (2, 4), (2, 5)] B17 (by decide +kernel) rfl (fun h18 B18 => ?_)⟩
  refine ⟨(B18.lt (by decide)), k_sr (n := 11) (a := 9) (j := 5) (t := 10) [(9, 6), (5, 0), (5, 1), (5, 2), (5, 3), (2, 0), (2, 1), (2, 2), (2, 3), (2, 4), (2, 5)] B18 (by decide +kernel) rfl (by rw [B17.1]) (fun h19 B19 => ?_)⟩
  refine ⟨(by rw [B19.1]; decide), k_na (n := 11) (m := 6) [] [(9, 6), (5, 0), (5, 1), (5, 2), (5, 3), (2, 0), (2, 1), (2, 2), (2, 3), (2, 4), (2, 5)] B19 (by decide +kernel) rfl (fun h20 B20 => ?_)⟩
  refine ⟨(B20.lt (by decide)), k_sr (n := 12) (a := 9) (j := 6) (t := 11) [(5, 0), (5, 1), (5, 2), (5, 3), (2, 0), (2, 1), (2, 2), (2, 3), (2, 4), (2, 5)] B20 (by decide +kernel) rfl (by rw [B19.1]) (fun h21 B21 => ?_)⟩
  refine ⟨(by decide), (B21.lt (by decide)), (B21.v (m := 6) (by decide +kernel) (by unfold vp_in; decide)), (B21.lt (by decide)), k_sr (n := 12) (a := 2) (j := 0) (t := 9) [(5, 0), (5, 1), (5, 2), (5, 3), (2, 1), (2, 2), (2, 3), (2, 4), (2, 5)] B21 (by decide +kernel) (by decide +kernel) rfl (fun h22 B22 => ?_)⟩
  unfold wp_X2_init_L73
  refine br_n (by decide) ⟨(B22.lt (by decide)), 2, B22.r (by decide +kernel), (by rw [B22.1]; decide), (by decide), (by decide), ?_⟩
  refine k_no (n := 12) [5, 6] [(12, 5), (12, 6), (5, 0), (5, 1), (5, 2), (5, 3), (2, 1), (2, 2), (2, 3), (2, 4), (2, 5)] B22 (by decide +kernel) (fun h23 B23 => ?_)
  rw [B22.1]
  refine ⟨(B23.lt (by decide)), (by decide), (by decide), ?_⟩
  unfold wp_X0_init
  refine ⟨(by rw [B23.1]; decide), k_na (n := 13) (m := 6) [] [(12, 5), (12, 6), (5, 0), (5, 1), (5, 2), (5, 3), (2, 1), (2, 2), (2, 3), (2, 4), (2, 5)] B23 (by decide +kernel) rfl (fun h24 B24 => ?_)⟩
  refine ⟨(B24.lt (by decide)), k_sr (n := 14) (a := 12) (j := 5) (t := 13) [(12, 6), (5, 0), (5, 1), (5, 2), (5, 3), (2, 1), (2, 2), (2, 3), (2, 4), (2, 5)] B24 (by decide +kernel) rfl (by rw [B23.1]) (fun h25 B25 => ?_)⟩
  refine ⟨(by rw [B25.1]; decide), k_na (n := 14) (m := 6) [] [(12, 6), (5, 0), (5, 1), (5, 2), (5, 3), (2, 1), (2, 2), (2, 3), (2, 4), (2, 5)] B25 (by decide +kernel) rfl (fun h26 B26 => ?_)⟩
  refine ⟨(B26.lt (by decide)), k_sr (n := 15) (a := 12) (j := 6) (t := 14) [(5, 0), (5, 1), (5, 2), (5, 3), (2, 1), (2, 2), (2, 3), (2, 4), (2, 5)] B26 (by decide +kernel) rfl (by rw [B25.1]) (fun h27 B27 => ?_)⟩
  refine ⟨(by decide), (B27.lt (by decide)), (B27.v (m := 6) (by decide +kernel) (by unfold vp_in; decide)), (B27.lt (by decide)), k_sr (n := 15) (a := 2) (j := 1) (t := 12) [(5, 0), (5, 1), (5, 2), (5, 3), (2, 2), (2, 3), (2, 4), (2, 5)] B27 (by decide +kernel) (by decide +kernel) rfl (fun h28 B28 => ?_)⟩
  unfold wp_X2_init_L73
  refine br_n (by decide) ⟨(B28.lt (by decide)), 2, B28.r (by decide +kernel), (by rw [B28.1]; decide), (by decide), (by decide), ?_⟩
  refine k_no (n := 15) [5, 6] [(15, 5), (15, 6), (5, 0), (5, 1), (5, 2), (5, 3), (2, 2), (2, 3), (2, 4), (2, 5)] B28 (by decide +kernel) (fun h29 B29 => ?_)
  rw [B28.1]
  refine ⟨(B29.lt (by decide)), (by decide), (by decide), ?_⟩
  unfold wp_X0_init
  refine ⟨(by rw [B29.1]; decide), k_na (n := 16) (m := 6) [] [(15, 5), (15, 6), (5, 0), (5, 1), (5, 2), (5, 3), (2, 2), (2, 3), (2, 4), (2, 5)] B29 (by decide +kernel) rfl (fun h30 B30 => ?_)⟩
  refine ⟨(B30.lt (by decide)), k_sr (n := 17) (a := 15) (j := 5) (t := 16) [(15, 6), (5, 0), (5, 1), (5, 2), (5, 3), (2, 2), (2, 3), (2, 4), (2, 5)] B30 (by decide +kernel) rfl (by rw [B29.1]) (fun h31 B31 => ?_)⟩
  refine ⟨(by rw [B31.1]; decide), k_na (n := 17) (m := 6) [] [(15, 6), (5, 0), (5, 1), (5, 2), (5, 3), (2, 2), (2, 3), (2, 4), (2, 5)] B31 (by decide +kernel) rfl (fun h32 B32 => ?_)⟩
  refine ⟨(B32.lt (by decide)), k_sr (n := 18) (a := 15) (j := 6) (t := 17) [(5, 0), (5, 1), (5, 2), (5, 3), (2, 2), (2, 3), (2, 4), (2, 5)] B32 (by decide +kernel) rfl (by rw [B31.1]) (fun h33 B33 => ?_)⟩
  refine ⟨(by decide), (B33.lt (by decide)), (B33.v (m := 6) (by decide +kernel) (by unfold vp_in; decide)), (B33.lt (by decide)), k_sr (n := 18) (a := 2) (j := 2) (t := 15) [(5, 0), (5, 1), (5, 2), (5, 3), (2, 3), (2, 4), (2, 5)] B33 (by decide +kernel) (by decide +kernel) rfl (fun h34 B34 => ?_)⟩
  unfold wp_X2_init_L73
  refine br_n (by decide) ⟨(B34.lt (by decide)), 2, B34.r (by decide +kernel), (by rw [B34.1]; decide), (by decide), (by decide), ?_⟩
  refine k_no (n := 18) [5, 6] [(18, 5), (18, 6), (5, 0), (5, 1), (5, 2), (5, 3), (2, 3), (2, 4), (2, 5)] B34 (by decide +kernel) (fun h35 B35 => ?_)
  rw [B34.1]
  refine ⟨(B35.lt (by decide)), (by decide), (by decide), ?_⟩
  unfold wp_X0_init
  refine ⟨(by rw [B35.1]; decide), k_na (n := 19) (m := 6) [] [(18, 5), (18, 6), (5, 0), (5, 1), (5, 2), (5, 3), (2, 3), (2, 4), (2, 5)] B35 (by decide +kernel) rfl (fun h36 B36 => ?_)⟩
  refine ⟨(B36.lt (by decide)), k_sr (n := 20) (a := 18) (j := 5) (t := 19) [(18, 6), (5, 0), (5, 1), (5, 2), (5, 3), (2, 3), (2, 4), (2, 5)] B36 (by decide +kernel) rfl (by rw [B35.1]) (fun h37 B37 => ?_)⟩
  refine ⟨(by rw [B37.1]; decide), k_na (n := 20) (m := 6) [] [(18, 6), (5, 0), (5, 1), (5, 2), (5, 3), (2, 3), (2, 4), (2, 5)] B37 (by decide +kernel) rfl (fun h38 B38 => ?_)⟩
  refine ⟨(B38.lt (by decide)), k_sr (n := 21) (a := 18) (j := 6) (t := 20) [(5, 0), (5, 1), (5, 2), (5, 3), (2, 3), (2, 4), (2, 5)] B38 (by decide +kernel) rfl (by rw [B37.1]) (fun h39 B39 => ?_)⟩
  refine ⟨(by decide), (B39.lt (by decide)), (B39.v (m := 6) (by decide +kernel) (by unfold vp_in; decide)), (B39.lt (by decide)), k_sr (n := 21) (a := 2) (j := 3) (t := 18) [(5, 0), (5, 1), (5, 2), (5, 3), (2, 4), (2, 5)] B39 (by decide +kernel) (by decide +kernel) rfl (fun h40 B40 => ?_)⟩
  unfold wp_X2_init_L73
  refine br_n (by decide) ⟨(B40.lt (by decide)), 2, B40.r (by decide +kernel), (by rw [B40.1]; decide), (by decide), (by decide), ?_⟩
  refine k_no (n := 21) [5, 6] [(21, 5), (21, 6), (5, 0), (5, 1), (5, 2), (5, 3), (2, 4), (2, 5)] B40 (by decide +kernel) (fun h41 B41 => ?_)
  rw [B40.1]
  refine ⟨(B41.lt (by decide)), (by decide), (by decide), ?_⟩
  unfold wp_X0_init
  refine ⟨(by rw [B41.1]; decide), k_na (n := 22) (m := 6) [] [(21, 5), (21, 6), (5, 0), (5, 1), (5, 2), (5, 3), (2, 4), (2, 5)] B41 (by decide +kernel) rfl (fun h42 B42 => ?_)⟩
  refine ⟨(B42.lt (by decide)), k_sr (n := 23) (a := 21) (j := 5) (t := 22) [(21, 6), (5, 0), (5, 1), (5, 2), (5, 3), (2, 4), (2, 5)] B42 (by decide +kernel) rfl (by rw [B41.1]) (fun h43 B43 => ?_)⟩
  refine ⟨(by rw [B43.1]; decide), k_na (n := 23) (m := 6) [] [(21, 6), (5, 0), (5, 1), (5, 2), (5, 3), (2, 4), (2, 5)] B43 (by decide +kernel) rfl (fun h44 B44 => ?_)⟩
  refine ⟨(B44.lt (by decide)), k_sr (n := 24) (a := 21) (j := 6) (t := 23) [(5, 0), (5, 1), (5, 2), (5, 3), (2, 4), (2, 5)] B44 (by decide +kernel) rfl (by rw [B43.1]) (fun h45 B45 => ?_)⟩
  refine ⟨(by decide), (B45.lt (by decide)), (B45.v (m := 6) (by decide +kernel) (by unfold vp_in; decide)), (B45.lt (by decide)), k_sr (n := 24) (a := 2) (j := 4) (t := 21) [(5, 0), (5, 1), (5, 2), (5, 3), (2, 5)] B45 (by decide +kernel) (by decide +kernel) rfl (fun h46 B46 => ?_)⟩
  unfold wp_X2_init_L73
  refine br_n (by decide) ⟨(B46.lt (by decide)), 2, B46.r (by decide +kernel), (by rw [B46.1]; decide), (by decide), (by decide), ?_⟩
  refine k_no (n := 24) [5, 6] [(24, 5), (24, 6), (5, 0), (5, 1), (5, 2), (5, 3), (2, 5)] B46 (by decide +kernel) (fun h47 B47 => ?_)
  rw [B46.1]
  refine ⟨(B47.lt (by decide)), (by decide), (by decide), ?_⟩
  unfold wp_X0_init
  refine ⟨(by rw [B47.1]; decide), k_na (n := 25) (m := 6) [] [(24, 5), (24, 6), (5, 0), (5, 1), (5, 2), (5, 3), (2, 5)] B47 (by decide +kernel) rfl (fun h48 B48 => ?_)⟩
  refine ⟨(B48.lt (by decide)), k_sr (n := 26) (a := 24) (j := 5) (t := 25) [(24, 6), (5, 0), (5, 1), (5, 2), (5, 3), (2, 5)] B48 (by decide +kernel) rfl (by rw [B47.1]) (fun h49 B49 => ?_)⟩
  refine ⟨(by rw [B49.1]; decide), k_na (n := 26) (m := 6) [] [(24, 6), (5, 0), (5, 1), (5, 2), (5, 3), (2, 5)] B49 (by decide +kernel) rfl (fun h50 B50 => ?_)⟩
  refine ⟨(B50.lt (by decide)), k_sr (n := 27) (a := 24) (j := 6) (t := 26) [(5, 0), (5, 1), (5, 2), (5, 3), (2, 5)] B50 (by decide +kernel) rfl (by rw [B49.1]) (fun h51 B51 => ?_)⟩
  refine ⟨(by decide), (B51.lt (by decide)), (B51.v (m := 6) (by decide +kernel) (by unfold vp_in; decide)), (B51.lt (by decide)), k_sr (n := 27) (a := 2) (j := 5) (t := 24) [(5, 0), (5, 1), (5, 2), (5, 3)] B51 (by decide +kernel) (by decide +kernel) rfl (fun h52 B52 => ?_)⟩
  unfold wp_X2_init_L73
  refine br_y (by decide) ?_
  refine ⟨0 + 1 + 1 + 1 + 1 + 1, ?_⟩
  unfold wp_X2_init_L100
  refine br_n (by decide) ⟨(B52.lt (by decide)), 5, B52.r (by decide +kernel), (by rw [B52.1]; decide), (by decide), (by decide), ?_⟩
  refine k_no (n := 27) [] [(5, 0), (5, 1), (5, 2), (5, 3)] B52 (by decide +kernel) (fun h53 B53 => ?_)
  rw [B52.1]
  refine ⟨(B53.lt (by decide)), (by decide), (by decide), ?_⟩
  unfold wp_X3_init
  refine ⟨(by decide), (B53.lt (by decide)), (B53.v (m := 4) (by decide +kernel) (by unfold vp_in; decide)), (B53.lt (by decide)), k_sr (n := 28) (a := 5) (j := 0) (t := 27) [(5, 1), (5, 2), (5, 3)] B53 (by decide +kernel) (by decide +kernel) rfl (fun h54 B54 => ?_)⟩
  unfold wp_X2_init_L100
  refine br_n (by decide) ⟨(B54.lt (by decide)), 5, B54.r (by decide +kernel), (by rw [B54.1]; decide), (by decide), (by decide), ?_⟩
  refine k_no (n := 28) [] [(5, 1), (5, 2), (5, 3)] B54 (by decide +kernel) (fun h55 B55 => ?_)
  rw [B54.1]
  refine ⟨(B55.lt (by decide)), (by decide), (by decide), ?_⟩
  unfold wp_X3_init
  refine ⟨(by decide), (B55.lt (by decide)), (B55.v (m := 4) (by decide +kernel) (by unfold vp_in; decide)), (B55.lt (by decide)), k_sr (n := 29) (a := 5) (j := 1) (t := 28) [(5, 2), (5, 3)] B55 (by decide +kernel) (by decide +kernel) rfl (fun h56 B56 => ?_)⟩
  unfold wp_X2_init_L100
  refine br_n (by decide) ⟨(B56.lt (by decide)), 5, B56.r (by decide +kernel), (by rw [B56.1]; decide), (by decide), (by decide), ?_⟩
  refine k_no (n := 29) [] [(5, 2), (5, 3)] B56 (by decide +kernel) (fun h57 B57 => ?_)
  rw [B56.1]
  refine ⟨(B57.lt (by decide)), (by decide), (by decide), ?_⟩
  unfold wp_X3_init
  refine ⟨(by decide), (B57.lt (by decide)), (B57.v (m := 4) (by decide +kernel) (by unfold vp_in; decide)), (B57.lt (by decide)), k_sr (n := 30) (a := 5) (j := 2) (t := 29) [(5, 3)] B57 (by decide +kernel) (by decide +kernel) rfl (fun h58 B58 => ?_)⟩
  unfold wp_X2_init_L100
  refine br_n (by decide) ⟨(B58.lt (by decide)), 5, B58.r (by decide +kernel), (by rw [B58.1]; decide), (by decide), (by decide), ?_⟩
  refine k_no (n := 30) [] [(5, 3)] B58 (by decide +kernel) (fun h59 B59 => ?_)
  rw [B58.1]
  refine ⟨(B59.lt (by decide)), (by decide), (by decide), ?_⟩
  unfold wp_X3_init
  refine ⟨(by decide), (B59.lt (by decide)), (B59.v (m := 4) (by decide +kernel) (by unfold vp_in; decide)), (B59.lt (by decide)), k_sr (n := 31) (a := 5) (j := 3) (t := 30) [] B59 (by decide +kernel) (by decide +kernel) rfl (fun h60 B60 => ?_)⟩
  unfold wp_X2_init_L100
  exact br_y (by decide) ⟨(by decide), (by decide), hq _ B60⟩
theorem i_ship31 {k : Nat} {h : hp_T} {Q : hp_T → Prop} (B0 : BP 32 k [(31, 0), (31, 2), (31, 3), (31, 7), (31, 9), (31, 10), (31, 11), (31, 13), (31, 14)] h) (hq : ∀ h1, BP 61 k [] h1 → Q h1) : wp_X2_init 31 h Q := by
  unfold wp_X2_init
  refine ⟨(by rw [B0.1]; decide), k_na (n := 32) (m := 6) [0, 1, 2, 3, 4, 5] [(32, 0), (32, 1), (32, 2), (32, 3), (32, 4), (32, 5), (31, 0), (31, 2), (31, 3), (31, 7), (31, 9), (31, 10), (31, 11), (31, 13), (31, 14)] B0 (by decide +kernel) rfl (fun h1 B1 => ?_)⟩
  refine ⟨(B1.lt (by decide)), k_sr (n := 33) (a := 31) (j := 0) (t := 32) [(32, 0), (32, 1), (32, 2), (32, 3), (32, 4), (32, 5), (31, 2), (31, 3), (31, 7), (31, 9), (31, 10), (31, 11), (31, 13), (31, 14)] B1 (by decide +kernel) rfl (by rw [B0.1]) (fun h2 B2 => ?_)⟩
  refine ⟨(by rw [B2.1]; decide), k_na (n := 33) (m := 12) [] [(32, 0), (32, 1), (32, 2), (32, 3), (32, 4), (32, 5), (31, 2), (31, 3), (31, 7), (31, 9), (31, 10), (31, 11), (31, 13), (31, 14)] B2 (by decide +kernel) rfl (fun h3 B3 => ?_)⟩
  refine ⟨(B3.lt (by decide)), k_sr (n := 34) (a := 31) (j := 2) (t := 33) [(32, 0), (32, 1), (32, 2), (32, 3), (32, 4), (32, 5), (31, 3), (31, 7), (31, 9), (31, 10), (31, 11), (31, 13), (31, 14)] B3 (by decide +kernel) rfl (by rw [B2.1]) (fun h4 B4 => ?_)⟩
  refine ⟨(by rw [B4.1]; decide), k_na (n := 34) (m := 12) [] [(32, 0), (32, 1), (32, 2), (32, 3), (32, 4), (32, 5), (31, 3), (31, 7), (31, 9), (31, 10), (31, 11), (31, 13), (31, 14)] B4 (by decide +kernel) rfl (fun h5 B5 => ?_)⟩
  refine ⟨(B5.lt (by decide)), k_sr (n := 35) (a := 31) (j := 3) (t := 34) [(32, 0), (32, 1), (32, 2), (32, 3), (32, 4), (32, 5), (31, 7), (31, 9), (31, 10), (31, 11), (31, 13), (31, 14)] B5 (by decide +kernel) rfl (by rw [B4.1]) (fun h6 B6 => ?_)⟩
  refine ⟨(by rw [B6.1]; decide), k_na (n := 35) (m := 4) [0, 1, 2, 3] [(35, 0), (35, 1), (35, 2), (35, 3), (32, 0), (32, 1), (32, 2), (32, 3), (32, 4), (32, 5), (31, 7), (31, 9), (31, 10), (31, 11), (31, 13), (31, 14)] B6 (by decide +kernel) rfl (fun h7 B7 => ?_)⟩
  refine ⟨(B7.lt (by decide)), k_sr (n := 36) (a := 31) (j := 7) (t := 35) [(35, 0), (35, 1), (35, 2), (35, 3), (32, 0), (32, 1), (32, 2), (32, 3), (32, 4), (32, 5), (31, 9), (31, 10), (31, 11), (31, 13), (31, 14)] B7 (by decide +kernel) rfl (by rw [B6.1]) (fun h8 B8 => ?_)⟩
  refine ⟨(B8.lt (by decide)), k_si (n := 36) (a := 31) (j := 9) (v := 4) [(35, 0), (35, 1), (35, 2), (35, 3), (32, 0), (32, 1), (32, 2), (32, 3), (32, 4), (32, 5), (31, 10), (31, 11), (31, 13), (31, 14)] B8 (by decide +kernel) (fun h9 B9 => ?_)⟩
  refine ⟨(B9.lt (by decide)), k_si (n := 36) (a := 31) (j := 10) (v := 1) [(35, 0), (35, 1), (35, 2), (35, 3), (32, 0), (32, 1), (32, 2), (32, 3), (32, 4), (32, 5), (31, 11), (31, 13), (31, 14)] B9 (by decide +kernel) (fun h10 B10 => ?_)⟩
  refine ⟨(by rw [B10.1]; decide), k_na (n := 36) (m := 60) [] [(35, 0), (35, 1), (35, 2), (35, 3), (32, 0), (32, 1), (32, 2), (32, 3), (32, 4), (32, 5), (31, 11), (31, 13), (31, 14)] B10 (by decide +kernel) rfl (fun h11 B11 => ?_)⟩
  refine ⟨(B11.lt (by decide)), k_sr (n := 37) (a := 31) (j := 11) (t := 36) [(35, 0), (35, 1), (35, 2), (35, 3), (32, 0), (32, 1), (32, 2), (32, 3), (32, 4), (32, 5), (31, 13), (31, 14)] B11 (by decide +kernel) rfl (by rw [B10.1]) (fun h12 B12 => ?_)⟩
  refine ⟨(by rw [B12.1]; decide), k_na (n := 37) (m := 2) [] [(35, 0), (35, 1), (35, 2), (35, 3), (32, 0), (32, 1), (32, 2), (32, 3), (32, 4), (32, 5), (31, 13), (31, 14)] B12 (by decide +kernel) rfl (fun h13 B13 => ?_)⟩
  refine ⟨(B13.lt (by decide)), k_sr (n := 38) (a := 31) (j := 13) (t := 37) [(35, 0), (35, 1), (35, 2), (35, 3), (32, 0), (32, 1), (32, 2), (32, 3), (32, 4), (32, 5), (31, 14)] B13 (by decide +kernel) rfl (by rw [B12.1]) (fun h14 B14 => ?_)⟩
  refine ⟨(by rw [B14.1]; decide), k_na (n := 38) (m := 24) [] [(35, 0), (35, 1), (35, 2), (35, 3), (32, 0), (32, 1), (32, 2), (32, 3), (32, 4), (32, 5), (31, 14)] B14 (by decide +kernel) rfl (fun h15 B15 => ?_)⟩
  refine ⟨(B15.lt (by decide)), k_sr (n := 39) (a := 31) (j := 14) (t := 38) [(35, 0), (35, 1), (35, 2), (35, 3), (32, 0), (32, 1), (32, 2), (32, 3), (32, 4), (32, 5)] B15 (by decide +kernel) rfl (by rw [B14.1]) (fun h16 B16 => ?_)⟩
  refine ⟨0 + 1 + 1 + 1 + 1 + 1 + 1 + 1, ?_⟩
  unfold wp_X2_init_L73
  refine br_n (by decide) ⟨(B16.lt (by decide)), 32, B16.r (by decide +kernel), (by rw [B16.1]; decide), (by decide), (by decide), ?_⟩
  refine k_no (n := 39) [5, 6] [(39, 5), (39, 6), (35, 0), (35, 1), (35, 2), (35, 3), (32, 0), (32, 1), (32, 2), (32, 3), (32, 4), (32, 5)] B16 (by decide +kernel) (fun h17 B17 => ?_)
  rw [B16.1]
  refine ⟨(B17.lt (by decide)), (by decide), (by decide), ?_⟩
  unfold wp_X0_init
  refine ⟨(by rw [B17.1]; decide), k_na (n := 40) (m := 6) [] [(39, 5), (39, 6), (35, 0), (35, 1), (35, 2), (35, 3), (32, 0), (32, 1), (32, 2), (32, 3), (32, 4), (32, 5)] B17 (by decide +kernel) rfl (fun h18 B18 => ?_)⟩
  refine ⟨(B18.lt (by decide)), k_sr (n := 41) (a := 39) (j := 5) (t := 40) [(39, 6), (35, 0), (35, 1), (35, 2), (35, 3), (32, 0), (32, 1), (32, 2), (32, 3), (32, 4), (32, 5)] B18 (by decide +kernel) rfl (by rw [B17.1]) (fun h19 B19 => ?_)⟩
  refine ⟨(by rw [B19.1]; decide), k_na (n := 41) (m := 6) [] [(39, 6), (35, 0), (35, 1), (35, 2), (35, 3), (32, 0), (32, 1), (32, 2), (32, 3), (32, 4), (32, 5)] B19 (by decide +kernel) rfl (fun h20 B20 => ?_)⟩
  refine ⟨(B20.lt (by decide)), k_sr (n := 42) (a := 39) (j := 6) (t := 41) [(35, 0), (35, 1), (35, 2), (35, 3), (32, 0), (32, 1), (32, 2), (32, 3), (32, 4), (32, 5)] B20 (by decide +kernel) rfl (by rw [B19.1]) (fun h21 B21 => ?_)⟩
  refine ⟨(by decide), (B21.lt (by decide)), (B21.v (m := 6) (by decide +kernel) (by unfold vp_in; decide)), (B21.lt (by decide)), k_sr (n := 42) (a := 32) (j := 0) (t := 39) [(35, 0), (35, 1), (35, 2), (35, 3), (32, 1), (32, 2), (32, 3), (32, 4), (32, 5)] B21 (by decide +kernel) (by decide +kernel) rfl (fun h22 B22 => ?_)⟩
  unfold wp_X2_init_L73
  refine br_n (by decide) ⟨(B22.lt (by decide)), 32, B22.r (by decide +kernel), (by rw [B22.1]; decide), (by decide), (by decide), ?_⟩
  refine k_no (n := 42) [5, 6] [(42, 5), (42, 6), (35, 0), (35, 1), (35, 2), (35, 3), (32, 1), (32, 2), (32, 3), (32, 4), (32, 5)] B22 (by decide +kernel) (fun h23 B23 => ?_)
  rw [B22.1]
  refine ⟨(B23.lt (by decide)), (by decide), (by decide), ?_⟩
  unfold wp_X0_init
  refine ⟨(by rw [B23.1]; decide), k_na (n := 43) (m := 6) [] [(42, 5), (42, 6), (35, 0), (35, 1), (35, 2), (35, 3), (32, 1), (32, 2), (32, 3), (32, 4), (32, 5)] B23 (by decide +kernel) rfl (fun h24 B24 => ?_)⟩
  refine ⟨(B24.lt (by decide)), k_sr (n := 44) (a := 42) (j := 5) (t := 43) [(42, 6), (35, 0), (35, 1), (35, 2), (35, 3), (32, 1), (32, 2), (32, 3), (32, 4), (32, 5)] B24 (by decide +kernel) rfl (by rw [B23.1]) (fun h25 B25 => ?_)⟩
  refine ⟨(by rw [B25.1]; decide), k_na (n := 44) (m := 6) [] [(42, 6), (35, 0), (35, 1), (35, 2), (35, 3), (32, 1), (32, 2), (32, 3), (32, 4), (32, 5)] B25 (by decide +kernel) rfl (fun h26 B26 => ?_)⟩
  refine ⟨(B26.lt (by decide)), k_sr (n := 45) (a := 42) (j := 6) (t := 44) [(35, 0), (35, 1), (35, 2), (35, 3), (32, 1), (32, 2), (32, 3), (32, 4), (32, 5)] B26 (by decide +kernel) rfl (by rw [B25.1]) (fun h27 B27 => ?_)⟩
  refine ⟨(by decide), (B27.lt (by decide)), (B27.v (m := 6) (by decide +kernel) (by unfold vp_in; decide)), (B27.lt (by decide)), k_sr (n := 45) (a := 32) (j := 1) (t := 42) [(35, 0), (35, 1), (35, 2), (35, 3), (32, 2), (32, 3), (32, 4), (32, 5)] B27 (by decide +kernel) (by decide +kernel) rfl (fun h28 B28 => ?_)⟩
  unfold wp_X2_init_L73
  refine br_n (by decide) ⟨(B28.lt (by decide)), 32, B28.r (by decide +kernel), (by rw [B28.1]; decide), (by decide), (by decide), ?_⟩
  refine k_no (n := 45) [5, 6] [(45, 5), (45, 6), (35, 0), (35, 1), (35, 2), (35, 3), (32, 2), (32, 3), (32, 4), (32, 5)] B28 (by decide +kernel) (fun h29 B29 => ?_)
  rw [B28.1]
  refine ⟨(B29.lt (by decide)), (by decide), (by decide), ?_⟩
  unfold wp_X0_init
  refine ⟨(by rw [B29.1]; decide), k_na (n := 46) (m := 6) [] [(45, 5), (45, 6), (35, 0), (35, 1), (35, 2), (35, 3), (32, 2), (32, 3), (32, 4), (32, 5)] B29 (by decide +kernel) rfl (fun h30 B30 => ?_)⟩
  refine ⟨(B30.lt (by decide)), k_sr (n := 47) (a := 45) (j := 5) (t := 46) [(45, 6), (35, 0), (35, 1), (35, 2), (35, 3), (32, 2), (32, 3), (32, 4), (32, 5)] B30 (by decide +kernel) rfl (by rw [B29.1]) (fun h31 B31 => ?_)⟩
  refine ⟨(by rw [B31.1]; decide), k_na (n := 47) (m := 6) [] [(45, 6), (35, 0), (35, 1), (35, 2), (35, 3), (32, 2), (32, 3), (32, 4), (32, 5)] B31 (by decide +kernel) rfl (fun h32 B32 => ?_)⟩
  refine ⟨(B32.lt (by decide)), k_sr (n := 48) (a := 45) (j := 6) (t := 47) [(35, 0), (35, 1), (35, 2), (35, 3), (32, 2), (32, 3), (32, 4), (32, 5)] B32 (by decide +kernel) rfl (by rw [B31.1]) (fun h33 B33 => ?_)⟩
  refine ⟨(by decide), (B33.lt (by decide)), (B33.v (m := 6) (by decide +kernel) (by unfold vp_in; decide)), (B33.lt (by decide)), k_sr (n := 48) (a := 32) (j := 2) (t := 45) [(35, 0), (35, 1), (35, 2), (35, 3), (32, 3), (32, 4), (32, 5)] B33 (by decide +kernel) (by decide +kernel) rfl (fun h34 B34 => ?_)⟩
  unfold wp_X2_init_L73
  refine br_n (by decide) ⟨(B34.lt (by decide)), 32, B34.r (by decide +kernel), (by rw [B34.1]; decide), (by decide), (by decide), ?_⟩
  refine k_no (n := 48) [5, 6] [(48, 5), (48, 6), (35, 0), (35, 1), (35, 2), (35, 3), (32, 3), (32, 4), (32, 5)] B34 (by decide +kernel) (fun h35 B35 => ?_)
  rw [B34.1]
  refine ⟨(B35.lt (by decide)), (by decide), (by decide), ?_⟩
  unfold wp_X0_init
  refine ⟨(by rw [B35.1]; decide), k_na (n := 49) (m := 6) [] [(48, 5), (48, 6), (35, 0), (35, 1), (35, 2), (35, 3), (32, 3), (32, 4), (32, 5)] B35 (by decide +kernel) rfl (fun h36 B36 => ?_)⟩
  refine ⟨(B36.lt (by decide)), k_sr (n := 50) (a := 48) (j := 5) (t := 49) [(48, 6), (35, 0), (35, 1), (35, 2), (35, 3), (32, 3), (32, 4), (32, 5)] B36 (by decide +kernel) rfl (by rw [B35.1]) (fun h37 B37 => ?_)⟩
  refine ⟨(by rw [B37.1]; decide), k_na (n := 50) (m := 6) [] [(48, 6), (35, 0), (35, 1), (35, 2), (35, 3), (32, 3), (32, 4), (32, 5)] B37 (by decide +kernel) rfl (fun h38 B38 => ?_)⟩
  refine ⟨(B38.lt (by decide)), k_sr (n := 51) (a := 48) (j := 6) (t := 50) [(35, 0), (35, 1), (35, 2), (35, 3), (32, 3), (32, 4), (32, 5)] B38 (by decide +kernel) rfl (by rw [B37.1]) (fun h39 B39 => ?_)⟩
  refine ⟨(by decide), (B39.lt (by decide)), (B39.v (m := 6) (by decide +kernel) (by unfold vp_in; decide)), (B39.lt (by decide)), k_sr (n := 51) (a := 32) (j := 3) (t := 48) [(35, 0), (35, 1), (35, 2), (35, 3), (32, 4), (32, 5)] B39 (by decide +kernel) (by decide +kernel) rfl (fun h40 B40 => ?_)⟩
  unfold wp_X2_init_L73
  refine br_n (by decide) ⟨(B40.lt (by decide)), 32, B40.r (by decide +kernel), (by rw [B40.1]; decide), (by decide), (by decide), ?_⟩
  refine k_no (n := 51) [5, 6] [(51, 5), (51, 6), (35, 0), (35, 1), (35, 2), (35, 3), (32, 4), (32, 5)] B40 (by decide +kernel) (fun h41 B41 => ?_)
  rw [B40.1]
  refine ⟨(B41.lt (by decide)), (by decide), (by decide), ?_⟩
  unfold wp_X0_init
  refine ⟨(by rw [B41.1]; decide), k_na (n := 52) (m := 6) [] [(51, 5), (51, 6), (35, 0), (35, 1), (35, 2), (35, 3), (32, 4), (32, 5)] B41 (by decide +kernel) rfl (fun h42 B42 => ?_)⟩
  refine ⟨(B42.lt (by decide)), k_sr (n := 53) (a := 51) (j := 5) (t := 52) [(51, 6), (35, 0), (35, 1), (35, 2), (35, 3), (32, 4), (32, 5)] B42 (by decide +kernel) rfl (by rw [B41.1]) (fun h43 B43 => ?_)⟩
  refine ⟨(by rw [B43.1]; decide), k_na (n := 53) (m := 6) [] [(51, 6), (35, 0), (35, 1), (35, 2), (35, 3), (32, 4), (32, 5)] B43 (by decide +kernel) rfl (fun h44 B44 => ?_)⟩
  refine ⟨(B44.lt (by decide)), k_sr (n := 54) (a := 51) (j := 6) (t := 53) [(35, 0), (35, 1), (35, 2), (35, 3), (32, 4), (32, 5)] B44 (by decide +kernel) rfl (by rw [B43.1]) (fun h45 B45 => ?_)⟩
  refine ⟨(by decide), (B45.lt (by decide)), (B45.v (m := 6) (by decide +kernel) (by unfold vp_in; decide)), (B45.lt (by decide)), k_sr (n := 54) (a := 32) (j := 4) (t := 51) [(35, 0), (35, 1), (35, 2), (35, 3), (32, 5)] B45 (by decide +kernel) (by decide +kernel) rfl (fun h46 B46 => ?_)⟩
  unfold wp_X2_init_L73
  refine br_n (by decide) ⟨(B46.lt (by decide)), 32, B46.r (by decide +kernel), (by rw [B46.1]; decide), (by decide), (by decide), ?_⟩
  refine k_no (n := 54) [5, 6] [(54, 5), (54, 6), (35, 0), (35, 1), (35, 2), (35, 3), (32, 5)] B46 (by decide +kernel) (fun h47 B47 => ?_)
  rw [B46.1]
  refine ⟨(B47.lt (by decide)), (by decide), (by decide), ?_⟩
  unfold wp_X0_init
  refine ⟨(by rw [B47.1]; decide), k_na (n := 55) (m := 6) [] [(54, 5), (54, 6), (35, 0), (35, 1), (35, 2), (35, 3), (32, 5)] B47 (by decide +kernel) rfl (fun h48 B48 => ?_)⟩
  refine ⟨(B48.lt (by decide)), k_sr (n := 56) (a := 54) (j := 5) (t := 55) [(54, 6), (35, 0), (35, 1), (35, 2), (35, 3), (32, 5)] B48 (by decide +kernel) rfl (by rw [B47.1]) (fun h49 B49 => ?_)⟩
  refine ⟨(by rw [B49.1]; decide), k_na (n := 56) (m := 6) [] [(54, 6), (35, 0), (35, 1), (35, 2), (35, 3), (32, 5)] B49 (by decide +kernel) rfl (fun h50 B50 => ?_)⟩
  refine ⟨(B50.lt (by decide)), k_sr (n := 57) (a := 54) (j := 6) (t := 56) [(35, 0), (35, 1), (35, 2), (35, 3), (32, 5)] B50 (by decide +kernel) rfl (by rw [B49.1]) (fun h51 B51 => ?_)⟩
  refine ⟨(by decide), (B51.lt (by decide)), (B51.v (m := 6) (by decide +kernel) (by unfold vp_in; decide)), (B51.lt (by decide)), k_sr (n := 57) (a := 32) (j := 5) (t := 54) [(35, 0), (35, 1), (35, 2), (35, 3)] B51 (by decide +kernel) (by decide +kernel) rfl (fun h52 B52 => ?_)⟩
  unfold wp_X2_init_L73
  refine br_y (by decide) ?_
  refine ⟨0 + 1 + 1 + 1 + 1 + 1, ?_⟩
  unfold wp_X2_init_L100
  refine br_n (by decide) ⟨(B52.lt (by decide)), 35, B52.r (by decide +kernel), (by rw [B52.1]; decide), (by decide), (by decide), ?_⟩
  refine k_no (n := 57) [] [(35, 0), (35, 1), (35, 2), (35, 3)] B52 (by decide +kernel) (fun h53 B53 => ?_)
  rw [B52.1]
  refine ⟨(B53.lt (by decide)), (by decide), (by decide), ?_⟩
  unfold wp_X3_init
  refine ⟨(by decide), (B53.lt (by decide)), (B53.v (m := 4) (by decide +kernel) (by unfold vp_in; decide)), (B53.lt (by decide)), k_sr (n := 58) (a := 35) (j := 0) (t := 57) [(35, 1), (35, 2), (35, 3)] B53 (by decide +kernel) (by decide +kernel) rfl (fun h54 B54 => ?_)⟩
  unfold wp_X2_init_L100
  refine br_n (by decide) ⟨(B54.lt (by decide)), 35, B54.r (by decide +kernel), (by rw [B54.1]; decide), (by decide), (by decide), ?_⟩
  refine k_no (n := 58) [] [(35, 1), (35, 2), (35, 3)] B54 (by decide +kernel) (fun h55 B55 => ?_)
  rw [B54.1]
  refine ⟨(B55.lt (by decide)), (by decide), (by decide), ?_⟩
  unfold wp_X3_init
  refine ⟨(by decide), (B55.lt (by decide)), (B55.v (m := 4) (by decide +kernel) (by unfold vp_in; decide)), (B55.lt (by decide)), k_sr (n := 59) (a := 35) (j := 1) (t := 58) [(35, 2), (35, 3)] B55 (by decide +kernel) (by decide +kernel) rfl (fun h56 B56 => ?_)⟩
  unfold wp_X2_init_L100
  refine br_n (by decide) ⟨(B56.lt (by decide)), 35, B56.r (by decide +kernel), (by rw [B56.1]; decide), (by decide), (by decide), ?_⟩
  refine k_no (n := 59) [] [(35, 2), (35, 3)] B56 (by decide +kernel) (fun h57 B57 => ?_)
  rw [B56.1]
  refine ⟨(B57.lt (by decide)), (by decide), (by decide), ?_⟩
  unfold wp_X3_init
  refine ⟨(by decide), (B57.lt (by decide)), (B57.v (m := 4) (by decide +kernel) (by unfold vp_in; decide)), (B57.lt (by decide)), k_sr (n := 60) (a := 35) (j := 2) (t := 59) [(35, 3)] B57 (by decide +kernel) (by decide +kernel) rfl (fun h58 B58 => ?_)⟩
  unfold wp_X2_init_L100
  refine br_n (by decide) ⟨(B58.lt (by decide)), 35, B58.r (by decide +kernel), (by rw [B58.1]; decide), (by decide), (by decide), ?_⟩
  refine k_no (n := 60) [] [(35, 3)] B58 (by decide +kernel) (fun h59 B59 => ?_)
  rw [B58.1]
  refine ⟨(B59.lt (by decide)), (by decide), (by decide), ?_⟩
  unfold wp_X3_init
  refine ⟨(by decide), (B59.lt (by decide)), (B59.v (m := 4) (by decide +kernel) (by unfold vp_in; decide)), (B59.lt (by decide)), k_sr (n := 61) (a := 35) (j := 3) (t := 60) [] B59 (by decide +kernel) (by decide +kernel) rfl (fun h60 B60 => ?_)⟩
  unfold wp_X2_init_L100
  exact br_y (by decide) ⟨(by decide), (by decide), hq _ B60⟩
theorem i_ship61 {k : Nat} {h : hp_T} {Q : hp_T → Prop} (B0 : BP 62 k [(61, 0), (61, 2), (61, 3), (61, 7), (61, 9), (61, 10), (61, 11), (61, 13), (61, 14)] h) (hq : ∀ h1, BP 91 k [] h1 → Q h1) : wp_X2_init 61 h Q := by
  unfold wp_X2_init
  refine ⟨(by rw [B0.1]; decide), k_na (n := 62) (m := 6) [0, 1, 2, 3, 4, 5] [(62, 0), (62, 1), (62, 2), (62, 3), (62, 4), (62, 5), (61, 0), (61, 2), (61, 3), (61, 7), (61, 9), (61, 10), (61, 11), (61, 13), (61, 14)] B0 (by decide +kernel) rfl (fun h1 B1 => ?_)⟩
  refine ⟨(B1.lt (by decide)), k_sr (n := 63) (a := 61) (j := 0) (t := 62) [(62, 0), (62, 1), (62, 2), (62, 3), (62, 4), (62, 5), (61, 2), (61, 3), (61, 7), (61, 9), (61, 10), (61, 11), (61, 13), (61, 14)] B1 (by decide +kernel) rfl (by rw [B0.1]) (fun h2 B2 => ?_)⟩
  refine ⟨(by rw [B2.1]; decide), k_na (n := 63) (m := 12) [] [(62, 0), (62, 1), (62, 2), (62, 3), (62, 4), (62, 5), (61, 2), (61, 3), (61, 7), (61, 9), (61, 10), (61, 11), (61, 13), (61, 14)] B2 (by decide +kernel) rfl (fun h3 B3 => ?_)⟩
  refine ⟨(B3.lt (by decide)), k_sr (n := 64) (a := 61) (j := 2) (t := 63) [(62, 0), (62, 1), (62, 2), (62, 3), (62, 4), (62, 5), (61, 3), (61, 7), (61, 9), (61, 10), (61, 11), (61, 13), (61, 14)] B3 (by decide +kernel) rfl (by rw [B2.1]) (fun h4 B4 => ?_)⟩
  refine ⟨(by rw [B4.1]; decide), k_na (n := 64) (m := 12) [] [(62, 0), (62, 1), (62, 2), (62, 3), (62, 4), (62, 5), (61, 3), (61, 7), (61, 9), (61, 10), (61, 11), (61, 13), (61, 14)] B4 (by decide +kernel) rfl (fun h5 B5 => ?_)⟩
  refine ⟨(B5.lt (by decide)), k_sr (n := 65) (a := 61) (j := 3) (t := 64) [(62, 0), (62, 1), (62, 2), (62, 3), (62, 4), (62, 5), (61, 7), (61, 9), (61, 10), (61, 11), (61, 13), (61, 14)] B5 (by decide +kernel) rfl (by rw [B4.1]) (fun h6 B6 => ?_)⟩
  refine ⟨(by rw [B6.1]; decide), k_na (n := 65) (m := 4) [0, 1, 2, 3] [(65, 0), (65, 1), (65, 2), (65, 3), (62, 0), (62, 1), (62, 2), (62, 3), (62, 4), (62, 5), (61, 7), (61, 9), (61, 10), (61, 11), (61, 13), (61, 14)] B6 (by decide +kernel) rfl (fun h7 B7 => ?_)⟩
  refine ⟨(B7.lt (by decide)), k_sr (n := 66) (a := 61) (j := 7) (t := 65) [(65, 0), (65, 1), (65, 2), (65, 3), (62, 0), (62, 1), (62, 2), (62, 3), (62, 4), (62, 5), (61, 9), (61, 10), (61, 11), (61, 13), (61, 14)] B7 (by decide +kernel) rfl (by rw [B6.1]) (fun h8 B8 => ?_)⟩
  refine ⟨(B8.lt (by decide)), k_si (n := 66) (a := 61) (j := 9) (v := 4) [(65, 0), (65, 1), (65, 2), (65, 3), (62, 0), (62, 1), (62, 2), (62, 3), (62, 4), (62, 5), (61, 10), (61, 11), (61, 13), (61, 14)] B8 (by decide +kernel) (fun h9 B9 => ?_)⟩
  refine ⟨(B9.lt (by decide)), k_si (n := 66) (a := 61) (j := 10) (v := 1) [(65, 0), (65, 1), (65, 2), (65, 3), (62, 0), (62, 1), (62, 2), (62, 3), (62, 4), (62, 5), (61, 11), (61, 13), (61, 14)] B9 (by decide +kernel) (fun h10 B10 => ?_)⟩
  refine ⟨(by rw [B10.1]; decide), k_na (n := 66) (m := 60) [] [(65, 0), (65, 1), (65, 2), (65, 3), (62, 0), (62, 1), (62, 2), (62, 3), (62, 4), (62, 5), (61, 11), (61, 13), (61, 14)] B10 (by decide +kernel) rfl (fun h11 B11 => ?_)⟩
  refine ⟨(B11.lt (by decide)), k_sr (n := 67) (a := 61) (j := 11) (t := 66) [(65, 0), (65, 1), (65, 2), (65, 3), (62, 0), (62, 1), (62, 2), (62, 3), (62, 4), (62, 5), (61, 13), (61, 14)] B11 (by decide +kernel) rfl (by rw [B10.1]) (fun h12 B12 => ?_)⟩
  refine ⟨(by rw [B12.1]; decide), k_na (n := 67) (m := 2) [] [(65, 0), (65, 1), (65, 2), (65, 3), (62, 0), (62, 1), (62, 2), (62, 3), (62, 4), (62, 5), (61, 13), (61, 14)] B12 (by decide +kernel) rfl (fun h13 B13 => ?_)⟩
  refine ⟨(B13.lt (by decide)), k_sr (n := 68) (a := 61) (j := 13) (t := 67) [(65, 0), (65, 1), (65, 2), (65, 3), (62, 0), (62, 1), (62, 2), (62, 3), (62, 4), (62, 5), (61, 14)] B13 (by decide +kernel) rfl (by rw [B12.1]) (fun h14 B14 => ?_)⟩
  refine ⟨(by rw [B14.1]; decide), k_na (n := 68) (m := 24) [] [(65, 0), (65, 1), (65, 2), (65, 3), (62, 0), (62, 1), (62, 2), (62, 3), (62, 4), (62, 5), (61, 14)] B14 (by decide +kernel) rfl (fun h15 B15 => ?_)⟩
  refine ⟨(B15.lt (by decide)), k_sr (n := 69) (a := 61) (j := 14) (t := 68) [(65, 0), (65, 1), (65, 2), (65, 3), (62, 0), (62, 1), (62, 2), (62, 3), (62, 4), (62, 5)] B15 (by decide +kernel) rfl (by rw [B14.1]) (fun h16 B16 => ?_)⟩
  refine ⟨0 + 1 + 1 + 1 + 1 + 1 + 1 + 1, ?_⟩
  unfold wp_X2_init_L73
  refine br_n (by decide) ⟨(B16.lt (by decide)), 62, B16.r (by decide +kernel), (by rw [B16.1]; decide), (by decide), (by decide), ?_⟩
  refine k_no (n := 69) [5, 6] [(69, 5), (69, 6), (65, 0), (65, 1), (65, 2), (65, 3), (62, 0), (62, 1), (62, 2), (62, 3), (62, 4), (62, 5)] B16 (by decide +kernel) (fun h17 B17 => ?_)
  rw [B16.1]
  refine ⟨(B17.lt (by decide)), (by decide), (by decide), ?_⟩
  unfold wp_X0_init
  refine ⟨(by rw [B17.1]; decide), k_na (n := 70) (m := 6) [] [(69, 5), (69, 6), (65, 0), (65, 1), (65, 2), (65, 3), (62, 0), (62, 1), (62, 2), (62, 3), (62, 4), (62, 5)] B17 (by decide +kernel) rfl (fun h18 B18 => ?_)⟩
  refine ⟨(B18.lt (by decide)), k_sr (n := 71) (a := 69) (j := 5) (t := 70) [(69, 6), (65, 0), (65, 1), (65, 2), (65, 3), (62, 0), (62, 1), (62, 2), (62, 3), (62, 4), (62, 5)] B18 (by decide +kernel) rfl (by rw [B17.1]) (fun h19 B19 => ?_)⟩
  refine ⟨(by rw [B19.1]; decide), k_na (n := 71) (m := 6) [] [(69, 6), (65, 0), (65, 1), (65, 2), (65, 3), (62, 0), (62, 1), (62, 2), (62, 3), (62, 4), (62, 5)] B19 (by decide +kernel) rfl (fun h20 B20 => ?_)⟩
  refine ⟨(B20.lt (by decide)), k_sr (n := 72) (a := 69) (j := 6) (t := 71) [(65, 0), (65, 1), (65, 2), (65, 3), (62, 0), (62, 1), (62, 2), (62, 3), (62, 4), (62, 5)] B20 (by decide +kernel) rfl (by rw [B19.1]) (fun h21 B21 => ?_)⟩
  refine ⟨(by decide), (B21.lt (by decide)), (B21.v (m := 6) (by decide +kernel) (by unfold vp_in; decide)), (B21.lt (by decide)), k_sr (n := 72) (a := 62) (j := 0) (t := 69) [(65, 0), (65, 1), (65, 2), (65, 3), (62, 1), (62, 2), (62, 3), (62, 4), (62, 5)] B21 (by decide +kernel) (by decide +kernel) rfl (fun h22 B22 => ?_)⟩
  unfold wp_X2_init_L73
  refine br_n (by decide) ⟨(B22.lt (by decide)), 62, B22.r (by decide +kernel), (by rw [B22.1]; decide), (by decide), (by decide), ?_⟩
  refine k_no (n := 72) [5, 6] [(72, 5), (72, 6), (65, 0), (65, 1), (65, 2), (65, 3), (62, 1), (62, 2), (62, 3), (62, 4), (62, 5)] B22 (by decide +kernel) (fun h23 B23 => ?_)
  rw [B22.1]
  refine ⟨(B23.lt (by decide)), (by decide), (by decide), ?_⟩
  unfold wp_X0_init
  refine ⟨(by rw [B23.1]; decide), k_na (n := 73) (m := 6) [] [(72, 5), (72, 6), (65, 0), (65, 1), (65, 2), (65, 3), (62, 1), (62, 2), (62, 3), (62, 4), (62, 5)] B23 (by decide +kernel) rfl (fun h24 B24 => ?_)⟩
  refine ⟨(B24.lt (by decide)), k_sr (n := 74) (a := 72) (j := 5) (t := 73) [(72, 6), (65, 0), (65, 1), (65, 2), (65, 3), (62, 1), (62, 2), (62, 3), (62, 4), (62, 5)] B24 (by decide +kernel) rfl (by rw [B23.1]) (fun h25 B25 => ?_)⟩
  refine ⟨(by rw [B25.1]; decide), k_na (n := 74) (m := 6) [] [(72, 6), (65, 0), (65, 1), (65, 2), (65, 3), (62, 1), (62, 2), (62, 3), (62, 4), (62, 5)] B25 (by decide +kernel) rfl (fun h26 B26 => ?_)⟩
  refine ⟨(B26.lt (by decide)), k_sr (n := 75) (a := 72) (j := 6) (t := 74) [(65, 0), (65, 1), (65, 2), (65, 3), (62, 1), (62, 2), (62, 3), (62, 4), (62, 5)] B26 (by decide +kernel) rfl (by rw [B25.1]) (fun h27 B27 => ?_)⟩
  refine ⟨(by decide), (B27.lt (by decide)), (B27.v (m := 6) (by decide +kernel) (by unfold vp_in; decide)), (B27.lt (by decide)), k_sr (n := 75) (a := 62) (j := 1) (t := 72) [(65, 0), (65, 1), (65, 2), (65, 3), (62, 2), (62, 3), (62, 4), (62, 5)] B27 (by decide +kernel) (by decide +kernel) rfl (fun h28 B28 => ?_)⟩
  unfold wp_X2_init_L73
  refine br_n (by decide) ⟨(B28.lt (by decide)), 62, B28.r (by decide +kernel), (by rw [B28.1]; decide), (by decide), (by decide), ?_⟩
  refine k_no (n := 75) [5, 6] [(75, 5), (75, 6), (65, 0), (65, 1), (65, 2), (65, 3), (62, 2), (62, 3), (62, 4), (62, 5)] B28 (by decide +kernel) (fun h29 B29 => ?_)
  rw [B28.1]
  refine ⟨(B29.lt (by decide)), (by decide), (by decide), ?_⟩
  unfold wp_X0_init
  refine ⟨(by rw [B29.1]; decide), k_na (n := 76) (m := 6) [] [(75, 5), (75, 6), (65, 0), (65, 1), (65, 2), (65, 3), (62, 2), (62, 3), (62, 4), (62, 5)] B29 (by decide +kernel) rfl (fun h30 B30 => ?_)⟩
  refine ⟨(B30.lt (by decide)), k_sr (n := 77) (a := 75) (j := 5) (t := 76) [(75, 6), (65, 0), (65, 1), (65, 2), (65, 3), (62, 2), (62, 3), (62, 4), (62, 5)] B30 (by decide +kernel) rfl (by rw [B29.1]) (fun h31 B31 => ?_)⟩
  refine ⟨(by rw [B31.1]; decide), k_na (n := 77) (m := 6) [] [(75, 6), (65, 0), (65, 1), (65, 2), (65, 3), (62, 2), (62, 3), (62, 4), (62, 5)] B31 (by decide +kernel) rfl (fun h32 B32 => ?_)⟩
  refine ⟨(B32.lt (by decide)), k_sr (n := 78) (a := 75) (j := 6) (t := 77) [(65, 0), (65, 1), (65, 2), (65, 3), (62, 2), (62, 3), (62, 4), (62, 5)] B32 (by decide +kernel) rfl (by rw [B31.1]) (fun h33 B33 => ?_)⟩
  refine ⟨(by decide), (B33.lt (by decide)), (B33.v (m := 6) (by decide +kernel) (by unfold vp_in; decide)), (B33.lt (by decide)), k_sr (n := 78) (a := 62) (j := 2) (t := 75) [(65, 0), (65, 1), (65, 2), (65, 3), (62, 3), (62, 4), (62, 5)] B33 (by decide +kernel) (by decide +kernel) rfl (fun h34 B34 => ?_)⟩
  unfold wp_X2_init_L73
  refine br_n (by decide) ⟨(B34.lt (by decide)), 62, B34.r (by decide +kernel), (by rw [B34.1]; decide), (by decide), (by decide), ?_⟩
  refine k_no (n := 78) [5, 6] [(78, 5), (78, 6), (65, 0), (65, 1), (65, 2), (65, 3), (62, 3), (62, 4), (62, 5)] B34 (by decide +kernel) (fun h35 B35 => ?_)
  rw [B34.1]
  refine ⟨(B35.lt (by decide)), (by decide), (by decide), ?_⟩
  unfold wp_X0_init
  refine ⟨(by rw [B35.1]; decide), k_na (n := 79) (m := 6) [] [(78, 5), (78, 6), (65, 0), (65, 1), (65, 2), (65, 3), (62, 3), (62, 4), (62, 5)] B35 (by decide +kernel) rfl (fun h36 B36 => ?_)⟩
  refine ⟨(B36.lt (by decide)), k_sr (n := 80) (a := 78) (j := 5) (t := 79) [(78, 6), (65, 0), (65, 1), (65, 2), (65, 3), (62, 3), (62, 4), (62, 5)] B36 (by decide +kernel) rfl (by rw [B35.1]) (fun h37 B37 => ?_)⟩
  refine ⟨(by rw [B37.1]; decide), k_na (n := 80) (m := 6) [] [(78, 6), (65, 0), (65, 1), (65, 2), (65, 3), (62, 3), (62, 4), (62, 5)] B37 (by decide +kernel) rfl (fun h38 B38 => ?_)⟩
  refine ⟨(B38.lt (by decide)), k_sr (n := 81) (a := 78) (j := 6) (t := 80) [(65, 0), (65, 1), (65, 2), (65, 3), (62, 3), (62, 4), (62, 5)] B38 (by decide +kernel) rfl (by rw [B37.1]) (fun h39 B39 => ?_)⟩
  refine ⟨(by decide), (B39.lt (by decide)), (B39.v (m := 6) (by decide +kernel) (by unfold vp_in; decide)), (B39.lt (by decide)), k_sr (n := 81) (a := 62) (j := 3) (t := 78) [(65, 0), (65, 1), (65, 2), (65, 3), (62, 4), (62, 5)] B39 (by decide +kernel) (by decide +kernel) rfl (fun h40 B40 => ?_)⟩
  unfold wp_X2_init_L73
  refine br_n (by decide) ⟨(B40.lt (by decide)), 62, B40.r (by decide +kernel), (by rw [B40.1]; decide), (by decide), (by decide), ?_⟩
  refine k_no (n := 81) [5, 6] [(81, 5), (81, 6), (65, 0), (65, 1), (65, 2), (65, 3), (62, 4), (62, 5)] B40 (by decide +kernel) (fun h41 B41 => ?_)
  rw [B40.1]
  refine ⟨(B41.lt (by decide)), (by decide), (by decide), ?_⟩
  unfold wp_X0_init
  refine ⟨(by rw [B41.1]; decide), k_na (n := 82) (m := 6) [] [(81, 5), (81, 6), (65, 0), (65, 1), (65, 2), (65, 3), (62, 4), (62, 5)] B41 (by decide +kernel) rfl (fun h42 B42 => ?_)⟩
  refine ⟨(B42.lt (by decide)), k_sr (n := 83) (a := 81) (j := 5) (t := 82) [(81, 6), (65, 0), (65, 1), (65, 2), (65, 3), (62, 4), (62, 5)] B42 (by decide +kernel) rfl (by rw [B41.1]) (fun h43 B43 => ?_)⟩
  refine ⟨(by rw [B43.1]; decide), k_na (n := 83) (m := 6) [] [(81, 6), (65, 0), (65, 1), (65, 2), (65, 3), (62, 4), (62, 5)] B43 (by decide +kernel) rfl (fun h44 B44 => ?_)⟩
  refine ⟨(B44.lt (by decide)), k_sr (n := 84) (a := 81) (j := 6) (t := 83) [(65, 0), (65, 1), (65, 2), (65, 3), (62, 4), (62, 5)] B44 (by decide +kernel) rfl (by rw [B43.1]) (fun h45 B45 => ?_)⟩
  refine ⟨(by decide), (B45.lt (by decide)), (B45.v (m := 6) (by decide +kernel) (by unfold vp_in; decide)), (B45.lt (by decide)), k_sr (n := 84) (a := 62) (j := 4) (t := 81) [(65, 0), (65, 1), (65, 2), (65, 3), (62, 5)] B45 (by decide +kernel) (by decide +kernel) rfl (fun h46 B46 => ?_)⟩
  unfold wp_X2_init_L73
  refine br_n (by decide) ⟨(B46.lt (by decide)), 62, B46.r (by decide +kernel), (by rw [B46.1]; decide), (by decide), (by decide), ?_⟩
  refine k_no (n := 84) [5, 6] [(84, 5), (84, 6), (65, 0), (65, 1), (65, 2), (65, 3), (62, 5)] B46 (by decide +kernel) (fun h47 B47 => ?_)
  rw [B46.1]
  refine ⟨(B47.lt (by decide)), (by decide), (by decide), ?_⟩
  unfold wp_X0_init
  refine ⟨(by rw [B47.1]; decide), k_na (n := 85) (m := 6) [] [(84, 5), (84, 6), (65, 0), (65, 1), (65, 2), (65, 3), (62, 5)] B47 (by decide +kernel) rfl (fun h48 B48 => ?_)⟩
  refine ⟨(B48.lt (by decide)), k_sr (n := 86) (a := 84) (j := 5) (t := 85) [(84, 6), (65, 0), (65, 1), (65, 2), (65, 3), (62, 5)] B48 (by decide +kernel) rfl (by rw [B47.1]) (fun h49 B49 => ?_)⟩
  refine ⟨(by rw [B49.1]; decide), k_na (n := 86) (m := 6) [] [(84, 6), (65, 0), (65, 1), (65, 2), (65, 3), (62, 5)] B49 (by decide +kernel) rfl (fun h50 B50 => ?_)⟩
  refine ⟨(B50.lt (by decide)), k_sr (n := 87) (a := 84) (j := 6) (t := 86) [(65, 0), (65, 1), (65, 2), (65, 3), (62, 5)] B50 (by decide +kernel) rfl (by rw [B49.1]) (fun h51 B51 => ?_)⟩
  refine ⟨(by decide), (B51.lt (by decide)), (B51.v (m := 6) (by decide +kernel) (by unfold vp_in; decide)), (B51.lt (by decide)), k_sr (n := 87) (a := 62) (j := 5) (t := 84) [(65, 0), (65, 1), (65, 2), (65, 3)] B51 (by decide +kernel) (by decide +kernel) rfl (fun h52 B52 => ?_)⟩
  unfold wp_X2_init_L73
  refine br_y (by decide) ?_
  refine ⟨0 + 1 + 1 + 1 + 1 + 1, ?_⟩
  unfold wp_X2_init_L100
  refine br_n (by decide) ⟨(B52.lt (by decide)), 65, B52.r (by decide +kernel), (by rw [B52.1]; decide), (by decide), (by decide), ?_⟩
  refine k_no (n := 87) [] [(65, 0), (65, 1), (65, 2), (65, 3)] B52 (by decide +kernel) (fun h53 B53 => ?_)
  rw [B52.1]
  refine ⟨(B53.lt (by decide)), (by decide), (by decide), ?_⟩
  unfold wp_X3_init
  refine ⟨(by decide), (B53.lt (by decide)), (B53.v (m := 4) (by decide +kernel) (by unfold vp_in; decide)), (B53.lt (by decide)), k_sr (n := 88) (a := 65) (j := 0) (t := 87) [(65, 1), (65, 2), (65, 3)] B53 (by decide +kernel) (by decide +kernel) rfl (fun h54 B54 => ?_)⟩
  unfold wp_X2_init_L100
  refine br_n (by decide) ⟨(B54.lt (by decide)), 65, B54.r (by decide +kernel), (by rw [B54.1]; decide), (by decide), (by decide), ?_⟩
  refine k_no (n := 88) [] [(65, 1), (65, 2), (65, 3)] B54 (by decide +kernel) (fun h55 B55 => ?_)
  rw [B54.1]
  refine ⟨(B55.lt (by decide)), (by decide), (by decide), ?_⟩
  unfold wp_X3_init
  refine ⟨(by decide), (B55.lt (by decide)), (B55.v (m := 4) (by decide +kernel) (by unfold vp_in; decide)), (B55.lt (by decide)), k_sr (n := 89) (a := 65) (j := 1) (t := 88) [(65, 2), (65, 3)] B55 (by decide +kernel) (by decide +kernel) rfl (fun h56 B56 => ?_)⟩
  unfold wp_X2_init_L100
  refine br_n (by decide) ⟨(B56.lt (by decide)), 65, B56.r (by decide +kernel), (by rw [B56.1]; decide), (by decide), (by decide), ?_⟩
  refine k_no (n := 89) [] [(65, 2), (65, 3)] B56 (by decide +kernel) (fun h57 B57 => ?_)
  rw [B56.1]
  refine ⟨(B57.lt (by decide)), (by decide), (by decide), ?_⟩
  unfold wp_X3_init
  refine ⟨(by decide), (B57.lt (by decide)), (B57.v (m := 4) (by decide +kernel) (by unfold vp_in; decide)), (B57.lt (by decide)), k_sr (n := 90) (a := 65) (j := 2) (t := 89) [(65, 3)] B57 (by decide +kernel) (by decide +kernel) rfl (fun h58 B58 => ?_)⟩
  unfold wp_X2_init_L100
  refine br_n (by decide) ⟨(B58.lt (by decide)), 65, B58.r (by decide +kernel), (by rw [B58.1]; decide), (by decide), (by decide), ?_⟩
  refine k_no (n := 90) [] [(65, 3)] B58 (by decide +kernel) (fun h59 B59 => ?_)
  rw [B58.1]
  refine ⟨(B59.lt (by decide)), (by decide), (by decide), ?_⟩
  unfold wp_X3_init
  refine ⟨(by decide), (B59.lt (by decide)), (B59.v (m := 4) (by decide +kernel) (by unfold vp_in; decide)), (B59.lt (by decide)), k_sr (n := 91) (a := 65) (j := 3) (t := 90) [] B59 (by decide +kernel) (by decide +kernel) rfl (fun h60 B60 => ?_)⟩
  unfold wp_X2_init_L100
  exact br_y (by decide) ⟨(by decide), (by decide), hq _ B60⟩
theorem i_7 {h : hp_T} {Q : hp_T → Prop} (B0 : BP 1 0 [] h) (hq : ∀ h1, BP 105 7 [] h1 → Q h1) : wp_X7_init h Q := by
  unfold wp_X7_init
  refine ⟨(by rw [B0.1]; decide), k_no (n := 1) [0, 2, 3, 7, 9, 10, 11, 13, 14] [(1, 0), (1, 2), (1, 3), (1, 7), (1, 9), (1, 10), (1, 11), (1, 13), (1, 14)] B0 (by decide +kernel) (fun h1 B1 => ?_)⟩
  rw [B0.1]
  refine ⟨(B1.lt (by decide)), i_ship1 B1 (fun h2 B2 => ?_)⟩
  refine ⟨(B2.lt (by decide)), k_sr0 (t := 1) B2 (by decide +kernel) rfl (fun h3 B3 => ?_)⟩
  refine ⟨(by rw [B3.1]; decide), k_no (n := 31) [0, 2, 3, 7, 9, 10, 11, 13, 14] [(31, 0), (31, 2), (31, 3), (31, 7), (31, 9), (31, 10), (31, 11), (31, 13), (31, 14)] B3 (by decide +kernel) (fun h4 B4 => ?_)⟩
  rw [B3.1]
  refine ⟨(B4.lt (by decide)), i_ship31 B4 (fun h5 B5 => ?_)⟩
  refine ⟨(B5.lt (by decide)), k_sr0 (t := 31) B5 (by decide +kernel) rfl (fun h6 B6 => ?_)⟩
  refine ⟨(by rw [B6.1]; decide), k_no (n := 61) [0, 2, 3, 7, 9, 10, 11, 13, 14] [(61, 0), (61, 2), (61, 3), (61, 7), (61, 9), (61, 10), (61, 11), (61, 13), (61, 14)] B6 (by decide +kernel) (fun h7 B7 => ?_)⟩
  rw [B6.1]
  refine ⟨(B7.lt (by decide)), i_ship61 B7 (fun h8 B8 => ?_)⟩
  refine ⟨(B8.lt (by decide)), k_sr0 (t := 61) B8 (by decide +kernel) rfl (fun h9 B9 => ?_)⟩
  refine ⟨B9.1, k_no (n := 91) [4] [(91, 4)] B9 (by decide +kernel) (fun h10 B10 => ?_)⟩
  refine ⟨(B10.lt (by decide)), ?_⟩
  unfold wp_X5_init
  refine ⟨(by rw [B10.1]; decide), k_na (n := 92) (m := 60) [] [(91, 4)] B10 (by decide +kernel) rfl (fun h11 B11 => ?_)⟩
  refine ⟨(B11.lt (by decide)), k_sr (n := 93) (a := 91) (j := 4) (t := 92) [] B11 (by decide +kernel) rfl (by rw [B10.1]) (fun h12 B12 => ?_)⟩
  refine ⟨(B12.lt (by decide)), k_sr0 (t := 91) B12 (by decide +kernel) rfl (fun h13 B13 => ?_)⟩
  refine ⟨B13.1, k_no (n := 93) [3] [(93, 3)] B13 (by decide +kernel) (fun h14 B14 => ?_)⟩
  refine ⟨(B14.lt (by decide)), ?_⟩
  unfold wp_X6_init
  refine ⟨(by rw [B14.1]; decide), k_na (n := 94) (m := 30) [] [(93, 3)] B14 (by decide +kernel) rfl (fun h15 B15 => ?_)⟩
  refine ⟨(B15.lt (by decide)), k_sr (n := 95) (a := 93) (j := 3) (t := 94) [] B15 (by decide +kernel) rfl (by rw [B14.1]) (fun h16 B16 => ?_)⟩
  refine ⟨(B16.lt (by decide)), k_sr0 (t := 93) B16 (by decide +kernel) rfl (fun h17 B17 => ?_)⟩
  refine ⟨(by rw [B17.1]; decide), k_na (n := 95) (m := 4) [0, 1, 2, 3] [(95, 0), (95, 1), (95, 2), (95, 3)] B17 (by decide +kernel) rfl (fun h18 B18 => ?_)⟩
  refine ⟨(B18.lt (by decide)), k_sr0 (t := 95) B18 (by decide +kernel) (by rw [B17.1]) (fun h19 B19 => ?_)⟩
  refine ⟨(by rw [B19.1]; decide), k_na (n := 96) (m := 7) [] [(95, 0), (95, 1), (95, 2), (95, 3)] B19 (by decide +kernel) rfl (fun h20 B20 => ?_)⟩
  refine ⟨(B20.lt (by decide)), k_sr0 (t := 96) B20 (by decide +kernel) (by rw [B19.1]) (fun h21 B21 => ?_)⟩
  refine ⟨0 + 1 + 1 + 1 + 1 + 1, ?_⟩
  unfold wp_X7_init_L77
  refine br_n (by decide) ⟨(B21.lt (by decide)), 95, (by rw [B21.2.2.2.2]; decide), (by rw [B21.1]; decide), (by decide), (by decide), ?_⟩
  refine k_no (n := 97) [2] [(97, 2), (95, 0), (95, 1), (95, 2), (95, 3)] B21 (by decide +kernel) (fun h22 B22 => ?_)
  rw [B21.1]
  refine ⟨(B22.lt (by decide)), (by decide), (by decide), ?_⟩
  unfold wp_X1_init
  refine ⟨(by rw [B22.1]; decide), k_na (n := 98) (m := 24) [] [(97, 2), (95, 0), (95, 1), (95, 2), (95, 3)] B22 (by decide +kernel) rfl (fun h23 B23 => ?_)⟩
  refine ⟨(B23.lt (by decide)), k_sr (n := 99) (a := 97) (j := 2) (t := 98) [(95, 0), (95, 1), (95, 2), (95, 3)] B23 (by decide +kernel) rfl (by rw [B22.1]) (fun h24 B24 => ?_)⟩
  refine ⟨(by decide), (B24.lt (by decide)), (B24.v (m := 4) (by decide +kernel) (by unfold vp_in; decide)), (B24.lt (by decide)), k_sr (n := 99) (a := 95) (j := 0) (t := 97) [(95, 1), (95, 2), (95, 3)] B24 (by decide +kernel) (by decide +kernel) rfl (fun h25 B25 => ?_)⟩
  unfold wp_X7_init_L77
  refine br_n (by decide) ⟨(B25.lt (by decide)), 95, (by rw [B25.2.2.2.2]; decide), (by rw [B25.1]; decide), (by decide), (by decide), ?_⟩
  refine k_no (n := 99) [2] [(99, 2), (95, 1), (95, 2), (95, 3)] B25 (by decide +kernel) (fun h26 B26 => ?_)
  rw [B25.1]
  refine ⟨(B26.lt (by decide)), (by decide), (by decide), ?_⟩
  unfold wp_X1_init
  refine ⟨(by rw [B26.1]; decide), k_na (n := 100) (m := 24) [] [(99, 2), (95, 1), (95, 2), (95, 3)] B26 (by decide +kernel) rfl (fun h27 B27 => ?_)⟩
  refine ⟨(B27.lt (by decide)), k_sr (n := 101) (a := 99) (j := 2) (t := 100) [(95, 1), (95, 2), (95, 3)] B27 (by decide +kernel) rfl (by rw [B26.1]) (fun h28 B28 => ?_)⟩
  refine ⟨(by decide), (B28.lt (by decide)), (B28.v (m := 4) (by decide +kernel) (by unfold vp_in; decide)), (B28.lt (by decide)), k_sr (n := 101) (a := 95) (j := 1) (t := 99) [(95, 2), (95, 3)] B28 (by decide +kernel) (by decide +kernel) rfl (fun h29 B29 => ?_)⟩
  unfold wp_X7_init_L77
  refine br_n (by decide) ⟨(B29.lt (by decide)), 95, (by rw [B29.2.2.2.2]; decide), (by rw [B29.1]; decide), (by decide), (by decide), ?_⟩
  refine k_no (n := 101) [2] [(101, 2), (95, 2), (95, 3)] B29 (by decide +kernel) (fun h30 B30 => ?_)
  rw [B29.1]
  refine ⟨(B30.lt (by decide)), (by decide), (by decide), ?_⟩
  unfold wp_X1_init
  refine ⟨(by rw [B30.1]; decide), k_na (n := 102) (m := 24) [] [(101, 2), (95, 2), (95, 3)] B30 (by decide +kernel) rfl (fun h31 B31 => ?_)⟩
  refine ⟨(B31.lt (by decide)), k_sr (n := 103) (a := 101) (j := 2) (t := 102) [(95, 2), (95, 3)] B31 (by decide +kernel) rfl (by rw [B30.1]) (fun h32 B32 => ?_)⟩
  refine ⟨(by decide), (B32.lt (by decide)), (B32.v (m := 4) (by decide +kernel) (by unfold vp_in; decide)), (B32.lt (by decide)), k_sr (n := 103) (a := 95) (j := 2) (t := 101) [(95, 3)] B32 (by decide +kernel) (by decide +kernel) rfl (fun h33 B33 => ?_)⟩
  unfold wp_X7_init_L77
  refine br_n (by decide) ⟨(B33.lt (by decide)), 95, (by rw [B33.2.2.2.2]; decide), (by rw [B33.1]; decide), (by decide), (by decide), ?_⟩
  refine k_no (n := 103) [2] [(103, 2), (95, 3)] B33 (by decide +kernel) (fun h34 B34 => ?_)
  rw [B33.1]
  refine ⟨(B34.lt (by decide)), (by decide), (by decide), ?_⟩
  unfold wp_X1_init
  refine ⟨(by rw [B34.1]; decide), k_na (n := 104) (m := 24) [] [(103, 2), (95, 3)] B34 (by decide +kernel) rfl (fun h35 B35 => ?_)⟩
  refine ⟨(B35.lt (by decide)), k_sr (n := 105) (a := 103) (j := 2) (t := 104) [(95, 3)] B35 (by decide +kernel) rfl (by rw [B34.1]) (fun h36 B36 => ?_)⟩
  refine ⟨(by decide), (B36.lt (by decide)), (B36.v (m := 4) (by decide +kernel) (by unfold vp_in; decide)), (B36.lt (by decide)), k_sr (n := 105) (a := 95) (j := 3) (t := 103) [] B36 (by decide +kernel) (by decide +kernel) rfl (fun h37 B37 => ?_)⟩
  unfold wp_X7_init_L77
  exact br_y (by decide) ⟨(by decide), (by decide), hq _ B37⟩
theorem i_8 {h : hp_T} {Q : hp_T → Prop} (B0 : BP 106 7 [(105, 0), (105, 1), (105, 2), (105, 3), (105, 5), (105, 11), (105, 14), (105, 18), (105, 19), (105, 20), (105, 21)] h) (hq : ∀ h1, BP 117 7 [] h1 → Q h1) : wp_X8_init h Q := by
  unfold wp_X8_init
  refine ⟨(by rw [B0.1]; decide), k_na (n := 106) (m := 357) [5, 6] [(106, 5), (106, 6), (105, 0), (105, 1), (105, 2), (105, 3), (105, 5), (105, 11), (105, 14), (105, 18), (105, 19), (105, 20), (105, 21)] B0 (by decide +kernel) rfl (fun h1 B1 => ?_)⟩
  refine ⟨(B1.lt (by decide)), k_sr (n := 107) (a := 105) (j := 0) (t := 106) [(106, 5), (106, 6), (105, 1), (105, 2), (105, 3), (105, 5), (105, 11), (105, 14), (105, 18), (105, 19), (105, 20), (105, 21)] B1 (by decide +kernel) rfl (by rw [B0.1]) (fun h2 B2 => ?_)⟩
  refine ⟨(by rw [B2.1]; decide), k_na (n := 107) (m := 357) [] [(106, 5), (106, 6), (105, 1), (105, 2), (105, 3), (105, 5), (105, 11), (105, 14), (105, 18), (105, 19), (105, 20), (105, 21)] B2 (by decide +kernel) rfl (fun h3 B3 => ?_)⟩
  refine ⟨(B3.lt (by decide)), k_sr (n := 108) (a := 105) (j := 1) (t := 107) [(106, 5), (106, 6), (105, 2), (105, 3), (105, 5), (105, 11), (105, 14), (105, 18), (105, 19), (105, 20), (105, 21)] B3 (by decide +kernel) rfl (by rw [B2.1]) (fun h4 B4 => ?_)⟩
  refine ⟨(by rw [B4.1]; decide), k_na (n := 108) (m := 357) [] [(106, 5), (106, 6), (105, 2), (105, 3), (105, 5), (105, 11), (105, 14), (105, 18), (105, 19), (105, 20), (105, 21)] B4 (by decide +kernel) rfl (fun h5 B5 => ?_)⟩
  refine ⟨(B5.lt (by decide)), k_sr (n := 109) (a := 105) (j := 2) (t := 108) [(106, 5), (106, 6), (105, 3), (105, 5), (105, 11), (105, 14), (105, 18), (105, 19), (105, 20), (105, 21)] B5 (by decide +kernel) rfl (by rw [B4.1]) (fun h6 B6 => ?_)⟩
  refine ⟨(by rw [B6.1]; decide), k_na (n := 109) (m := 6) [] [(106, 5), (106, 6), (105, 3), (105, 5), (105, 11), (105, 14), (105, 18), (105, 19), (105, 20), (105, 21)] B6 (by decide +kernel) rfl (fun h7 B7 => ?_)⟩
  refine ⟨(B7.lt (by decide)), k_sr (n := 110) (a := 105) (j := 3) (t := 109) [(106, 5), (106, 6), (105, 5), (105, 11), (105, 14), (105, 18), (105, 19), (105, 20), (105, 21)] B7 (by decide +kernel) rfl (by rw [B6.1]) (fun h8 B8 => ?_)⟩
  refine ⟨(by rw [B8.1]; decide), k_na (n := 110) (m := 64) [] [(106, 5), (106, 6), (105, 5), (105, 11), (105, 14), (105, 18), (105, 19), (105, 20), (105, 21)] B8 (by decide +kernel) rfl (fun h9 B9 => ?_)⟩
  refine ⟨(B9.lt (by decide)), k_sr (n := 111) (a := 105) (j := 5) (t := 110) [(106, 5), (106, 6), (105, 11), (105, 14), (105, 18), (105, 19), (105, 20), (105, 21)] B9 (by decide +kernel) rfl (by rw [B8.1]) (fun h10 B10 => ?_)⟩
  refine ⟨(by rw [B10.1]; decide), k_na (n := 111) (m := 60) [] [(106, 5), (106, 6), (105, 11), (105, 14), (105, 18), (105, 19), (105, 20), (105, 21)] B10 (by decide +kernel) rfl (fun h11 B11 => ?_)⟩
  refine ⟨(B11.lt (by decide)), k_sr (n := 112) (a := 105) (j := 11) (t := 111) [(106, 5), (106, 6), (105, 14), (105, 18), (105, 19), (105, 20), (105, 21)] B11 (by decide +kernel) rfl (by rw [B10.1]) (fun h12 B12 => ?_)⟩
  refine ⟨(by rw [B12.1]; decide), k_na (n := 112) (m := 30) [] [(106, 5), (106, 6), (105, 14), (105, 18), (105, 19), (105, 20), (105, 21)] B12 (by decide +kernel) rfl (fun h13 B13 => ?_)⟩
  refine ⟨(B13.lt (by decide)), k_sr (n := 113) (a := 105) (j := 14) (t := 112) [(106, 5), (106, 6), (105, 18), (105, 19), (105, 20), (105, 21)] B13 (by decide +kernel) rfl (by rw [B12.1]) (fun h14 B14 => ?_)⟩
  refine ⟨(by rw [B14.1]; decide), k_na (n := 113) (m := 4) [] [(106, 5), (106, 6), (105, 18), (105, 19), (105, 20), (105, 21)] B14 (by decide +kernel) rfl (fun h15 B15 => ?_)⟩
  refine ⟨(B15.lt (by decide)), k_sr (n := 114) (a := 105) (j := 18) (t := 113) [(106, 5), (106, 6), (105, 19), (105, 20), (105, 21)] B15 (by decide +kernel) rfl (by rw [B14.1]) (fun h16 B16 => ?_)⟩
  refine ⟨(by rw [B16.1]; decide), k_na (n := 114) (m := 4) [] [(106, 5), (106, 6), (105, 19), (105, 20), (105, 21)] B16 (by decide +kernel) rfl (fun h17 B17 => ?_)⟩
  refine ⟨(B17.lt (by decide)), k_sr (n := 115) (a := 105) (j := 19) (t := 114) [(106, 5), (106, 6), (105, 20), (105, 21)] B17 (by decide +kernel) rfl (by rw [B16.1]) (fun h18 B18 => ?_)⟩
  refine ⟨(by rw [B18.1]; decide), k_na (n := 115) (m := 96) [] [(106, 5), (106, 6), (105, 20), (105, 21)] B18 (by decide +kernel) rfl (fun h19 B19 => ?_)⟩
  refine ⟨(B19.lt (by decide)), k_sr (n := 116) (a := 105) (j := 20) (t := 115) [(106, 5), (106, 6), (105, 21)] B19 (by decide +kernel) rfl (by rw [B18.1]) (fun h20 B20 => ?_)⟩
  refine ⟨(by rw [B20.1]; decide), k_na (n := 116) (m := 24) [] [(106, 5), (106, 6), (105, 21)] B20 (by decide +kernel) rfl (fun h21 B21 => ?_)⟩
  refine ⟨(B21.lt (by decide)), k_sr (n := 117) (a := 105) (j := 21) (t := 116) [(106, 5), (106, 6)] B21 (by decide +kernel) rfl (by rw [B20.1]) (fun h22 B22 => ?_)⟩
  refine ⟨(B22.lt (by decide)), 106, B22.r (by decide +kernel), (by decide), (B22.lt (by decide)), B22.v (m := 357) (by decide +kernel) (by unfold vp_in; decide), ?_⟩
  refine k_si (n := 117) (a := 106) (j := 5) (v := 4) [(106, 6)] B22 (by decide +kernel) (fun h23 B23 => ?_)
  refine ⟨(B23.lt (by decide)), 106, B23.r (by decide +kernel), (by decide), (B23.lt (by decide)), B23.v (m := 357) (by decide +kernel) (by unfold vp_in; decide), ?_⟩
  refine k_si (n := 117) (a := 106) (j := 6) (v := 1) [] B23 (by decide +kernel) (fun h24 B24 => ?_)
  exact hq _ B24
