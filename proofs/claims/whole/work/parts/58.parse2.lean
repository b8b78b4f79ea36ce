/-! ===== PURE: a text read: the class ===== -/
def thr (u : Nat) : Int32 := if u = 0 then 109 else 100
/-- what the reader stands on -/
def CB (h0 : hp_T) (T : Nat → Int32) (L u : Nat) : Prop := hp_i h0 91 1 = nI L ∧ hp_i h0 91 2 = thr u ∧ hp_r h0 91 0 = some 6 ∧ L ≤ 60 ∧ ∀ j, j < L → rg (T j) 0 255 ∧ hp_i h0 6 j = (T j).toInt8.toInt32
abbrev PXc : Nat → Nat → Prop := fun a j => a = 92 ∨ (a = 91 ∧ (j = 3 ∨ j = 5 ∨ j = 6))
def CS (h0 : hp_T) (T : Nat → Int32) (L : Nat) (s : sg) (h : hp_T) : Prop := fr PXc h0 h ∧ hp_i h 91 3 = nI s.1 ∧ s.1 ≤ L ∧ ((s.2.1 = 0 ∧ hp_i h 91 6 = -1 ∧ hp_i h 91 5 = nI s.2.2.length ∧ ∀ i, i < s.2.2.length → okx (hp_i h 92 i) ∧ tr (hp_i h 92 i) = s.2.2.getD i 0) ∨ (s.2.1 = 1 ∧ hp_i h 91 6 = nI s.1) ∨ (s.2.1 = 2 ∧ hp_i h 91 6 = -1 ∧ s.1 < L ∧ dig (T s.1) ∧ ∃ k, k ≤ 60 ∧ hp_i h 91 5 = nI k))
def chr (T : Nat → Int32) (L : Nat) (s : sg) : Int32 := if s.2.1 ≠ 1 ∧ s.1 < L then T s.1 else -1
theorem b255 : ((List.range 256).all fun j => ((nI j).toInt8.toInt32 &&& 255) == nI j) = true := by decide +kernel
theorem by255 {x : Int32} (h : rg x 0 255) : x.toInt8.toInt32 &&& 255 = x := by
  obtain ⟨j, hj, rfl⟩ := rg_nI 255 h rfl (by decide)
  have := List.all_eq_true.mp b255 j (List.mem_range.mpr (by omega))
  simpa using this
theorem lo_some {T : Nat → Int32} {L : Nat} {sub : Nat → List Int32 → sg} {lev n : Nat} {s : sg} {c : Int32} (m0 : s.2.1 = 0) (lt : s.1 < L) (e : opc lev (T s.1) = some c) : lo T L sub lev (n + 1) s = lo T L sub lev n (psh c (sub (s.1 + 1) s.2.2)) := by
  conv => lhs; unfold lo
  rw [if_pos ⟨m0, lt⟩, e]
theorem lo_none {T : Nat → Int32} {L : Nat} {sub : Nat → List Int32 → sg} {lev n : Nat} {s : sg} (e : s.2.1 = 0 → s.1 < L → opc lev (T s.1) = none) : lo T L sub lev (n + 1) s = s := by
  conv => lhs; unfold lo
  by_cases g : s.2.1 = 0 ∧ s.1 < L
  · rw [if_pos g, e g.1 g.2]
  · rw [if_neg g]
theorem chr_in {T : Nat → Int32} {L : Nat} {s : sg} (m : s.2.1 ≠ 1) (lt : s.1 < L) : chr T L s = T s.1 := if_pos ⟨m, lt⟩
theorem len_ok {T : Nat → Int32} {L u p : Nat} {out : List Int32} {s : sg} {k : Int32} (P : PRs T L u (p + 1) out s) (hl : out.length ≤ p) (L60 : L ≤ 60) : (s.2.1 = 0 → s.2.2.length < 60) ∧ ((psh k s).2.1 = 0 → (psh k s).2.2.length ≤ (psh k s).1) := by
  obtain ⟨a1, a2, a3, a4, a5⟩ := P
  have len : s.2.1 = 0 → s.2.2.length < s.1 := fun g => by
    obtain ⟨b1, e, b2, b3, b4⟩ := a4 g
    rw [b2, List.length_append]
    omega
  refine ⟨fun g => by have := len g; omega, fun g => ?_⟩
  unfold psh at g ⊢
  by_cases g2 : s.2.1 = 0
  · rw [if_pos g2]
    show (s.2.2 ++ [k]).length ≤ s.1
    rw [List.length_append]
    have := len g2
    show s.2.2.length + 1 ≤ s.1
    omega
  · rw [if_neg g2] at g
    exact absurd g g2
theorem opc5_no {c : Int32} (h : ¬ c = 124) : opc 5 c = none := by
  unfold opc
  rw [if_pos rfl, if_neg h]
theorem opc4_no {c : Int32} (h : ¬ c = 38) : opc 4 c = none := by
  unfold opc
  rw [if_neg (by decide), if_pos rfl, if_neg h]
theorem opc3_no {c : Int32} (h1 : ¬ c = 60) (h2 : ¬ c = 61) (h3 : ¬ c = 62) : opc 3 c = none := by
  unfold opc
  rw [if_neg (by decide), if_neg (by decide), if_pos rfl, if_neg h1, if_neg h2, if_neg h3]
theorem opc2_no {c : Int32} (h1 : ¬ c = 43) (h2 : ¬ c = 45) : opc 2 c = none := by
  unfold opc
  rw [if_neg (by decide), if_neg (by decide), if_neg (by decide), if_pos rfl, if_neg h1, if_neg h2]
theorem opc1_no {c : Int32} (h1 : ¬ c = 42) (h2 : ¬ c = 47) (h3 : ¬ c = 37) : opc 1 c = none := by
  unfold opc
  rw [if_neg (by decide), if_neg (by decide), if_neg (by decide), if_neg (by decide), if_neg h1, if_neg h2, if_neg h3]
theorem w_isDig {x : Int32} {h : hp_T} {Q : Int32 → Prop} : wp_X5_isDigit x h Q = Q (bi (dig x)) := by
  unfold wp_X5_isDigit bi
  by_cases h1 : x < 48
  · have h2 : ¬ 48 ≤ x := Int32.not_le.mpr h1
    simp [dig, h1, h2]
  · have h2 : 48 ≤ x := Int32.not_lt.mp h1
    by_cases h3 : 57 < x
    · have h4 : ¬ x ≤ 57 := Int32.not_le.mpr h3
      simp [dig, h1, h2, h3, h4]
    · have h4 : x ≤ 57 := Int32.not_lt.mp h3
      simp [dig, h1, h2, h3, h4]
section CC
variable {h0 h : hp_T} {T : Nat → Int32} {L u : Nat} {s : sg}
theorem CS_L (B : CB h0 T L u) (C : CS h0 T L s h) : hp_i h 91 1 = nI L := by
  rw [C.1.2 91 1 (by omega)]
  exact B.1
theorem CS_t (B : CB h0 T L u) (C : CS h0 T L s h) : hp_i h 91 2 = thr u := by
  rw [C.1.2 91 2 (by omega)]
  exact B.2.1
theorem w_ahead {Q : Int32 → Prop} (B : CB h0 T L u) (C : CS h0 T L s h) (hq : Q (chr T L s)) : wp_X5_ahead h Q := by
  obtain ⟨b1, b2, b3, b4, b5⟩ := B
  have hL : hp_i h 91 1 = nI L := CS_L ⟨b1, b2, b3, b4, b5⟩ C
  obtain ⟨f, c3, cL, cm⟩ := C
  unfold wp_X5_ahead
  have go : hp_i h 91 6 = -1 → s.2.1 ≠ 1 → ((0 ≤ hp_i h 91 6 → Q (-1)) ∧ (¬ 0 ≤ hp_i h 91 6 → ((hp_i h 91 1 ≤ hp_i h 91 3 → Q (-1)) ∧ (¬ hp_i h 91 1 ≤ hp_i h 91 3 → (∃ q_3, (hp_r h 91 0 = some q_3) ∧ (ab_k q_3 = 11) ∧ (vp_in (hp_i h 91 3) 60) ∧ (Q ((hp_i h q_3 ((hp_i h 91 3).toNatClampNeg)) &&& (255 : Int32)))))))) := by
    intro e6 m1
    rw [e6, hL, c3, nI_clamp (n := s.1) (by omega)]
    refine br_n (by decide) ⟨fun z => ?_, fun z => ?_⟩
    · rw [nI_leI (by omega) (by omega)] at z
      unfold chr at hq
      rw [if_neg (by omega)] at hq
      exact hq
    · rw [nI_leI (by omega) (by omega)] at z
      have lt : s.1 < L := by omega
      rw [chr_in m1 lt] at hq
      refine ⟨6, by rw [f.r]; exact b3, by decide, vp_in_nI (by omega) (by decide), ?_⟩
      rw [f.2 6 s.1 (by omega), (b5 s.1 lt).2, by255 (b5 s.1 lt).1]
      exact hq
  rcases cm with ⟨m, e6, -⟩ | ⟨m, e6⟩ | ⟨m, e6, -⟩
  · exact go e6 (by omega)
  · rw [e6]
    unfold chr at hq
    rw [if_neg (by omega)] at hq
    exact br_y (nI_pos' (by omega)) hq
  · exact go e6 (by omega)
theorem CS_adv (C : CS h0 T L s h) (m0 : s.2.1 = 0) (lt : s.1 < L) {h1 : hp_T} (e : h1 = hp_si h 91 3 (hp_i h 91 3 + 1)) : CS h0 T L (s.1 + 1, 0, s.2.2) h1 := by
  obtain ⟨f, c3, cL, cm⟩ := C
  subst e
  refine ⟨f.si (Or.inr ⟨rfl, Or.inl rfl⟩), ?_, lt, Or.inl ⟨rfl, ?_, ?_, ?_⟩⟩
  · rw [hp_i_si, if_pos ⟨rfl, rfl⟩, c3]
    exact nI_1 _
  · rcases cm with ⟨m, e6, e5, et⟩ | ⟨m, e6⟩ | ⟨m, e6, -⟩
    · rw [hp_i_si, if_neg (by omega)]; exact e6
    · omega
    · omega
  · rcases cm with ⟨m, e6, e5, et⟩ | ⟨m, e6⟩ | ⟨m, e6, -⟩
    · rw [hp_i_si, if_neg (by omega)]; exact e5
    · omega
    · omega
  · intro i hi
    rcases cm with ⟨m, e6, e5, et⟩ | ⟨m, e6⟩ | ⟨m, e6, -⟩
    · rw [hp_i_si, if_neg (by omega)]; exact et i hi
    · omega
    · omega
theorem w_step {c k : Int32} {Q : hp_T → Prop} (C : CS h0 T L s h) (L60 : L ≤ 60) (hk : tr c = k) (ho : okx c) (hl : s.2.1 = 0 → s.2.2.length < 60) (hq : ∀ h1, CS h0 T L (psh k s) h1 → Q h1) : wp_X5_step c h Q := by
  have C0 := C
  obtain ⟨f, c3, cL, cm⟩ := C
  unfold wp_X5_step
  rcases cm with ⟨m, e6, e5, et⟩ | ⟨m, e6⟩ | ⟨m, e6, lt, dg, n, hn, e5⟩
  · have hl := hl m
    rw [e6, e5, nI_clamp (n := s.2.2.length) (by omega)]
    refine br_n (by decide) (br_n (nI_ge (by omega) (by decide)) ⟨vp_in_nI hl (by decide), ?_⟩)
    rintro h1 rfl
    rw [hp_i_si, if_neg (show ¬ (91 = 92 ∧ _) by omega), e5]
    rintro h2 rfl
    refine hq _ ?_
    unfold psh
    rw [if_pos m]
    have o : ∀ j, j ≠ 5 → hp_i (hp_si (hp_si h 92 s.2.2.length c) 91 5 (nI s.2.2.length + 1)) 91 j = hp_i h 91 j := fun j hj => by rw [hp_i_si, if_neg (by omega), hp_i_si, if_neg (by omega)]
    refine ⟨(f.si (Or.inl rfl)).si (Or.inr ⟨rfl, Or.inr (Or.inl rfl)⟩), by rw [o 3 (by decide)]; exact c3, cL, Or.inl ⟨rfl, by rw [o 6 (by decide)]; exact e6, ?_, fun i hi => ?_⟩⟩
    · rw [hp_i_si, if_pos ⟨rfl, rfl⟩]
      show _ = nI (s.2.2 ++ [k]).length
      rw [List.length_append]
      exact nI_1 _
    · have hi : i < (s.2.2 ++ [k]).length := hi
      rw [List.length_append] at hi
      have hi : i < s.2.2.length + 1 := hi
      rw [hp_i_si, if_neg (by omega), hp_i_si]
      show _ ∧ _ = (s.2.2 ++ [k]).getD i 0
      rw [getD_app]
      by_cases g : i = s.2.2.length
      · rw [if_pos ⟨rfl, g⟩, if_neg (by omega), if_pos g]
        exact ⟨ho, hk⟩
      · rw [if_neg (by omega), if_pos (by omega)]
        exact et i (by omega)
  · rw [e6]
    refine br_y (nI_pos' (by omega)) (hq h ?_)
    unfold psh
    rw [if_neg (by omega)]
    exact C0
  · have ep : psh k s = s := by unfold psh; rw [if_neg (by omega)]
    rw [ep] at hq
    rw [e6, e5]
    refine br_n (by decide) ⟨fun _ => hq h C0, fun z => ?_⟩
    have z : n < 60 := by
      rw [nI_leI (by decide) (by omega)] at z
      omega
    refine ⟨vp_in_nI z (by decide), ?_⟩
    rw [nI_clamp (n := n) (by omega)]
    rintro h1 rfl
    rw [hp_i_si, if_neg (show ¬ (91 = 92 ∧ _) by omega), e5]
    rintro h2 rfl
    have o : ∀ j, j ≠ 5 → hp_i (hp_si (hp_si h 92 n c) 91 5 (nI n + 1)) 91 j = hp_i h 91 j := fun j hj => by rw [hp_i_si, if_neg (by omega), hp_i_si, if_neg (by omega)]
    exact hq _ ⟨(f.si (Or.inl rfl)).si (Or.inr ⟨rfl, Or.inr (Or.inl rfl)⟩), by rw [o 3 (by decide)]; exact c3, cL, Or.inr (Or.inr ⟨m, by rw [o 6 (by decide)]; exact e6, lt, dg, n + 1, by omega, by rw [hp_i_si, if_pos ⟨rfl, rfl⟩]; exact nI_1 n⟩)⟩
theorem w_fail {Q : hp_T → Prop} (C : CS h0 T L s h) (L60 : L ≤ 60) (hq : ∀ h1, CS h0 T L (s.1, 1, s.2.2) h1 → Q h1) : wp_X5_fail h Q := by
  obtain ⟨f, c3, cL, cm⟩ := C
  unfold wp_X5_fail
  have go : hp_i h 91 6 = -1 → ((0 ≤ hp_i h 91 6 → Q h) ∧ (¬ 0 ≤ hp_i h 91 6 → ∀ h_2, h_2 = hp_si h 91 6 (hp_i h 91 3) → Q h_2)) := by
    intro e6
    rw [e6]
    refine br_n (by decide) ?_
    rintro h1 rfl
    exact hq _ ⟨f.si (Or.inr ⟨rfl, Or.inr (Or.inr rfl)⟩), by rw [hp_i_si, if_neg (by omega)]; exact c3, cL, Or.inr (Or.inl ⟨rfl, by rw [hp_i_si, if_pos ⟨rfl, rfl⟩]; exact c3⟩)⟩
  rcases cm with ⟨m, e6, e5, et⟩ | ⟨m, e6⟩ | ⟨m, e6, -⟩
  · exact go e6
  · rw [e6]
    exact br_y (nI_pos' (by omega)) (hq h ⟨f, c3, cL, Or.inr (Or.inl ⟨rfl, e6⟩)⟩)
  · exact go e6
theorem ch_op {c : Int32} (C : CS h0 T L s h) (e : chr T L s = c) (hd : ¬ dig c) (h1 : c ≠ -1) : s.2.1 = 0 ∧ s.1 < L ∧ T s.1 = c := by
  unfold chr at e
  by_cases g : s.2.1 ≠ 1 ∧ s.1 < L
  · rw [if_pos g] at e
    rcases C.2.2.2 with ⟨m, -⟩ | ⟨m, -⟩ | ⟨m, -, -, dg, -⟩
    · exact ⟨m, g.2, e⟩
    · exact absurd m g.1
    · rw [e] at dg
      exact absurd dg hd
  · rw [if_neg g] at e
    exact absurd e.symm h1
theorem wT_L {rc : rt_X5} {x1 : Int32} {sub : Nat → List Int32 → sg} {Q : hp_T → Prop} (B : CB h0 T L u) (hs : ∀ p out, p ≤ L → PRs T L u p out (sub p out)) (SUB : ∀ (p : Nat) (out : List Int32) (h : hp_T) (Q : hp_T → Prop), p ≤ L → out.length ≤ p → CS h0 T L (p, 0, out) h → (∀ h1, CS h0 T L (sub p out) h1 → Q h1) → rc.2.1 x1 h Q) : ∀ (n i nn : Nat) (s : sg) (h : hp_T), i + n = L → n < nn → CS h0 T L s h → (s.2.1 = 0 → s.2.2.length ≤ s.1) → (∀ h1, CS h0 T L (lo T L sub 5 n s) h1 → Q h1) → wp_X5_readT_L7 rc x1 Q nn (nI i) h := by
  have L60 := B.2.2.2.1
  intro n
  induction n with
  | zero =>
    intro i nn s h hi hnn C hl hq
    obtain ⟨nn, rfl⟩ : ∃ m, nn = m + 1 := ⟨nn - 1, by omega⟩
    unfold wp_X5_readT_L7
    rw [CS_L B C]
    exact ⟨fun _ => hq h C, fun z => absurd (nI_le (by omega) (by omega)) z⟩
  | succ n ih =>
    intro i nn s h hi hnn C hl hq
    obtain ⟨nn, rfl⟩ : ∃ m, nn = m + 1 := ⟨nn - 1, by omega⟩
    unfold wp_X5_readT_L7
    rw [CS_L B C, show nI i + 1 = nI (i + 1) from nI_1 i]
    have go : ∀ c k : Int32, chr T L s = c → ¬ dig c → c ≠ -1 → opc 5 c = some k → tr (-c) = k → okx (-c) → ∀ h7, h7 = hp_si h 91 3 (hp_i h 91 3 + 1) → rc.2.1 x1 h7 (fun h8 => wp_X5_step (-c) h8 (fun h10 => wp_X5_readT_L7 rc x1 Q nn (nI (i + 1)) h10)) := by
      intro c k e1 e2 e3 e4 e5 e6 h7 eh
      obtain ⟨m0, lt, ec⟩ := ch_op C e1 e2 e3
      have P := hs (s.1 + 1) s.2.2 lt
      obtain ⟨l1, l2⟩ := len_ok (k := k) P (hl m0) L60
      refine SUB (s.1 + 1) s.2.2 h7 _ lt (by have := hl m0; omega) (CS_adv C m0 lt eh) (fun h8 C8 => ?_)
      refine w_step C8 L60 e5 e6 l1 (fun h10 C10 => ?_)
      refine ih (i + 1) nn _ h10 (by omega) (by omega) C10 l2 ?_
      rw [lo_some m0 lt (by rw [ec]; exact e4)] at hq
      exact hq
    have no : (s.2.1 = 0 → s.1 < L → opc 5 (T s.1) = none) → Q h := by
      intro e
      rw [lo_none e] at hq
      exact hq h C
    refine ⟨fun z => absurd z (nI_ge (by omega) (by omega)), fun _ => ?_⟩
    unfold wp_X5_takes
    refine w_ahead B C ⟨fun e => ?_, fun e => ⟨fun _ => no (fun m0 lt => ?_), fun w => absurd rfl w⟩⟩
    · intro h3 e3
      exact ⟨fun w => absurd w (by decide), fun _ => go 124 (-11) e (by decide) (by decide) rfl rfl (by unfold okx; decide) h3 e3⟩
    · rw [chr_in (by omega) lt] at e
      exact opc5_no e
theorem wA_L {rc : rt_X5} {x1 : Int32} {sub : Nat → List Int32 → sg} {Q : hp_T → Prop} (B : CB h0 T L u) (hs : ∀ p out, p ≤ L → PRs T L u p out (sub p out)) (SUB : ∀ (p : Nat) (out : List Int32) (h : hp_T) (Q : hp_T → Prop), p ≤ L → out.length ≤ p → CS h0 T L (p, 0, out) h → (∀ h1, CS h0 T L (sub p out) h1 → Q h1) → rc.2.2.1 x1 h Q) : ∀ (n i nn : Nat) (s : sg) (h : hp_T), i + n = L → n < nn → CS h0 T L s h → (s.2.1 = 0 → s.2.2.length ≤ s.1) → (∀ h1, CS h0 T L (lo T L sub 4 n s) h1 → Q h1) → wp_X5_readA_L7 rc x1 Q nn (nI i) h := by
  have L60 := B.2.2.2.1
  intro n
  induction n with
  | zero =>
    intro i nn s h hi hnn C hl hq
    obtain ⟨nn, rfl⟩ : ∃ m, nn = m + 1 := ⟨nn - 1, by omega⟩
    unfold wp_X5_readA_L7
    rw [CS_L B C]
    exact ⟨fun _ => hq h C, fun z => absurd (nI_le (by omega) (by omega)) z⟩
  | succ n ih =>
    intro i nn s h hi hnn C hl hq
    obtain ⟨nn, rfl⟩ : ∃ m, nn = m + 1 := ⟨nn - 1, by omega⟩
    unfold wp_X5_readA_L7
    rw [CS_L B C, show nI i + 1 = nI (i + 1) from nI_1 i]
    have go : ∀ c k : Int32, chr T L s = c → ¬ dig c → c ≠ -1 → opc 4 c = some k → tr (-c) = k → okx (-c) → ∀ h7, h7 = hp_si h 91 3 (hp_i h 91 3 + 1) → rc.2.2.1 x1 h7 (fun h8 => wp_X5_step (-c) h8 (fun h10 => wp_X5_readA_L7 rc x1 Q nn (nI (i + 1)) h10)) := by
      intro c k e1 e2 e3 e4 e5 e6 h7 eh
      obtain ⟨m0, lt, ec⟩ := ch_op C e1 e2 e3
      have P := hs (s.1 + 1) s.2.2 lt
      obtain ⟨l1, l2⟩ := len_ok (k := k) P (hl m0) L60
      refine SUB (s.1 + 1) s.2.2 h7 _ lt (by have := hl m0; omega) (CS_adv C m0 lt eh) (fun h8 C8 => ?_)
      refine w_step C8 L60 e5 e6 l1 (fun h10 C10 => ?_)
      refine ih (i + 1) nn _ h10 (by omega) (by omega) C10 l2 ?_
      rw [lo_some m0 lt (by rw [ec]; exact e4)] at hq
      exact hq
    have no : (s.2.1 = 0 → s.1 < L → opc 4 (T s.1) = none) → Q h := by
      intro e
      rw [lo_none e] at hq
      exact hq h C
    refine ⟨fun z => absurd z (nI_ge (by omega) (by omega)), fun _ => ?_⟩
    unfold wp_X5_takes
    refine w_ahead B C ⟨fun e => ?_, fun e => ⟨fun _ => no (fun m0 lt => ?_), fun w => absurd rfl w⟩⟩
    · intro h3 e3
      exact ⟨fun w => absurd w (by decide), fun _ => go 38 (-12) e (by decide) (by decide) rfl rfl (by unfold okx; decide) h3 e3⟩
    · rw [chr_in (by omega) lt] at e
      exact opc4_no e
theorem wS_L {rc : rt_X5} {x1 : Int32} {sub : Nat → List Int32 → sg} {Q : hp_T → Prop} (B : CB h0 T L u) (hs : ∀ p out, p ≤ L → PRs T L u p out (sub p out)) (SUB : ∀ (p : Nat) (out : List Int32) (h : hp_T) (Q : hp_T → Prop), p ≤ L → out.length ≤ p → CS h0 T L (p, 0, out) h → (∀ h1, CS h0 T L (sub p out) h1 → Q h1) → rc.2.2.2.2.1 x1 h Q) : ∀ (n i nn : Nat) (s : sg) (h : hp_T), i + n = L → n < nn → CS h0 T L s h → (s.2.1 = 0 → s.2.2.length ≤ s.1) → (∀ h1, CS h0 T L (lo T L sub 2 n s) h1 → Q h1) → wp_X5_readS_L7 rc x1 Q nn (nI i) h := by
  have L60 := B.2.2.2.1
  intro n
  induction n with
  | zero =>
    intro i nn s h hi hnn C hl hq
    obtain ⟨nn, rfl⟩ : ∃ m, nn = m + 1 := ⟨nn - 1, by omega⟩
    unfold wp_X5_readS_L7
    rw [CS_L B C]
    exact ⟨fun _ => hq h C, fun z => absurd (nI_le (by omega) (by omega)) z⟩
  | succ n ih =>
    intro i nn s h hi hnn C hl hq
    obtain ⟨nn, rfl⟩ : ∃ m, nn = m + 1 := ⟨nn - 1, by omega⟩
    unfold wp_X5_readS_L7
    rw [CS_L B C, show nI i + 1 = nI (i + 1) from nI_1 i]
    have go : ∀ c k : Int32, chr T L s = c → ¬ dig c → c ≠ -1 → opc 2 c = some k → tr (-c) = k → okx (-c) → ∀ h7, h7 = hp_si h 91 3 (hp_i h 91 3 + 1) → rc.2.2.2.2.1 x1 h7 (fun h8 => wp_X5_step (-c) h8 (fun h10 => wp_X5_readS_L7 rc x1 Q nn (nI (i + 1)) h10)) := by
      intro c k e1 e2 e3 e4 e5 e6 h7 eh
      obtain ⟨m0, lt, ec⟩ := ch_op C e1 e2 e3
      have P := hs (s.1 + 1) s.2.2 lt
      obtain ⟨l1, l2⟩ := len_ok (k := k) P (hl m0) L60
      refine SUB (s.1 + 1) s.2.2 h7 _ lt (by have := hl m0; omega) (CS_adv C m0 lt eh) (fun h8 C8 => ?_)
      refine w_step C8 L60 e5 e6 l1 (fun h10 C10 => ?_)
      refine ih (i + 1) nn _ h10 (by omega) (by omega) C10 l2 ?_
      rw [lo_some m0 lt (by rw [ec]; exact e4)] at hq
      exact hq
    have no : (s.2.1 = 0 → s.1 < L → opc 2 (T s.1) = none) → Q h := by
      intro e
      rw [lo_none e] at hq
      exact hq h C
    refine ⟨fun z => absurd z (nI_ge (by omega) (by omega)), fun _ => ?_⟩
    refine w_ahead B C ⟨fun e0 => w_ahead B C (by rw [e0]; exact go 43 (-16) e0 (by decide) (by decide) rfl rfl (by unfold okx; decide)), fun e0 => ?_⟩
    refine w_ahead B C ⟨fun e1 => w_ahead B C (by rw [e1]; exact go 45 (-17) e1 (by decide) (by decide) rfl rfl (by unfold okx; decide)), fun e1 => ?_⟩
    refine no (fun m0 lt => ?_)
    rw [chr_in (by omega) lt] at e0
    rw [chr_in (by omega) lt] at e1
    exact opc2_no e0 e1
theorem wP_L {rc : rt_X5} {x1 : Int32} {sub : Nat → List Int32 → sg} {Q : hp_T → Prop} (B : CB h0 T L u) (hs : ∀ p out, p ≤ L → PRs T L u p out (sub p out)) (SUB : ∀ (p : Nat) (out : List Int32) (h : hp_T) (Q : hp_T → Prop), p ≤ L → out.length ≤ p → CS h0 T L (p, 0, out) h → (∀ h1, CS h0 T L (sub p out) h1 → Q h1) → rc.2.2.2.2.2 x1 h Q) : ∀ (n i nn : Nat) (s : sg) (h : hp_T), i + n = L → n < nn → CS h0 T L s h → (s.2.1 = 0 → s.2.2.length ≤ s.1) → (∀ h1, CS h0 T L (lo T L sub 1 n s) h1 → Q h1) → wp_X5_readP_L7 rc x1 Q nn (nI i) h := by
  have L60 := B.2.2.2.1
  intro n
  induction n with
  | zero =>
    intro i nn s h hi hnn C hl hq
    obtain ⟨nn, rfl⟩ : ∃ m, nn = m + 1 := ⟨nn - 1, by omega⟩
    unfold wp_X5_readP_L7
    rw [CS_L B C]
    exact ⟨fun _ => hq h C, fun z => absurd (nI_le (by omega) (by omega)) z⟩
  | succ n ih =>
    intro i nn s h hi hnn C hl hq
    obtain ⟨nn, rfl⟩ : ∃ m, nn = m + 1 := ⟨nn - 1, by omega⟩
    unfold wp_X5_readP_L7
    rw [CS_L B C, show nI i + 1 = nI (i + 1) from nI_1 i]
    have go : ∀ c k : Int32, chr T L s = c → ¬ dig c → c ≠ -1 → opc 1 c = some k → tr (-c) = k → okx (-c) → ∀ h7, h7 = hp_si h 91 3 (hp_i h 91 3 + 1) → rc.2.2.2.2.2 x1 h7 (fun h8 => wp_X5_step (-c) h8 (fun h10 => wp_X5_readP_L7 rc x1 Q nn (nI (i + 1)) h10)) := by
      intro c k e1 e2 e3 e4 e5 e6 h7 eh
      obtain ⟨m0, lt, ec⟩ := ch_op C e1 e2 e3
      have P := hs (s.1 + 1) s.2.2 lt
      obtain ⟨l1, l2⟩ := len_ok (k := k) P (hl m0) L60
      refine SUB (s.1 + 1) s.2.2 h7 _ lt (by have := hl m0; omega) (CS_adv C m0 lt eh) (fun h8 C8 => ?_)
      refine w_step C8 L60 e5 e6 l1 (fun h10 C10 => ?_)
      refine ih (i + 1) nn _ h10 (by omega) (by omega) C10 l2 ?_
      rw [lo_some m0 lt (by rw [ec]; exact e4)] at hq
      exact hq
    have no : (s.2.1 = 0 → s.1 < L → opc 1 (T s.1) = none) → Q h := by
      intro e
      rw [lo_none e] at hq
      exact hq h C
    refine ⟨fun z => absurd z (nI_ge (by omega) (by omega)), fun _ => ?_⟩
    refine w_ahead B C ⟨fun e0 => w_ahead B C (by rw [e0]; exact go 42 (-18) e0 (by decide) (by decide) rfl rfl (by unfold okx; decide)), fun e0 => ?_⟩
    refine w_ahead B C ⟨fun e1 => w_ahead B C (by rw [e1]; exact go 47 (-19) e1 (by decide) (by decide) rfl rfl (by unfold okx; decide)), fun e1 => ?_⟩
    refine w_ahead B C ⟨fun e2 => w_ahead B C (by rw [e2]; exact go 37 (-20) e2 (by decide) (by decide) rfl rfl (by unfold okx; decide)), fun e2 => ?_⟩
    refine no (fun m0 lt => ?_)
    rw [chr_in (by omega) lt] at e0
    rw [chr_in (by omega) lt] at e1
    rw [chr_in (by omega) lt] at e2
    exact opc1_no e0 e1 e2
end CC
