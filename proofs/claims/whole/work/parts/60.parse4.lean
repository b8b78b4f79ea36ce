/-! ===== PURE: a text read: the reference ===== -/
def MB (h0 : hp_T) (T : Nat → Int32) (L u : Nat) : Prop := hp_i h0 106 7 = nI L ∧ hp_i h0 105 9 = nI u ∧ L ≤ 60 ∧ ∀ j, j < L → rg (T j) 0 255 ∧ hp_i h0 106 (153 + j) = T j
abbrev PXm : Nat → Nat → Prop := fun a j => a = 111 ∨ (a = 105 ∧ (j = 6 ∨ j = 7 ∨ j = 8 ∨ j = 10))
def MS (h0 : hp_T) (L o : Nat) (s : sg) (h : hp_T) : Prop := fr PXm h0 h ∧ hp_i h 105 6 = nI s.1 ∧ s.1 ≤ L ∧ hp_i h 105 7 = nI o ∧ ((s.2.1 = 0 ∧ hp_i h 105 10 = 0 ∧ hp_i h 105 8 = nI s.2.2.length ∧ ∀ i, i < s.2.2.length → hp_i h 111 i = s.2.2.getD i 0) ∨ (s.2.1 ≠ 0 ∧ hp_i h 105 10 = 1))
section MC
variable {h0 h : hp_T} {T : Nat → Int32} {L u o : Nat} {s : sg}
theorem m_byte {Q : Int32 → Prop} (B : MB h0 T L u) (C : MS h0 L o s h) (hq : Q (if s.1 < L then T s.1 else -1)) : wp_X8_byteHere h Q := by
  obtain ⟨b1, b2, b3, b4⟩ := B
  obtain ⟨f, c6, cL, c7, cm⟩ := C
  unfold wp_X8_byteHere
  rw [f.2 106 7 (by omega), b1, c6]
  refine ⟨fun z => ?_, fun z => ?_⟩
  · rw [nI_leI (by omega) (by omega)] at z
    rw [if_neg (by omega)] at hq
    exact hq
  · rw [nI_leI (by omega) (by omega)] at z
    have lt : s.1 < L := by omega
    rw [if_pos lt] at hq
    rw [show (153 : Int32) + nI s.1 = nI (153 + s.1) from nI_add 153 s.1, nI_clamp (n := 153 + s.1) (by omega), f.2 106 (153 + s.1) (by omega), (b4 s.1 lt).2]
    exact ⟨vp_in_nI (by omega) (by decide), hq⟩
abbrev hre (T : Nat → Int32) (L : Nat) (s : sg) (c : Int32) : Prop := s.2.1 = 0 ∧ s.1 < L ∧ T s.1 = c
theorem m_isHere {c : Int32} {Q : Int32 → Prop} (B : MB h0 T L u) (C : MS h0 L o s h) (hc : c ≠ -1) (q1 : hre T L s c → Q 1) (q0 : ¬ hre T L s c → Q 0) : wp_X8_isHere c h Q := by
  unfold wp_X8_isHere
  rcases C.2.2.2.2 with ⟨m, e, -⟩ | ⟨m, e⟩
  · refine br_y e (m_byte B C ?_)
    by_cases lt : s.1 < L
    · rw [if_pos lt]
      exact ⟨fun g => q1 ⟨m, lt, g⟩, fun g => q0 (fun w => g w.2.2)⟩
    · rw [if_neg lt]
      exact br_n (fun w => hc w.symm) (q0 (fun w => lt w.2.1))
  · rw [e]
    exact br_n (by decide) (q0 (fun w => m w.1))
theorem in_48_57 {x : Int32} {h : hp_T} {Q : Int32 → Prop} : wp_X8_in x.toInt64 (48 : Int64) (57 : Int64) h Q = Q (bi (dig x)) := w_in32 (lo := 48) (hi := 57)
abbrev hrd (T : Nat → Int32) (L : Nat) (s : sg) : Prop := s.2.1 = 0 ∧ s.1 < L ∧ dig (T s.1)
theorem m_isDig {Q : Int32 → Prop} (B : MB h0 T L u) (C : MS h0 L o s h) (q1 : hrd T L s → Q 1) (q0 : ¬ hrd T L s → Q 0) : wp_X8_isDigitHere h Q := by
  unfold wp_X8_isDigitHere
  rcases C.2.2.2.2 with ⟨m, e, -⟩ | ⟨m, e⟩
  · refine br_y e (m_byte B C ?_)
    rw [in_48_57]
    simp only [bi_0]
    by_cases lt : s.1 < L
    · rw [if_pos lt]
      exact ⟨fun g => q0 (fun w => g w.2.2), fun g => q1 ⟨m, lt, Classical.not_not.mp g⟩⟩
    · rw [if_neg lt]
      exact br_y (by decide) (q0 (fun w => lt w.2.1))
  · rw [e]
    exact br_n (by decide) (q0 (fun w => m w.1))
theorem m_writes {k : Int32} {Q : hp_T → Prop} (C : MS h0 L o s h) (hl : s.2.1 = 0 → s.2.2.length < 60) (hq : ∀ h1, MS h0 L o (psh k s) h1 → Q h1) : wp_X8_writes k h Q := by
  have C0 := C
  obtain ⟨f, c6, cL, c7, cm⟩ := C
  unfold wp_X8_writes
  rcases cm with ⟨m, e, e8, et⟩ | ⟨m, e⟩
  · have hl := hl m
    rw [e8, nI_clamp (n := s.2.2.length) (by omega)]
    refine br_y e ⟨vp_in_nI hl (by decide), ?_⟩
    rintro h1 rfl
    rw [hp_i_si, if_neg (show ¬ (105 = 111 ∧ _) by omega), e8]
    rintro h2 rfl
    refine hq _ ?_
    unfold psh
    rw [if_pos m]
    have ob : ∀ j, j ≠ 8 → hp_i (hp_si (hp_si h 111 s.2.2.length k) 105 8 (nI s.2.2.length + 1)) 105 j = hp_i h 105 j := fun j hj => by rw [hp_i_si, if_neg (by omega), hp_i_si, if_neg (by omega)]
    refine ⟨(f.si (Or.inl rfl)).si (Or.inr ⟨rfl, by omega⟩), by rw [ob 6 (by decide)]; exact c6, cL, by rw [ob 7 (by decide)]; exact c7, Or.inl ⟨rfl, by rw [ob 10 (by decide)]; exact e, ?_, fun i hi => ?_⟩⟩
    · rw [hp_i_si, if_pos ⟨rfl, rfl⟩]
      show _ = nI (s.2.2 ++ [k]).length
      rw [List.length_append]
      exact nI_1 _
    · have hi : i < (s.2.2 ++ [k]).length := hi
      rw [List.length_append] at hi
      have hi : i < s.2.2.length + 1 := hi
      rw [hp_i_si, if_neg (by omega), hp_i_si]
      show _ = (s.2.2 ++ [k]).getD i 0
      rw [getD_app]
      by_cases g : i = s.2.2.length
      · rw [if_pos ⟨rfl, g⟩, if_neg (by omega), if_pos g]
      · rw [if_neg (by omega), if_pos (by omega)]
        exact et i (by omega)
  · rw [e]
    refine br_n (by decide) (hq h ?_)
    unfold psh
    rw [if_neg m]
    exact C0
theorem MS_adv (C : MS h0 L o s h) (m0 : s.2.1 = 0) (lt : s.1 < L) {h1 : hp_T} (e : h1 = hp_si h 105 6 (hp_i h 105 6 + 1)) : MS h0 L o (s.1 + 1, 0, s.2.2) h1 := by
  obtain ⟨f, c6, cL, c7, cm⟩ := C
  subst e
  rcases cm with ⟨m, e10, e8, et⟩ | ⟨m, e10⟩
  · refine ⟨f.si (Or.inr ⟨rfl, Or.inl rfl⟩), ?_, lt, by rw [hp_i_si, if_neg (by omega)]; exact c7, Or.inl ⟨rfl, by rw [hp_i_si, if_neg (by omega)]; exact e10, by rw [hp_i_si, if_neg (by omega)]; exact e8, fun i hi => by rw [hp_i_si, if_neg (by omega)]; exact et i hi⟩⟩
    rw [hp_i_si, if_pos ⟨rfl, rfl⟩, c6]
    exact nI_1 _
  · exact absurd m0 m
theorem MS_o {o' : Nat} {v : Int32} (C : MS h0 L o s h) (hv' : v = nI o') : MS h0 L o' s (hp_si h 105 7 v) := by
  obtain ⟨f, c6, cL, c7, cm⟩ := C
  refine ⟨f.si (Or.inr ⟨rfl, Or.inr (Or.inl rfl)⟩), by rw [hp_i_si, if_neg (by omega)]; exact c6, cL, by rw [hp_i_si, if_pos ⟨rfl, rfl⟩]; exact hv', ?_⟩
  rcases cm with ⟨m, e10, e8, et⟩ | ⟨m, e10⟩
  · exact Or.inl ⟨m, by rw [hp_i_si, if_neg (by omega)]; exact e10, by rw [hp_i_si, if_neg (by omega)]; exact e8, fun i hi => by rw [hp_i_si, if_neg (by omega)]; exact et i hi⟩
  · exact Or.inr ⟨m, by rw [hp_i_si, if_neg (by omega)]; exact e10⟩
theorem MS_w (C : MS h0 L o s h) : MS h0 L o (s.1, 1, s.2.2) (hp_si h 105 10 1) := by
  obtain ⟨f, c6, cL, c7, cm⟩ := C
  exact ⟨f.si (Or.inr ⟨rfl, by omega⟩), by rw [hp_i_si, if_neg (by omega)]; exact c6, cL, by rw [hp_i_si, if_neg (by omega)]; exact c7, Or.inr ⟨by show (1 : Nat) ≠ 0; decide, by rw [hp_i_si, if_pos ⟨rfl, rfl⟩]⟩⟩
theorem MS_r (C : MS h0 L o s h) (m0 : s.2.1 = 0) : MS h0 L o s (hp_si h 105 10 0) := by
  obtain ⟨f, c6, cL, c7, cm⟩ := C
  refine ⟨f.si (Or.inr ⟨rfl, by omega⟩), by rw [hp_i_si, if_neg (by omega)]; exact c6, cL, by rw [hp_i_si, if_neg (by omega)]; exact c7, ?_⟩
  rcases cm with ⟨m, e10, e8, et⟩ | ⟨m, e10⟩
  · exact Or.inl ⟨m, by rw [hp_i_si, if_pos ⟨rfl, rfl⟩], by rw [hp_i_si, if_neg (by omega)]; exact e8, fun i hi => by rw [hp_i_si, if_neg (by omega)]; exact et i hi⟩
  · exact absurd m0 m
theorem MS_6 (C : MS h0 L o s h) : MS h0 L o s (hp_si h 105 6 (hp_i h 105 6 + 0)) := by
  obtain ⟨f, c6, cL, c7, cm⟩ := C
  refine ⟨f.si (Or.inr ⟨rfl, by omega⟩), by rw [hp_i_si, if_pos ⟨rfl, rfl⟩, Int32.add_zero]; exact c6, cL, by rw [hp_i_si, if_neg (by omega)]; exact c7, ?_⟩
  rcases cm with ⟨m, e10, e8, et⟩ | ⟨m, e10⟩
  · exact Or.inl ⟨m, by rw [hp_i_si, if_neg (by omega)]; exact e10, by rw [hp_i_si, if_neg (by omega)]; exact e8, fun i hi => by rw [hp_i_si, if_neg (by omega)]; exact et i hi⟩
  · exact Or.inr ⟨m, by rw [hp_i_si, if_neg (by omega)]; exact e10⟩
theorem mT_L {rc : rt_X8} {sub : Nat → List Int32 → sg} {Q : hp_T → Prop} (B : MB h0 T L u) (hs : ∀ p out, p ≤ L → PRs T L u p out (sub p out)) (SUB : ∀ (p : Nat) (out : List Int32) (h : hp_T) (Q : hp_T → Prop), p ≤ L → out.length ≤ p → MS h0 L o (p, 0, out) h → (∀ h1, MS h0 L o (sub p out) h1 → Q h1) → rc.2.1 h Q) : ∀ (n nn : Nat) (s : sg) (h : hp_T), n < nn → MS h0 L o s h → (s.2.1 = 0 → s.2.2.length ≤ s.1 ∧ L < n + s.1) → (∀ h1, MS h0 L o (lo T L sub 5 n s) h1 → Q h1) → wp_X8_readsText_L4 rc Q nn h := by
  have L60 := B.2.2.1
  intro n
  induction n with
  | zero =>
    intro nn s h hnn C hl hq
    obtain ⟨nn, rfl⟩ : ∃ m, nn = m + 1 := ⟨nn - 1, by omega⟩
    have no : ∀ c, ¬ hre T L s c := fun c w => by
      have := hl w.1
      have := w.2.1
      omega
    have fin : Q h := hq h C
    unfold wp_X8_readsText_L4
    exact m_isHere B C (c := 124) (by decide) (fun w => absurd w (no _)) (fun _ => br_y rfl fin)
  | succ n ih =>
    intro nn s h hnn C hl hq
    obtain ⟨nn, rfl⟩ : ∃ m, nn = m + 1 := ⟨nn - 1, by omega⟩
    have go : ∀ c k : Int32, hre T L s c → opc 5 c = some k → ∀ h7, h7 = hp_si h 105 6 (hp_i h 105 6 + 1) → rc.2.1 h7 (fun h8 => wp_X8_writes k h8 (fun h10 => wp_X8_readsText_L4 rc Q nn h10)) := by
      intro c k e e4 h7 eh
      obtain ⟨m0, lt, ec⟩ := e
      have P := hs (s.1 + 1) s.2.2 lt
      obtain ⟨hl1, hl2⟩ := hl m0
      obtain ⟨l1, l2⟩ := len_ok (k := k) P hl1 L60
      refine SUB (s.1 + 1) s.2.2 h7 _ lt (by omega) (MS_adv C m0 lt eh) (fun h8 C8 => ?_)
      refine m_writes C8 l1 (fun h10 C10 => ?_)
      refine ih nn _ h10 (by omega) C10 (fun g => ⟨l2 g, ?_⟩) ?_
      · have a1 := P.1
        have e1 : (psh k (sub (s.1 + 1) s.2.2)).1 = (sub (s.1 + 1) s.2.2).1 := by unfold psh; split <;> rfl
        rw [e1]
        omega
      · rw [lo_some m0 lt (by rw [ec]; exact e4)] at hq
        exact hq
    have stop : (s.2.1 = 0 → s.1 < L → opc 5 (T s.1) = none) → Q h := by
      intro e
      rw [lo_none e] at hq
      exact hq h C
    unfold wp_X8_readsText_L4
    exact m_isHere B C (c := 124) (by decide) (fun w => br_n (by decide) (go 124 (-11) w rfl)) (fun w => br_y rfl (stop (fun m0 lt => opc5_no (fun e => w ⟨m0, lt, e⟩))))
theorem mA_L {rc : rt_X8} {sub : Nat → List Int32 → sg} {Q : hp_T → Prop} (B : MB h0 T L u) (hs : ∀ p out, p ≤ L → PRs T L u p out (sub p out)) (SUB : ∀ (p : Nat) (out : List Int32) (h : hp_T) (Q : hp_T → Prop), p ≤ L → out.length ≤ p → MS h0 L o (p, 0, out) h → (∀ h1, MS h0 L o (sub p out) h1 → Q h1) → rc.2.2.1 h Q) : ∀ (n nn : Nat) (s : sg) (h : hp_T), n < nn → MS h0 L o s h → (s.2.1 = 0 → s.2.2.length ≤ s.1 ∧ L < n + s.1) → (∀ h1, MS h0 L o (lo T L sub 4 n s) h1 → Q h1) → wp_X8_readsAll_L4 rc Q nn h := by
  have L60 := B.2.2.1
  intro n
  induction n with
  | zero =>
    intro nn s h hnn C hl hq
    obtain ⟨nn, rfl⟩ : ∃ m, nn = m + 1 := ⟨nn - 1, by omega⟩
    have no : ∀ c, ¬ hre T L s c := fun c w => by
      have := hl w.1
      have := w.2.1
      omega
    have fin : Q h := hq h C
    unfold wp_X8_readsAll_L4
    exact m_isHere B C (c := 38) (by decide) (fun w => absurd w (no _)) (fun _ => br_y rfl fin)
  | succ n ih =>
    intro nn s h hnn C hl hq
    obtain ⟨nn, rfl⟩ : ∃ m, nn = m + 1 := ⟨nn - 1, by omega⟩
    have go : ∀ c k : Int32, hre T L s c → opc 4 c = some k → ∀ h7, h7 = hp_si h 105 6 (hp_i h 105 6 + 1) → rc.2.2.1 h7 (fun h8 => wp_X8_writes k h8 (fun h10 => wp_X8_readsAll_L4 rc Q nn h10)) := by
      intro c k e e4 h7 eh
      obtain ⟨m0, lt, ec⟩ := e
      have P := hs (s.1 + 1) s.2.2 lt
      obtain ⟨hl1, hl2⟩ := hl m0
      obtain ⟨l1, l2⟩ := len_ok (k := k) P hl1 L60
      refine SUB (s.1 + 1) s.2.2 h7 _ lt (by omega) (MS_adv C m0 lt eh) (fun h8 C8 => ?_)
      refine m_writes C8 l1 (fun h10 C10 => ?_)
      refine ih nn _ h10 (by omega) C10 (fun g => ⟨l2 g, ?_⟩) ?_
      · have a1 := P.1
        have e1 : (psh k (sub (s.1 + 1) s.2.2)).1 = (sub (s.1 + 1) s.2.2).1 := by unfold psh; split <;> rfl
        rw [e1]
        omega
      · rw [lo_some m0 lt (by rw [ec]; exact e4)] at hq
        exact hq
    have stop : (s.2.1 = 0 → s.1 < L → opc 4 (T s.1) = none) → Q h := by
      intro e
      rw [lo_none e] at hq
      exact hq h C
    unfold wp_X8_readsAll_L4
    exact m_isHere B C (c := 38) (by decide) (fun w => br_n (by decide) (go 38 (-12) w rfl)) (fun w => br_y rfl (stop (fun m0 lt => opc4_no (fun e => w ⟨m0, lt, e⟩))))
theorem mS_L {rc : rt_X8} {sub : Nat → List Int32 → sg} {Q : hp_T → Prop} (B : MB h0 T L u) (hs : ∀ p out, p ≤ L → PRs T L u p out (sub p out)) (SUB : ∀ (p : Nat) (out : List Int32) (h : hp_T) (Q : hp_T → Prop), p ≤ L → out.length ≤ p → MS h0 L o (p, 0, out) h → (∀ h1, MS h0 L o (sub p out) h1 → Q h1) → rc.2.2.2.2.1 h Q) : ∀ (n nn : Nat) (s : sg) (h : hp_T), n < nn → MS h0 L o s h → (s.2.1 = 0 → s.2.2.length ≤ s.1 ∧ L < n + s.1) → (∀ h1, MS h0 L o (lo T L sub 2 n s) h1 → Q h1) → wp_X8_readsSum_L4 rc Q nn h := by
  have L60 := B.2.2.1
  intro n
  induction n with
  | zero =>
    intro nn s h hnn C hl hq
    obtain ⟨nn, rfl⟩ : ∃ m, nn = m + 1 := ⟨nn - 1, by omega⟩
    have no : ∀ c, ¬ hre T L s c := fun c w => by
      have := hl w.1
      have := w.2.1
      omega
    have fin : Q h := hq h C
    unfold wp_X8_readsSum_L4
    exact m_isHere B C (c := 43) (by decide) (fun w => absurd w (no _)) (fun _ => br_y rfl (m_isHere B C (c := 45) (by decide) (fun w => absurd w (no _)) (fun _ => br_y rfl fin)))
  | succ n ih =>
    intro nn s h hnn C hl hq
    obtain ⟨nn, rfl⟩ : ∃ m, nn = m + 1 := ⟨nn - 1, by omega⟩
    have go : ∀ c k : Int32, hre T L s c → opc 2 c = some k → ∀ h7, h7 = hp_si h 105 6 (hp_i h 105 6 + 1) → rc.2.2.2.2.1 h7 (fun h8 => wp_X8_writes k h8 (fun h10 => wp_X8_readsSum_L4 rc Q nn h10)) := by
      intro c k e e4 h7 eh
      obtain ⟨m0, lt, ec⟩ := e
      have P := hs (s.1 + 1) s.2.2 lt
      obtain ⟨hl1, hl2⟩ := hl m0
      obtain ⟨l1, l2⟩ := len_ok (k := k) P hl1 L60
      refine SUB (s.1 + 1) s.2.2 h7 _ lt (by omega) (MS_adv C m0 lt eh) (fun h8 C8 => ?_)
      refine m_writes C8 l1 (fun h10 C10 => ?_)
      refine ih nn _ h10 (by omega) C10 (fun g => ⟨l2 g, ?_⟩) ?_
      · have a1 := P.1
        have e1 : (psh k (sub (s.1 + 1) s.2.2)).1 = (sub (s.1 + 1) s.2.2).1 := by unfold psh; split <;> rfl
        rw [e1]
        omega
      · rw [lo_some m0 lt (by rw [ec]; exact e4)] at hq
        exact hq
    have stop : (s.2.1 = 0 → s.1 < L → opc 2 (T s.1) = none) → Q h := by
      intro e
      rw [lo_none e] at hq
      exact hq h C
    unfold wp_X8_readsSum_L4
    refine m_isHere B C (c := 43) (by decide) (fun w43 => br_n (by decide) ?_) (fun n43 => br_y rfl (m_isHere B C (c := 45) (by decide) (fun w45 => br_n (by decide) ?_) (fun n45 => br_y rfl (stop (fun m0 lt => opc2_no (fun e => n43 ⟨m0, lt, e⟩) (fun e => n45 ⟨m0, lt, e⟩))))))
    · exact m_isHere B C (c := 43) (by decide) (fun w => br_n (by decide) (go 43 (-16) w rfl)) (fun w => absurd w43 w)
    · exact m_isHere B C (c := 43) (by decide) (fun w => absurd w n43) (fun w => br_y rfl (go 45 (-17) w45 rfl))
theorem mP_L {rc : rt_X8} {sub : Nat → List Int32 → sg} {Q : hp_T → Prop} (B : MB h0 T L u) (hs : ∀ p out, p ≤ L → PRs T L u p out (sub p out)) (SUB : ∀ (p : Nat) (out : List Int32) (h : hp_T) (Q : hp_T → Prop), p ≤ L → out.length ≤ p → MS h0 L o (p, 0, out) h → (∀ h1, MS h0 L o (sub p out) h1 → Q h1) → rc.2.2.2.2.2 h Q) : ∀ (n nn : Nat) (s : sg) (h : hp_T), n < nn → MS h0 L o s h → (s.2.1 = 0 → s.2.2.length ≤ s.1 ∧ L < n + s.1) → (∀ h1, MS h0 L o (lo T L sub 1 n s) h1 → Q h1) → wp_X8_readsProduct_L4 rc Q nn h := by
  have L60 := B.2.2.1
  intro n
  induction n with
  | zero =>
    intro nn s h hnn C hl hq
    obtain ⟨nn, rfl⟩ : ∃ m, nn = m + 1 := ⟨nn - 1, by omega⟩
    have no : ∀ c, ¬ hre T L s c := fun c w => by
      have := hl w.1
      have := w.2.1
      omega
    have fin : Q h := hq h C
    unfold wp_X8_readsProduct_L4
    exact m_isHere B C (c := 42) (by decide) (fun w => absurd w (no _)) (fun _ => br_y rfl (m_isHere B C (c := 47) (by decide) (fun w => absurd w (no _)) (fun _ => br_y rfl (m_isHere B C (c := 37) (by decide) (fun w => absurd w (no _)) (fun _ => br_y rfl fin)))))
  | succ n ih =>
    intro nn s h hnn C hl hq
    obtain ⟨nn, rfl⟩ : ∃ m, nn = m + 1 := ⟨nn - 1, by omega⟩
    have go : ∀ c k : Int32, hre T L s c → opc 1 c = some k → ∀ h7, h7 = hp_si h 105 6 (hp_i h 105 6 + 1) → rc.2.2.2.2.2 h7 (fun h8 => wp_X8_writes k h8 (fun h10 => wp_X8_readsProduct_L4 rc Q nn h10)) := by
      intro c k e e4 h7 eh
      obtain ⟨m0, lt, ec⟩ := e
      have P := hs (s.1 + 1) s.2.2 lt
      obtain ⟨hl1, hl2⟩ := hl m0
      obtain ⟨l1, l2⟩ := len_ok (k := k) P hl1 L60
      refine SUB (s.1 + 1) s.2.2 h7 _ lt (by omega) (MS_adv C m0 lt eh) (fun h8 C8 => ?_)
      refine m_writes C8 l1 (fun h10 C10 => ?_)
      refine ih nn _ h10 (by omega) C10 (fun g => ⟨l2 g, ?_⟩) ?_
      · have a1 := P.1
        have e1 : (psh k (sub (s.1 + 1) s.2.2)).1 = (sub (s.1 + 1) s.2.2).1 := by unfold psh; split <;> rfl
        rw [e1]
        omega
      · rw [lo_some m0 lt (by rw [ec]; exact e4)] at hq
        exact hq
    have stop : (s.2.1 = 0 → s.1 < L → opc 1 (T s.1) = none) → Q h := by
      intro e
      rw [lo_none e] at hq
      exact hq h C
    unfold wp_X8_readsProduct_L4
    have b31 : (hre T L s 42 ∨ hre T L s 47 ∨ hre T L s 37) → wp_X8_readsProduct_b31 rc Q (wp_X8_readsProduct_L4 rc Q nn) h := by
      intro w
      unfold wp_X8_readsProduct_b31
      refine m_isHere B C (c := 42) (by decide) (fun w42 => br_n (by decide) (go 42 (-18) w42 rfl)) (fun n42 => br_y rfl (m_isHere B C (c := 47) (by decide) (fun w47 => br_n (by decide) (go 47 (-19) w47 rfl)) (fun n47 => br_y rfl (go 37 (-20) ((w.resolve_left n42).resolve_left n47) rfl))))
    exact m_isHere B C (c := 42) (by decide) (fun w => br_n (by decide) (b31 (Or.inl w))) (fun n42 => br_y rfl (m_isHere B C (c := 47) (by decide) (fun w => br_n (by decide) (b31 (Or.inr (Or.inl w)))) (fun n47 => br_y rfl (m_isHere B C (c := 37) (by decide) (fun w => br_n (by decide) (b31 (Or.inr (Or.inr w)))) (fun n37 => br_y rfl (stop (fun m0 lt => opc1_no (fun e => n42 ⟨m0, lt, e⟩) (fun e => n47 ⟨m0, lt, e⟩) (fun e => n37 ⟨m0, lt, e⟩))))))))
theorem mB_B {rc : rt_X8} {sub : Nat → List Int32 → sg} {Q : hp_T → Prop} (B : MB h0 T L u) (hs : ∀ p out, p ≤ L → PRs T L u p out (sub p out)) (SUB : ∀ (p : Nat) (out : List Int32) (h : hp_T) (Q : hp_T → Prop), p ≤ L → out.length ≤ p → MS h0 L o (p, 0, out) h → (∀ h1, MS h0 L o (sub p out) h1 → Q h1) → rc.2.2.2.1 h Q) (C : MS h0 L o s h) (hl : s.2.1 = 0 → s.2.2.length ≤ s.1) (hq : ∀ h1, MS h0 L o (lo T L sub 3 1 s) h1 → Q h1) : wp_X8_isHere (60 : Int32) h (fun v_3 => ((v_3 = 0 → wp_X8_isHere (61 : Int32) h (fun v_30 => ((v_30 = 0 → wp_X8_isHere (62 : Int32) h (fun v_32 => ((v_32 = 0 → (Q h)) ∧ (¬ (v_32 = 0) → (wp_X8_readsComparison_b31 rc Q h))))) ∧ (¬ (v_30 = 0) → (wp_X8_readsComparison_b31 rc Q h))))) ∧ (¬ (v_3 = 0) → (wp_X8_readsComparison_b31 rc Q h)))) := by
  have L60 := B.2.2.1
  have go : ∀ c k : Int32, hre T L s c → opc 3 c = some k → ∀ h7, h7 = hp_si h 105 6 (hp_i h 105 6 + 1) → rc.2.2.2.1 h7 (fun h8 => wp_X8_writes k h8 (fun h10 => Q h10)) := by
    intro c k e e4 h7 eh
    obtain ⟨m0, lt, ec⟩ := e
    have P := hs (s.1 + 1) s.2.2 lt
    obtain ⟨l1, l2⟩ := len_ok (k := k) P (hl m0) L60
    refine SUB (s.1 + 1) s.2.2 h7 _ lt (by have := hl m0; omega) (MS_adv C m0 lt eh) (fun h8 C8 => ?_)
    refine m_writes C8 l1 (fun h10 C10 => hq h10 ?_)
    rw [lo_some m0 lt (by rw [ec]; exact e4)]
    exact C10
  have stop : (s.2.1 = 0 → s.1 < L → opc 3 (T s.1) = none) → Q h := by
    intro e
    rw [lo_none e] at hq
    exact hq h C
  have b31 : (hre T L s 60 ∨ hre T L s 61 ∨ hre T L s 62) → wp_X8_readsComparison_b31 rc Q h := by
    intro w
    unfold wp_X8_readsComparison_b31
    exact m_isHere B C (c := 60) (by decide) (fun w60 => br_n (by decide) (go 60 (-13) w60 rfl)) (fun n60 => br_y rfl (m_isHere B C (c := 61) (by decide) (fun w61 => br_n (by decide) (go 61 (-14) w61 rfl)) (fun n61 => br_y rfl (go 62 (-15) ((w.resolve_left n60).resolve_left n61) rfl))))
  exact m_isHere B C (c := 60) (by decide) (fun w => br_n (by decide) (b31 (Or.inl w))) (fun n60 => br_y rfl (m_isHere B C (c := 61) (by decide) (fun w => br_n (by decide) (b31 (Or.inr (Or.inl w)))) (fun n61 => br_y rfl (m_isHere B C (c := 62) (by decide) (fun w => br_n (by decide) (b31 (Or.inr (Or.inr w)))) (fun n62 => br_y rfl (stop (fun m0 lt => opc3_no (fun e => n60 ⟨m0, lt, e⟩) (fun e => n61 ⟨m0, lt, e⟩) (fun e => n62 ⟨m0, lt, e⟩))))))))
theorem m_num_L {out : List Int32} {Q : hp_T → Prop} (B : MB h0 T L u) (hl : out.length < 60) : ∀ (n i nn : Nat) (v : Int32) (p : Nat) (h : hp_T), i + n = 4 → n < nn → MS h0 L o (p, 0, out) h → (∀ h1, MS h0 L o (nmq T L out (nmb T L n v p)) h1 → Q h1) → wp_X8_readsNumber_L4 Q nn v (nI i) h := by
  have L60 := B.2.2.1
  have ok : ∀ (v : Int32) (p : Nat) (h : hp_T), MS h0 L o (p, 0, out) h → ¬ (p < L ∧ dig (T p)) → (∀ h1, MS h0 L o (nmq T L out (v, p)) h1 → Q h1) → wp_X8_isDigitHere h (fun v_3 => (bo_ok v_3) ∧ (∀ h_4, h_4 = hp_si h 105 10 v_3 → wp_X8_writes v h_4 (fun h_8 => (Q h_8)))) := by
    intro v p h C ng hq
    refine m_isDig B C (fun w => absurd ⟨w.2.1, w.2.2⟩ ng) (fun _ => ⟨Or.inl rfl, ?_⟩)
    rintro h4 rfl
    refine m_writes (MS_r C rfl) (fun _ => hl) (fun h1 C1 => hq h1 ?_)
    unfold nmq
    rw [if_neg ng]
    exact C1
  intro n
  induction n with
  | zero =>
    intro i nn v p h hi hnn C hq
    obtain ⟨nn, rfl⟩ : ∃ m, nn = m + 1 := ⟨nn - 1, by omega⟩
    unfold wp_X8_readsNumber_L4
    have : i = 4 := by omega
    subst this
    refine m_isDig B C (fun w => br_n (by decide) (br_y (by decide) ?_)) (fun w => br_y rfl (ok v p h C (fun y => w ⟨rfl, y.1, y.2⟩) hq))
    refine m_isDig B C (fun _ => ⟨Or.inr rfl, ?_⟩) (fun y => absurd w y)
    rintro h4 rfl
    refine m_writes (MS_w C) (fun g => absurd g (by decide : ¬ (1 : Nat) = 0)) (fun h1 C1 => hq h1 ?_)
    show MS h0 L o (nmq T L out (v, p)) h1
    unfold nmq
    rw [if_pos ⟨w.2.1, w.2.2⟩]
    have C1 : MS h0 L o (p, 1, out) h1 := C1
    obtain ⟨f, c6, cL, c7, cm⟩ := C1
    refine ⟨f, c6, cL, c7, Or.inr ⟨by show (2 : Nat) ≠ 0; decide, ?_⟩⟩
    rcases cm with ⟨m, -⟩ | ⟨m, e10⟩
    · exact absurd m (by decide : ¬ (1 : Nat) = 0)
    · exact e10
  | succ n ih =>
    intro i nn v p h hi hnn C hq
    obtain ⟨nn, rfl⟩ : ∃ m, nn = m + 1 := ⟨nn - 1, by omega⟩
    unfold wp_X8_readsNumber_L4
    rw [show nI i + 1 = nI (i + 1) from nI_1 i]
    refine m_isDig B C (fun w => br_n (by decide) (br_n (nI_ge (b := 4) (by omega) (by decide)) (m_byte B C ?_))) (fun w => br_y rfl ?_)
    · have lt : p < L := w.2.1
      have dg : dig (T p) := w.2.2
      rw [if_pos lt]
      intro h1 e1
      have C1 : MS h0 L o (p + 1, 0, out) h1 := MS_adv C rfl lt e1
      have e : nmb T L (n + 1) v p = nmb T L n (10 * v + T p - 48) (p + 1) := by
        conv => lhs; unfold nmb
        rw [if_pos ⟨lt, dg⟩]
      rw [e] at hq
      exact ih (i + 1) nn (10 * v + T p - 48) (p + 1) h1 (by omega) (by omega) C1 hq
    · have ng : ¬ (p < L ∧ dig (T p)) := fun y => w ⟨rfl, y.1, y.2⟩
      have e : nmb T L (n + 1) v p = (v, p) := by
        conv => lhs; unfold nmb
        rw [if_neg ng]
      rw [e] at hq
      exact ok v p h C ng hq
theorem nmc_m1 : nmc u (-1) = 0 := by
  unfold nmc
  rw [if_neg (by decide), if_neg (by decide)]
  split
  · exact if_neg (by decide)
  · exact if_neg (by decide)
theorem m_name {Q : Int32 → Prop} (hu : u < 2) (B : MB h0 T L u) (C : MS h0 L o s h) (hq : Q (nmc u (if s.1 < L then T s.1 else -1))) : wp_X8_nameHere h Q := by
  unfold wp_X8_nameHere
  refine m_byte B C ?_
  generalize (if s.1 < L then T s.1 else -1) = x at hq
  rw [C.1.2 105 9 (by omega), B.2.1]
  unfold nmc at hq
  have : u = 0 ∨ u = 1 := by omega
  rcases this with rfl | rfl
  · refine br_y rfl ⟨fun g => ?_, fun g => ⟨fun g2 => ?_, fun g2 => ⟨fun g3 => ?_, fun g3 => ?_⟩⟩⟩
    · rw [if_pos g] at hq; exact hq
    · rw [if_neg g, if_pos g2] at hq; exact hq
    · rw [if_neg g, if_neg g2, if_pos rfl, if_pos g3] at hq; exact hq
    · rw [if_neg g, if_neg g2, if_pos rfl, if_neg g3] at hq; exact hq
  · refine br_n (by decide) ⟨fun g => ?_, fun g => ⟨fun g2 => ?_, fun g2 => ⟨fun g3 => ?_, fun g3 => ?_⟩⟩⟩
    · rw [if_pos g] at hq; exact hq
    · rw [if_neg g, if_pos g2] at hq; exact hq
    · rw [if_neg g, if_neg g2, if_neg (by decide), if_pos g3] at hq; exact hq
    · rw [if_neg g, if_neg g2, if_neg (by decide), if_neg g3] at hq; exact hq
theorem nmc_neg {x : Int32} (hu : u < 2) : (0 ≤ nmc u x) ↔ ¬ (nmc u x ≠ 0) := by
  refine ⟨fun g w => ?_, fun g => ?_⟩
  · rcases nmc_ok w hu with e | e | ⟨-, e⟩ | ⟨-, e⟩ <;> rw [e] at g <;> exact absurd g (by decide)
  · rw [Classical.not_not.mp g]; decide
theorem mQ {rc : rt_X8} {p : Nat} {out : List Int32} {rs : Nat → Nat → Nat → List Int32 → sg} {Q : hp_T → Prop} (hu : u < 2) (B : MB h0 T L u) (ho : o ≤ 5) (hs : ∀ lev o p out, p ≤ L → PRs T L u p out (rs lev o p out))
    (S0 : o < 5 → ∀ (p : Nat) (out : List Int32) (h : hp_T) (Q : hp_T → Prop), p ≤ L → out.length ≤ p → MS h0 L (o + 1) (p, 0, out) h → (∀ h1, MS h0 L (o + 1) (rs 0 (o + 1) p out) h1 → Q h1) → rc.2.2.2.2.2 h Q)
    (S5 : o < 5 → ∀ (p : Nat) (out : List Int32) (h : hp_T) (Q : hp_T → Prop), p ≤ L → out.length ≤ p → MS h0 L (o + 1) (p, 0, out) h → (∀ h1, MS h0 L (o + 1) (rs 5 (o + 1) p out) h1 → Q h1) → rc.1 h Q)
    (C : MS h0 L o (p, 0, out) h) (hl : out.length ≤ p) (hq : ∀ h1, MS h0 L o (pq T L u rs o p out) h1 → Q h1) : wp_X8_readsOne rc h Q := by
  have L60 := B.2.2.1
  have hpL : p ≤ L := C.2.2.1
  have e10 : hp_i h 105 10 = 0 := by
    rcases C.2.2.2.2 with ⟨-, e, -⟩ | ⟨m, -⟩
    · exact e
    · exact absurd rfl m
  have dn : ∀ (s : sg) (h : hp_T), MS h0 L (o + 1) s h → MS h0 L o s (hp_si h 105 7 (hp_i h 105 7 - 1)) := fun s h C => MS_o C (by rw [C.2.2.2.1]; exact nI_pred o)
  have bad : ¬ (p < L ∧ (dig (T p) ∨ nmc u (T p) ≠ 0 ∨ (T p = 33 ∧ o < 5) ∨ (T p = 40 ∧ o < 5))) → ∀ h1, h1 = hp_si h 105 10 1 → Q h1 := by
    intro g h1 e1
    subst e1
    have e : pq T L u rs o p out = (p, 1, out) := by
      unfold pq
      by_cases lt : p < L
      · rw [if_pos lt, if_neg (fun w => g ⟨lt, Or.inl w⟩), if_neg (fun w => g ⟨lt, Or.inr (Or.inl w)⟩), if_neg (fun w => g ⟨lt, Or.inr (Or.inr (Or.inl w))⟩), if_neg (fun w => g ⟨lt, Or.inr (Or.inr (Or.inr w))⟩)]
      · rw [if_neg lt]
    rw [e] at hq
    exact hq _ (MS_w C)
  have o5 : ((5 : Int32) ≤ nI o) ↔ 5 ≤ o := nI_leI (a := 5) (by decide) (by omega)
  have b70 : p < L → ¬ dig (T p) → ¬ (nmc u (T p) ≠ 0) → (T p = 33 ∨ T p = 40) → wp_X8_readsOne_b70 rc Q h := by
    intro lt nd nn ec
    unfold wp_X8_readsOne_b70
    rw [C.2.2.2.1]
    refine ⟨fun g => bad (fun w => ?_), fun g => ?_⟩
    · have g5 := o5.mp g
      rcases w.2 with w | w | w | w
      · exact nd w
      · exact nn w
      · omega
      · omega
    · have g5 : o < 5 := by rw [o5] at g; omega
      unfold pq at hq
      rw [if_pos lt, if_neg nd, if_neg nn] at hq
      refine m_isHere B C (c := 33) (by decide) (fun w => ?_) (fun w => ?_)
      · intro h13 e13
        have C13 : MS h0 L o (p + 1, 0, out) h13 := MS_adv C rfl lt e13
        intro h16 e16
        subst e16
        have C16 : MS h0 L (o + 1) (p + 1, 0, out) (hp_si h13 105 7 (hp_i h13 105 7 + 1)) := MS_o C13 (by rw [C13.2.2.2.1]; exact nI_1 o)
        rw [if_pos ⟨w.2.2, g5⟩] at hq
        have P := hs 0 (o + 1) (p + 1) out lt
        obtain ⟨l1, l2⟩ := len_ok (k := -21) P hl L60
        refine br_n (by decide) (S0 g5 (p + 1) out _ _ lt (by omega) C16 (fun h73 C73 => m_writes C73 l1 (fun h75 C75 => ?_)))
        rintro h77 rfl
        exact hq _ (dn _ _ C75)
      · have e40 : T p = 40 := ec.resolve_left (fun y => w ⟨rfl, lt, y⟩)
        have n33 : ¬ T p = 33 := fun y => w ⟨rfl, lt, y⟩
        intro h13 e13
        have C13 : MS h0 L o (p + 1, 0, out) h13 := MS_adv C rfl lt e13
        intro h16 e16
        subst e16
        have C16 : MS h0 L (o + 1) (p + 1, 0, out) (hp_si h13 105 7 (hp_i h13 105 7 + 1)) := MS_o C13 (by rw [C13.2.2.2.1]; exact nI_1 o)
        rw [if_neg (fun y => n33 y.1), if_pos ⟨e40, g5⟩] at hq
        refine br_y rfl (S5 g5 (p + 1) out _ _ lt (by omega) C16 (fun h20 C20 => ?_))
        have wr : ∀ s : sg, MS h0 L (o + 1) s h20 → clo T L s = (s.1, 1, s.2.2) → (∀ h1, MS h0 L o (clo T L s) h1 → Q h1) → ∀ h57, h57 = hp_si h20 105 10 1 → (((hp_i h57 105 10) = 0 → (∀ h_61, h_61 = hp_si h57 105 6 ((hp_i h57 105 6) + (1 : Int32)) → (∀ h_64, h_64 = hp_si h_61 105 7 ((hp_i h_61 105 7) - (1 : Int32)) → (Q h_64)))) ∧ (¬ ((hp_i h57 105 10) = 0) → (∀ h_67, h_67 = hp_si h57 105 6 ((hp_i h57 105 6) + (0 : Int32)) → (∀ h_70, h_70 = hp_si h_67 105 7 ((hp_i h_67 105 7) - (1 : Int32)) → (Q h_70))))) := by
          intro s C ec hq h57 e57
          subst e57
          refine br_n (by rw [hp_i_si, if_pos ⟨rfl, rfl⟩]; decide) ?_
          rintro h67 rfl
          rintro h70 rfl
          refine hq _ ?_
          rw [ec]
          exact dn _ _ (MS_6 (MS_w C))
        generalize rs 5 (o + 1) (p + 1) out = s8 at C20 hq
        rcases C20.2.2.2.2 with ⟨m, e, -⟩ | ⟨m, e⟩
        · refine br_y e (m_isHere B C20 (c := 41) (by decide) (fun y => br_n (by decide) ?_) (fun y => br_y rfl ?_))
          · rintro h41 rfl
            refine br_y (by rw [hp_i_si, if_pos ⟨rfl, rfl⟩]) ?_
            intro h45 e45
            have C45 := MS_adv (MS_r C20 m) m y.2.1 e45
            rintro h48 rfl
            refine hq _ ?_
            unfold clo
            rw [if_pos y]
            exact dn _ _ C45
          · exact wr s8 C20 (by unfold clo; rw [if_neg y]) hq
        · refine br_n (by rw [e]; decide) (wr s8 C20 (by unfold clo; rw [if_neg (fun y => m y.1)]) hq)
  unfold wp_X8_readsOne
  refine br_y e10 (m_name hu B C ?_)
  refine m_isDig B C (fun w => br_n (by decide) ?_) (fun w => br_y rfl ⟨fun g => ?_, fun g => ?_⟩)
  · have lt : p < L := w.2.1
    have dg : dig (T p) := w.2.2
    unfold pq at hq
    rw [if_pos lt, if_pos dg] at hq
    exact ⟨5, m_num_L B (by omega) 4 0 5 0 p h rfl (by decide) C hq⟩
  · have nn : p < L → ¬ (nmc u (T p) ≠ 0) := fun lt => by
      rw [show (if (p, 0, out).1 < L then T (p, 0, out).1 else -1) = T p from if_pos lt] at g
      exact (nmc_neg hu).mp g
    have nd : p < L → ¬ dig (T p) := fun lt y => w ⟨rfl, lt, y⟩
    refine m_isHere B C (c := 33) (by decide) (fun y => br_n (by decide) (b70 y.2.1 (nd y.2.1) (nn y.2.1) (Or.inl y.2.2))) (fun n33 => br_y rfl (m_isHere B C (c := 40) (by decide) (fun y => br_n (by decide) (b70 y.2.1 (nd y.2.1) (nn y.2.1) (Or.inr y.2.2))) (fun n40 => br_y rfl (bad (fun y => ?_)))))
    rcases y.2 with z | z | z | z
    · exact nd y.1 z
    · exact nn y.1 z
    · exact n33 ⟨rfl, y.1, z.1⟩
    · exact n40 ⟨rfl, y.1, z.1⟩
  · by_cases lt : p < L
    · have e : (if (p, 0, out).1 < L then T (p, 0, out).1 else -1) = T p := if_pos lt
      rw [e] at g ⊢
      have n0 : nmc u (T p) ≠ 0 := fun y => g (by rw [y]; decide)
      have nd : ¬ dig (T p) := fun y => w ⟨rfl, lt, y⟩
      unfold pq at hq
      rw [if_pos lt, if_neg nd, if_pos n0] at hq
      intro h85 e85
      exact m_writes (MS_adv C rfl lt e85) (fun _ => by show out.length < 60; omega) (fun h88 C88 => hq h88 C88)
    · have e : (if (p, 0, out).1 < L then T (p, 0, out).1 else -1) = -1 := if_neg lt
      rw [e, nmc_m1] at g
      exact absurd (by decide) g
/-- the level's reader -/
def ml (rc : rt_X8) (lev : Nat) : hp_T → (hp_T → Prop) → Prop := if lev = 5 then rc.1 else if lev = 4 then rc.2.1 else if lev = 3 then rc.2.2.1 else if lev = 2 then rc.2.2.2.1 else if lev = 1 then rc.2.2.2.2.1 else rc.2.2.2.2.2
end MC
theorem Mrd {h0 : hp_T} {T : Nat → Int32} {L u : Nat} (hu : u < 2) (B : MB h0 T L u) : ∀ (d lev o p : Nat) (out : List Int32) (h : hp_T) (Q : hp_T → Prop), lev ≤ 5 → o ≤ 5 → 6 * (5 - o) + lev + 1 ≤ d → p ≤ L → out.length ≤ p → MS h0 L o (p, 0, out) h → (∀ h1, MS h0 L o (ps T L u d lev o p out) h1 → Q h1) → ml (wr_X8 d) lev h Q := by
  intro d
  induction d with
  | zero => intro lev o p out h Q h1 h2 h3; omega
  | succ d ih =>
    intro lev o p out h Q hlev ho hd hp hl C hq
    unfold ps at hq
    have PK : ∀ lev o p out, p ≤ L → PRs T L u p out (ps T L u d lev o p out) := fun lev o p out hp => ps_ok hu d lev o p out hp
    have g : lev = 5 ∨ lev = 4 ∨ lev = 3 ∨ lev = 2 ∨ lev = 1 ∨ lev = 0 := by omega
    have len : ∀ lev, (ps T L u d lev o p out).2.1 = 0 → (ps T L u d lev o p out).2.2.length ≤ (ps T L u d lev o p out).1 ∧ L < L + (ps T L u d lev o p out).1 := by
      intro lev m
      obtain ⟨a1, a2, a3, a4, a5⟩ := PK lev o p out hp
      obtain ⟨b1, e, b2, b3, b4⟩ := a4 m
      rw [b2, List.length_append]
      omega
    rcases g with rfl | rfl | rfl | rfl | rfl | rfl
    · show wp_X8_readsText (wr_X8 d) h Q
      rw [if_neg (by decide), if_neg (by decide)] at hq
      exact ih 4 o p out h _ (by decide) ho (by omega) hp hl C (fun h1 C1 => ⟨L + 1, mT_L B (fun p out hp => PK 4 o p out hp) (fun p out h Q hp hl C hq => ih 4 o p out h Q (by decide) ho (by omega) hp hl C hq) L (L + 1) _ h1 (by omega) C1 (len 4) hq⟩)
    · show wp_X8_readsAll (wr_X8 d) h Q
      rw [if_neg (by decide), if_neg (by decide)] at hq
      exact ih 3 o p out h _ (by decide) ho (by omega) hp hl C (fun h1 C1 => ⟨L + 1, mA_L B (fun p out hp => PK 3 o p out hp) (fun p out h Q hp hl C hq => ih 3 o p out h Q (by decide) ho (by omega) hp hl C hq) L (L + 1) _ h1 (by omega) C1 (len 3) hq⟩)
    · show wp_X8_readsComparison (wr_X8 d) h Q
      rw [if_neg (by decide), if_pos rfl] at hq
      exact ih 2 o p out h _ (by decide) ho (by omega) hp hl C (fun h1 C1 => mB_B B (fun p out hp => PK 2 o p out hp) (fun p out h Q hp hl C hq => ih 2 o p out h Q (by decide) ho (by omega) hp hl C hq) C1 (fun g => (len 2 g).1) hq)
    · show wp_X8_readsSum (wr_X8 d) h Q
      rw [if_neg (by decide), if_neg (by decide)] at hq
      exact ih 1 o p out h _ (by decide) ho (by omega) hp hl C (fun h1 C1 => ⟨L + 1, mS_L B (fun p out hp => PK 1 o p out hp) (fun p out h Q hp hl C hq => ih 1 o p out h Q (by decide) ho (by omega) hp hl C hq) L (L + 1) _ h1 (by omega) C1 (len 1) hq⟩)
    · show wp_X8_readsProduct (wr_X8 d) h Q
      rw [if_neg (by decide), if_neg (by decide)] at hq
      exact ih 0 o p out h _ (by decide) ho (by omega) hp hl C (fun h1 C1 => ⟨L + 1, mP_L B (fun p out hp => PK 0 o p out hp) (fun p out h Q hp hl C hq => ih 0 o p out h Q (by decide) ho (by omega) hp hl C hq) L (L + 1) _ h1 (by omega) C1 (len 0) hq⟩)
    · show wp_X8_readsOne (wr_X8 d) h Q
      rw [if_pos rfl] at hq
      exact mQ hu B ho PK (fun g p out h Q hp hl C hq => ih 0 (o + 1) p out h Q (by decide) (by omega) (by omega) hp hl C hq) (fun g p out h Q hp hl C hq => ih 5 (o + 1) p out h Q (by decide) (by omega) (by omega) hp hl C hq) C hl hq
