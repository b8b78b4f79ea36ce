/-! ===== PURE: a text read: the class, whole ===== -/
section CD
variable {h0 : hp_T} {T : Nat → Int32} {L u : Nat}
theorem wB_B {rc : rt_X5} {x1 : Int32} {sub : Nat → List Int32 → sg} {Q : hp_T → Prop} {s : sg} {h : hp_T} (B : CB h0 T L u) (hs : ∀ p out, p ≤ L → PRs T L u p out (sub p out)) (SUB : ∀ (p : Nat) (out : List Int32) (h : hp_T) (Q : hp_T → Prop), p ≤ L → out.length ≤ p → CS h0 T L (p, 0, out) h → (∀ h1, CS h0 T L (sub p out) h1 → Q h1) → rc.2.2.2.1 x1 h Q) (C : CS h0 T L s h) (hl : s.2.1 = 0 → s.2.2.length ≤ s.1) (hq : ∀ h1, CS h0 T L (lo T L sub 3 1 s) h1 → Q h1) : wp_X5_ahead h (fun v_3 => ((v_3 = (60 : Int32) → (∀ h_5, h_5 = hp_si h 91 3 ((hp_i h 91 3) + (1 : Int32)) → rc.2.2.2.1 x1 h_5 (fun h_8 => wp_X5_step (-v_3) h_8 (fun h_10 => (Q h_10))))) ∧ (¬ (v_3 = (60 : Int32)) → ((v_3 = (61 : Int32) → (∀ h_13, h_13 = hp_si h 91 3 ((hp_i h 91 3) + (1 : Int32)) → rc.2.2.2.1 x1 h_13 (fun h_16 => wp_X5_step (-v_3) h_16 (fun h_18 => (Q h_18))))) ∧ (¬ (v_3 = (61 : Int32)) → ((v_3 = (62 : Int32) → (∀ h_21, h_21 = hp_si h 91 3 ((hp_i h 91 3) + (1 : Int32)) → rc.2.2.2.1 x1 h_21 (fun h_24 => wp_X5_step (-v_3) h_24 (fun h_26 => (Q h_26))))) ∧ (¬ (v_3 = (62 : Int32)) → (Q h)))))))) := by
  have L60 := B.2.2.2.1
  have go : ∀ c k : Int32, chr T L s = c → ¬ dig c → c ≠ -1 → opc 3 c = some k → tr (-c) = k → okx (-c) → ∀ h7, h7 = hp_si h 91 3 (hp_i h 91 3 + 1) → rc.2.2.2.1 x1 h7 (fun h8 => wp_X5_step (-c) h8 (fun h10 => Q h10)) := by
    intro c k e1 e2 e3 e4 e5 e6 h7 eh
    obtain ⟨m0, lt, ec⟩ := ch_op C e1 e2 e3
    have P := hs (s.1 + 1) s.2.2 lt
    obtain ⟨l1, l2⟩ := len_ok (k := k) P (hl m0) L60
    refine SUB (s.1 + 1) s.2.2 h7 _ lt (by have := hl m0; omega) (CS_adv C m0 lt eh) (fun h8 C8 => ?_)
    refine w_step C8 L60 e5 e6 l1 (fun h10 C10 => hq h10 ?_)
    rw [lo_some m0 lt (by rw [ec]; exact e4)]
    exact C10
  refine w_ahead B C ⟨fun e0 => ?_, fun e0 => ⟨fun e1 => ?_, fun e1 => ⟨fun e2 => ?_, fun e2 => ?_⟩⟩⟩
  · rw [e0]; exact go 60 (-13) e0 (by decide) (by decide) rfl rfl (by unfold okx; decide)
  · rw [e1]; exact go 61 (-14) e1 (by decide) (by decide) rfl rfl (by unfold okx; decide)
  · rw [e2]; exact go 62 (-15) e2 (by decide) (by decide) rfl rfl (by unfold okx; decide)
  · have e : s.2.1 = 0 → s.1 < L → opc 3 (T s.1) = none := by
      intro m0 lt
      rw [chr_in (by omega) lt] at e0
      rw [chr_in (by omega) lt] at e1
      rw [chr_in (by omega) lt] at e2
      exact opc3_no e0 e1 e2
    rw [lo_none e] at hq
    exact hq h C
theorem chr_dig {s : sg} (h : dig (chr T L s)) : s.2.1 ≠ 1 ∧ s.1 < L ∧ dig (T s.1) := by
  unfold chr at h
  by_cases g : s.2.1 ≠ 1 ∧ s.1 < L
  · rw [if_pos g] at h
    exact ⟨g.1, g.2, h⟩
  · rw [if_neg g] at h
    exact absurd h (by decide)
theorem tr_nn {v : Int32} (h : 0 ≤ v.toInt) : tr v = v ∧ okx v := by
  have e0 : (0 : Int32).toInt = 0 := rfl
  have g : 0 ≤ v := by rw [i_le]; omega
  exact ⟨by unfold tr; rw [if_pos g], Or.inl g⟩
theorem CS_02 {p : Nat} {v : Int32} {out : List Int32} {h : hp_T} (C : CS h0 T L (p, 0, out ++ [v]) h) (hl : out.length < 60) (lt : p < L) (dg : dig (T p)) : CS h0 T L (p, 2, out) h := by
  obtain ⟨f, c3, cL, cm⟩ := C
  rcases cm with ⟨m, e6, e5, et⟩ | ⟨m, e6⟩ | ⟨m, e6, -⟩
  · have e5 : hp_i h 91 5 = nI (out ++ [v]).length := e5
    rw [List.length_append] at e5
    exact ⟨f, c3, cL, Or.inr (Or.inr ⟨rfl, e6, lt, dg, out.length + 1, by omega, e5⟩)⟩
  · have m : (0 : Nat) = 1 := m
    omega
  · have m : (0 : Nat) = 2 := m
    omega
theorem w_num_L {out : List Int32} {Q : hp_T → Prop} (B : CB h0 T L u) (hl : out.length < 60) : ∀ (n i nn : Nat) (v : Int32) (p : Nat) (h : hp_T), i + n = 4 → n < nn → 0 ≤ v.toInt → v.toInt < 10 ^ (4 - n) → CS h0 T L (p, 0, out) h → (∀ h1, CS h0 T L (nmq T L out (nmb T L n v p)) h1 → Q h1) → wp_X5_readNumber_L4 Q nn v (nI i) h := by
  have L60 := B.2.2.2.1
  intro n
  induction n with
  | zero =>
    intro i nn v p h hi hnn h0' h10 C hq
    obtain ⟨nn, rfl⟩ : ∃ m, nn = m + 1 := ⟨nn - 1, by omega⟩
    unfold wp_X5_readNumber_L4
    have : i = 4 := by omega
    subst this
    obtain ⟨t1, t2⟩ := tr_nn h0'
    refine br_y (by decide) (w_step C L60 t1 t2 (fun _ => hl) (fun h1 C1 => hq h1 ?_))
    show CS h0 T L (nmq T L out (v, p)) h1
    unfold nmq
    by_cases g : p < L ∧ dig (T p)
    · rw [if_pos g]
      exact CS_02 C1 hl g.1 g.2
    · rw [if_neg g]
      exact C1
  | succ n ih =>
    intro i nn v p h hi hnn h0' h10 C hq
    obtain ⟨nn, rfl⟩ : ∃ m, nn = m + 1 := ⟨nn - 1, by omega⟩
    unfold wp_X5_readNumber_L4
    rw [show nI i + 1 = nI (i + 1) from nI_1 i]
    refine br_n (nI_ge (b := 4) (by omega) (by decide)) (w_ahead B C ?_)
    rw [w_isDig]
    simp only [bi_0]
    obtain ⟨t1, t2⟩ := tr_nn h0'
    refine ⟨fun g => ?_, fun g => ?_⟩
    · have ng : ¬ (p < L ∧ dig (T p)) := fun w => g (by rw [chr_in (s := (p, 0, out)) (by show (0 : Nat) ≠ 1; decide) w.1]; exact w.2)
      refine w_step C L60 t1 t2 (fun _ => hl) (fun h1 C1 => hq h1 ?_)
      have e : nmb T L (n + 1) v p = (v, p) := by
        conv => lhs; unfold nmb
        rw [if_neg ng]
      rw [e]
      unfold nmq
      rw [if_neg ng]
      exact C1
    · have g := chr_dig (Classical.not_not.mp g)
      have lt : p < L := g.2.1
      have dg : dig (T p) := g.2.2
      refine w_ahead B C ?_
      rw [chr_in (s := (p, 0, out)) (by show (0 : Nat) ≠ 1; decide) lt]
      intro h3 e3
      have C1 : CS h0 T L (p + 1, 0, out) h3 := CS_adv C rfl lt e3
      have e : nmb T L (n + 1) v p = nmb T L n (10 * v + T p - 48) (p + 1) := by
        conv => lhs; unfold nmb
        rw [if_pos ⟨lt, dg⟩]
      rw [e] at hq
      obtain ⟨g2, g3⟩ := dg
      rw [i_le] at g2 g3
      have e48 : (48 : Int32).toInt = 48 := rfl
      have e57 : (57 : Int32).toInt = 57 := rfl
      have e10 : (10 : Int32).toInt = 10 := rfl
      obtain ⟨p1, p2⟩ := p10 (n := n) (by omega)
      generalize (10 : Int) ^ (4 - (n + 1)) = Bn at p1 p2 h10
      have m1 : ((10 : Int32) * v).toInt = 10 * v.toInt := by
        rw [Int32.toInt_mul, e10, Int.bmod_def]
        omega
      have m2 : ((10 : Int32) * v + T p).toInt = 10 * v.toInt + (T p).toInt := by rw [i_add (by omega) (by omega), m1]
      have m3 : ((10 : Int32) * v + T p - 48).toInt = 10 * v.toInt + (T p).toInt - 48 := by rw [i_sub (by omega) (by omega), m2, e48]
      exact ih (i + 1) nn (10 * v + T p - 48) (p + 1) h3 (by omega) (by omega) (by omega) (by rw [p1]; omega) C1 hq
theorem wQ {rc : rt_X5} {o p : Nat} {out : List Int32} {h : hp_T} {rs : Nat → Nat → Nat → List Int32 → sg} {Q : hp_T → Prop} (hu : u < 2) (B : CB h0 T L u) (ho : o ≤ 5) (hs : ∀ lev o p out, p ≤ L → PRs T L u p out (rs lev o p out))
    (S0 : o < 5 → ∀ (p : Nat) (out : List Int32) (h : hp_T) (Q : hp_T → Prop), p ≤ L → out.length ≤ p → CS h0 T L (p, 0, out) h → (∀ h1, CS h0 T L (rs 0 (o + 1) p out) h1 → Q h1) → rc.2.2.2.2.2 (nI (o + 1)) h Q)
    (S5 : o < 5 → ∀ (p : Nat) (out : List Int32) (h : hp_T) (Q : hp_T → Prop), p ≤ L → out.length ≤ p → CS h0 T L (p, 0, out) h → (∀ h1, CS h0 T L (rs 5 (o + 1) p out) h1 → Q h1) → rc.1 (nI (o + 1)) h Q)
    (C : CS h0 T L (p, 0, out) h) (hl : out.length ≤ p) (hq : ∀ h1, CS h0 T L (pq T L u rs o p out) h1 → Q h1) : wp_X5_readQ rc (nI o) h Q := by
  have L60 := B.2.2.2.1
  have hpL : p ≤ L := C.2.2.1
  have th : thr u ≠ -1 ∧ ¬ dig (thr u) ∧ thr u ≠ 33 ∧ thr u ≠ 40 := by
    unfold thr
    split <;> exact ⟨by decide, by decide, by decide, by decide⟩
  unfold wp_X5_readQ
  refine w_ahead B C ?_
  rw [w_isDig]
  simp only [bi_0]
  rw [CS_t B C, show nI o + 1 = nI (o + 1) from nI_1 o]
  by_cases lt : p < L
  · rw [chr_in (s := (p, 0, out)) (by show (0 : Nat) ≠ 1; decide) lt]
    show (¬ dig (T p) → _) ∧ _
    unfold pq at hq
    rw [if_pos lt] at hq
    have bad : (¬ dig (T p)) → ¬ (nmc u (T p) ≠ 0) → ¬ (T p = 33 ∧ o < 5) → ¬ (T p = 40 ∧ o < 5) → wp_X5_fail h (fun h1 => Q h1) := by
      intro g1 g2 g3 g4
      rw [if_neg g1, if_neg g2, if_neg g3, if_neg g4] at hq
      exact w_fail C L60 hq
    have name : ∀ c k : Int32, T p = c → ¬ dig c → nmc u c = k → k ≠ 0 → tr (-c) = k → okx (-c) → ∀ h5, h5 = hp_si h 91 3 (hp_i h 91 3 + 1) → wp_X5_step (-T p) h5 (fun h8 => Q h8) := by
      intro c k e1 e2 e3 e4 e5 e6 h5 eh
      rw [e1, if_neg e2, e3, if_pos e4] at hq
      rw [e1]
      exact w_step (CS_adv C rfl lt eh) L60 e5 e6 (fun _ => by show out.length < 60; omega) (fun h8 C8 => hq h8 C8)
    refine ⟨fun nd => ⟨fun ek => name 107 (-1) ek (by decide) rfl (by decide) rfl (by unfold okx; decide), fun nk => ⟨fun eh => name 104 (-2) eh (by decide) rfl (by decide) rfl (by unfold okx; decide), fun nh => ⟨fun et => ?_, fun nt => ?_⟩⟩⟩, fun d => ?_⟩
    · have : u = 0 ∨ u = 1 := by omega
      rcases this with rfl | rfl
      · exact name 109 (-3) et (by decide) rfl (by decide) rfl (by unfold okx; decide)
      · exact name 100 (-4) et (by decide) rfl (by decide) rfl (by unfold okx; decide)
    · have n0 : ¬ (nmc u (T p) ≠ 0) := by
        intro w
        apply w
        unfold nmc
        rw [if_neg nk, if_neg nh]
        unfold thr at nt
        by_cases u0 : u = 0
        · rw [if_pos u0] at nt ⊢
          rw [if_neg nt]
        · rw [if_neg u0] at nt ⊢
          rw [if_neg nt]
      have o5 : ((5 : Int32) ≤ nI o) ↔ 5 ≤ o := nI_leI (a := 5) (by decide) (by omega)
      refine ⟨fun e33 => ⟨fun g => ?_, fun g => ?_⟩, fun n33 => ⟨fun e40 => ⟨fun g => ?_, fun g => ?_⟩, fun n40 => bad nd n0 (fun w => n33 w.1) (fun w => n40 w.1)⟩⟩
      · have g5 := o5.mp g
        have b := bad nd n0 (fun w => by omega) (fun w => by omega)
        exact ⟨fun _ => ⟨fun _ => b, fun w => absurd g w⟩, fun _ => b⟩
      · have g5 : o < 5 := by rw [o5] at g; omega
        intro h5 eh
        rw [if_neg nd, if_neg n0, if_pos ⟨e33, g5⟩] at hq
        have P := hs 0 (o + 1) (p + 1) out lt
        obtain ⟨l1, l2⟩ := len_ok (k := -21) P hl L60
        refine S0 g5 (p + 1) out h5 _ lt (by omega) (CS_adv C rfl lt eh) (fun h8 C8 => ?_)
        rw [e33]
        exact w_step C8 L60 rfl (by unfold okx; decide) l1 hq
      · have g5 := o5.mp g
        exact bad nd n0 (fun w => by omega) (fun w => by omega)
      · have g5 : o < 5 := by rw [o5] at g; omega
        intro h5 eh
        rw [if_neg nd, if_neg n0, if_neg (fun w => n33 w.1), if_pos ⟨e40, g5⟩] at hq
        refine S5 g5 (p + 1) out h5 _ lt (by omega) (CS_adv C rfl lt eh) (fun h8 C8 => ?_)
        unfold wp_X5_takes
        refine w_ahead B C8 ⟨fun e => ?_, fun e => ⟨fun _ => w_fail C8 L60 (fun h9 C9 => hq h9 ?_), fun w => absurd rfl w⟩⟩
        · obtain ⟨m0, lt', ec⟩ := ch_op C8 e (by decide) (by decide)
          intro h9 e9
          refine ⟨fun w => absurd w (by decide), fun _ => hq h9 ?_⟩
          unfold clo
          rw [if_pos ⟨m0, lt', ec⟩]
          exact CS_adv C8 m0 lt' e9
        · unfold clo
          rw [if_neg (fun w => e (by rw [chr_in (by omega) w.2.1]; exact w.2.2))]
          exact C9
    · have d := Classical.not_not.mp d
      rw [if_pos d] at hq
      exact ⟨5, w_num_L B (by omega) 4 0 5 0 p h rfl (by decide) (by decide) (by decide) C hq⟩
  · have e : chr T L (p, 0, out) = -1 := by
      unfold chr
      rw [if_neg (fun w => lt w.2)]
    rw [e]
    unfold pq at hq
    rw [if_neg lt] at hq
    exact ⟨fun _ => br_n (by decide) (br_n (by decide) (br_n (fun w => th.1 w.symm) (br_n (by decide) (br_n (by decide) (w_fail C L60 hq))))), fun w => absurd (by decide) w⟩
/-- the level's reader -/
def wl (rc : rt_X5) (lev : Nat) : Int32 → hp_T → (hp_T → Prop) → Prop := if lev = 5 then rc.1 else if lev = 4 then rc.2.1 else if lev = 3 then rc.2.2.1 else if lev = 2 then rc.2.2.2.1 else if lev = 1 then rc.2.2.2.2.1 else rc.2.2.2.2.2
theorem Wrd (hu : u < 2) (B : CB h0 T L u) : ∀ (d lev o p : Nat) (out : List Int32) (h : hp_T) (Q : hp_T → Prop), lev ≤ 5 → o ≤ 5 → 6 * (5 - o) + lev + 1 ≤ d → p ≤ L → out.length ≤ p → CS h0 T L (p, 0, out) h → (∀ h1, CS h0 T L (ps T L u d lev o p out) h1 → Q h1) → wl (wr_X5 d) lev (nI o) h Q := by
  intro d
  induction d with
  | zero => intro lev o p out h Q h1 h2 h3; omega
  | succ d ih =>
    intro lev o p out h Q hlev ho hd hp hl C hq
    unfold ps at hq
    have PK : ∀ lev o p out, p ≤ L → PRs T L u p out (ps T L u d lev o p out) := fun lev o p out hp => ps_ok hu d lev o p out hp
    have g : lev = 5 ∨ lev = 4 ∨ lev = 3 ∨ lev = 2 ∨ lev = 1 ∨ lev = 0 := by omega
    have len : ∀ lev, (ps T L u d lev o p out).2.1 = 0 → (ps T L u d lev o p out).2.2.length ≤ (ps T L u d lev o p out).1 := by
      intro lev m
      obtain ⟨a1, a2, a3, a4, a5⟩ := PK lev o p out hp
      obtain ⟨b1, e, b2, b3, b4⟩ := a4 m
      rw [b2, List.length_append]
      omega
    rcases g with rfl | rfl | rfl | rfl | rfl | rfl
    · show wp_X5_readT (wr_X5 d) (nI o) h Q
      rw [if_neg (by decide), if_neg (by decide)] at hq
      exact ih 4 o p out h _ (by decide) ho (by omega) hp hl C (fun h1 C1 => ⟨L + 1, wT_L B (fun p out hp => PK 4 o p out hp) (fun p out h Q hp hl C hq => ih 4 o p out h Q (by decide) ho (by omega) hp hl C hq) L 0 (L + 1) _ h1 (by omega) (by omega) C1 (len 4) hq⟩)
    · show wp_X5_readA (wr_X5 d) (nI o) h Q
      rw [if_neg (by decide), if_neg (by decide)] at hq
      exact ih 3 o p out h _ (by decide) ho (by omega) hp hl C (fun h1 C1 => ⟨L + 1, wA_L B (fun p out hp => PK 3 o p out hp) (fun p out h Q hp hl C hq => ih 3 o p out h Q (by decide) ho (by omega) hp hl C hq) L 0 (L + 1) _ h1 (by omega) (by omega) C1 (len 3) hq⟩)
    · show wp_X5_readB (wr_X5 d) (nI o) h Q
      rw [if_neg (by decide), if_pos rfl] at hq
      exact ih 2 o p out h _ (by decide) ho (by omega) hp hl C (fun h1 C1 => wB_B B (fun p out hp => PK 2 o p out hp) (fun p out h Q hp hl C hq => ih 2 o p out h Q (by decide) ho (by omega) hp hl C hq) C1 (len 2) hq)
    · show wp_X5_readS (wr_X5 d) (nI o) h Q
      rw [if_neg (by decide), if_neg (by decide)] at hq
      exact ih 1 o p out h _ (by decide) ho (by omega) hp hl C (fun h1 C1 => ⟨L + 1, wS_L B (fun p out hp => PK 1 o p out hp) (fun p out h Q hp hl C hq => ih 1 o p out h Q (by decide) ho (by omega) hp hl C hq) L 0 (L + 1) _ h1 (by omega) (by omega) C1 (len 1) hq⟩)
    · show wp_X5_readP (wr_X5 d) (nI o) h Q
      rw [if_neg (by decide), if_neg (by decide)] at hq
      exact ih 0 o p out h _ (by decide) ho (by omega) hp hl C (fun h1 C1 => ⟨L + 1, wP_L B (fun p out hp => PK 0 o p out hp) (fun p out h Q hp hl C hq => ih 0 o p out h Q (by decide) ho (by omega) hp hl C hq) L 0 (L + 1) _ h1 (by omega) (by omega) C1 (len 0) hq⟩)
    · show wp_X5_readQ (wr_X5 d) (nI o) h Q
      rw [if_pos rfl] at hq
      exact wQ hu B ho PK (fun g p out h Q hp hl C hq => ih 0 (o + 1) p out h Q (by decide) (by omega) (by omega) hp hl C hq) (fun g p out h Q hp hl C hq => ih 5 (o + 1) p out h Q (by decide) (by omega) (by omega) hp hl C hq) C hl hq
end CD
