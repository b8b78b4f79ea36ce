/-! ===== PURE: the calls: began, changes, handed ===== -/
def bgF (S : st_T) (k : Nat) (v : Int32) (b : Nat) (x : Int32 × Int32) : Int32 × Int32 := if kn S b (nI k) = true ∧ S (11 + 17 * b + 5 + k) = v then (1, if x.1 = 0 then S (11 + 17 * b + 2) else if S (11 + 17 * b + 2) < x.2 then S (11 + 17 * b + 2) else x.2) else x
theorem w_began_L {S : st_T} {h : hp_T} {k : Nat} {v : Int32} {Q : Int32 → hp_T → Prop} (hc : rg (S 0) 0 6) (hk : k < 6) (R : RI h 1 S) : ∀ (r i nn : Nat) (x : Int32 × Int32), i + r = cr S → r < nn → (((lp (bgF S k v) i r x).1 = 0 → wp_X7_error 2 h Q) ∧ (¬ (lp (bgF S k v) i r x).1 = 0 → Q (lp (bgF S k v) i r x).2 h)) → wp_X7_began_L32 (nI k) v Q nn x.1 x.2 (nI i) h := by
  intro r
  induction r with
  | zero =>
    intro i nn x hi hn hq
    obtain ⟨nn, rfl⟩ : ∃ m, nn = m + 1 := ⟨nn - 1, by omega⟩
    unfold wp_X7_began_L32
    rw [R.crew, (cr_nI hc).1]
    have := (cr_nI hc).2
    exact ⟨fun _ => hq, fun z => absurd (nI_le (by omega) (by omega)) z⟩
  | succ r ih =>
    intro i nn x hi hn hq
    obtain ⟨nn, rfl⟩ : ∃ m, nn = m + 1 := ⟨nn - 1, by omega⟩
    unfold wp_X7_began_L32
    have h6 := (cr_nI hc).2
    obtain ⟨v1, v2, v3⟩ := vp_nI hc (show i < cr S by omega)
    have vk : vp_in (nI k) 6 := vp_in_nI hk (by decide)
    rw [R.crew, (cr_nI hc).1, v2, w_knows, R.bk 3 (by omega) v3 (by decide), R.bk 2 (by omega) v3 (by decide), nI_clamp (n := k) (by omega), R.ver (by omega) v3 hk, show nI i + 1 = nI (i + 1) from nI_1 i]
    simp only [bi_0]
    have next : ∀ y : Int32 × Int32, bgF S k v i x = y → wp_X7_began_L32 (nI k) v Q nn y.1 y.2 (nI (i + 1)) h := by
      intro y hy
      refine ih (i + 1) nn y (by omega) (by omega) ?_
      have hq' : ((lp (bgF S k v) (i + 1) r (bgF S k v i x)).1 = 0 → wp_X7_error 2 h Q) ∧ (¬ (lp (bgF S k v) (i + 1) r (bgF S k v i x)).1 = 0 → Q (lp (bgF S k v) (i + 1) r (bgF S k v i x)).2 h) := hq
      rw [hy] at hq'
      exact hq'
    refine ⟨fun z => absurd z (nI_ge (by omega) (by omega)), fun _ => ⟨v1, fun z => ?_, fun z => ⟨vk, fun e => ⟨fun e0 => ?_, fun e0 => ?_⟩, fun e => ?_⟩⟩⟩
    · refine next x ?_
      unfold bgF
      rw [if_neg (fun w => z ⟨by rw [i_le, i_le, i_nI (by omega)]; have e0 : (0 : Int32).toInt = 0 := rfl; have e5 : (5 : Int32).toInt = 5 := rfl; omega, w.1⟩)]
    · refine next (1, S (11 + 17 * i + 2)) ?_
      unfold bgF
      rw [if_pos ⟨(Classical.not_not.mp z).2, e⟩, if_pos e0]
    · refine next (1, if S (11 + 17 * i + 2) < x.2 then S (11 + 17 * i + 2) else x.2) ?_
      unfold bgF
      rw [if_pos ⟨(Classical.not_not.mp z).2, e⟩, if_neg e0]
    · refine next x ?_
      unfold bgF
      rw [if_neg (fun w => e w.2)]
theorem m_began_L {S : st_T} {h : hp_T} {k : Nat} {v : Int32} {Q : Int32 → hp_T → Prop} (hc : rg (S 0) 0 6) (hk : k < 6) (hS : hp_i h 106 = S) : ∀ (r i nn : Nat) (x : Int32 × Int32), i + r = cr S → r < nn → (x.1 = 0 ∨ x.1 = 1) → (((lp (bgF S k v) i r x).1 = 0 → wp_X8_errs (-1000000002) h Q) ∧ (¬ (lp (bgF S k v) i r x).1 = 0 → Q (lp (bgF S k v) i r x).2 h)) → wp_X8_began_L29 (nI k) v Q nn x.1 x.2 (nI i) h := by
  intro r
  induction r with
  | zero =>
    intro i nn x hi hn h01 hq
    obtain ⟨nn, rfl⟩ : ∃ m, nn = m + 1 := ⟨nn - 1, by omega⟩
    unfold wp_X8_began_L29
    rw [hS, (cr_nI hc).1]
    have := (cr_nI hc).2
    exact ⟨fun _ => hq, fun z => absurd (nI_le (by omega) (by omega)) z⟩
  | succ r ih =>
    intro i nn x hi hn h01 hq
    obtain ⟨nn, rfl⟩ : ∃ m, nn = m + 1 := ⟨nn - 1, by omega⟩
    unfold wp_X8_began_L29
    have h6 := (cr_nI hc).2
    obtain ⟨v1, v2, v3⟩ := vp_nI hc (show i < cr S by omega)
    have vk : vp_in (nI k) 6 := vp_in_nI hk (by decide)
    unfold wp_X8_began_b68
    simp only [x_isKnowing v1, x_itsV v1 vk, x_its2 v1, bi_0, v2, hS, nI_clamp (show k < 2 ^ 31 by omega), show nI i + 1 = nI (i + 1) from nI_1 i]
    rw [(cr_nI hc).1]
    have next : ∀ y : Int32 × Int32, (y.1 = 0 ∨ y.1 = 1) → bgF S k v i x = y → wp_X8_began_L29 (nI k) v Q nn y.1 y.2 (nI (i + 1)) h := by
      intro y hy1 hy
      refine ih (i + 1) nn y (by omega) (by omega) hy1 ?_
      have hq' : ((lp (bgF S k v) (i + 1) r (bgF S k v i x)).1 = 0 → wp_X8_errs (-1000000002) h Q) ∧ (¬ (lp (bgF S k v) (i + 1) r (bgF S k v i x)).1 = 0 → Q (lp (bgF S k v) (i + 1) r (bgF S k v i x)).2 h) := hq
      rw [hy] at hq'
      exact hq'
    have stay : ¬ (kn S i (nI k) = true ∧ S (11 + 17 * i + 5 + k) = v) → (True → (x.1 = 0 → (True → wp_X8_began_L29 (nI k) v Q nn 0 x.2 (nI (i + 1)) h) ∧ (¬ True → wp_X8_began_L29 (nI k) v Q nn 1 x.2 (nI (i + 1)) h)) ∧ (¬ x.1 = 0 → wp_X8_began_L29 (nI k) v Q nn 1 x.2 (nI (i + 1)) h)) := by
      intro w _
      have e : bgF S k v i x = x := by unfold bgF; rw [if_neg w]
      refine ⟨fun e0 => ⟨fun _ => ?_, fun n => absurd trivial n⟩, fun e0 => ?_⟩
      · have := next x h01 e
        rw [e0] at this
        exact this
      · have := next x h01 e
        rw [h01.resolve_left e0] at this
        exact this
    have take : (kn S i (nI k) = true ∧ S (11 + 17 * i + 5 + k) = v) → ∀ w : Int32, (w = if x.1 = 0 then S (11 + 17 * i + 2) else if S (11 + 17 * i + 2) < x.2 then S (11 + 17 * i + 2) else x.2) → wp_X8_began_L29 (nI k) v Q nn 1 w (nI (i + 1)) h := by
      intro w y hy
      refine next (1, y) (Or.inr rfl) ?_
      unfold bgF
      rw [if_pos w, hy]
    refine ⟨fun z => absurd z (nI_ge (by omega) (by omega)), fun _ => ⟨fun z => ⟨stay (fun w => z w.1), fun n => absurd trivial n⟩, fun z => ⟨fun e => ⟨fun n => absurd n (by decide), fun _ => ?_⟩, fun e => ⟨stay (fun w => e w.2), fun n => absurd trivial n⟩⟩⟩⟩
    have w : kn S i (nI k) = true ∧ S (11 + 17 * i + 5 + k) = v := ⟨Classical.not_not.mp z, e⟩
    have tk := take w
    refine ⟨fun e0 => ⟨fun _ => ⟨fun n => absurd n (by decide), fun _ => ?_⟩, fun n => absurd e0 n⟩, fun e0 => ⟨fun le => ⟨fun n => absurd n e0, fun _ => ?_⟩, fun lt => ⟨fun n => absurd n e0, fun _ => ?_⟩⟩⟩
    · exact tk _ (by rw [if_pos e0])
    · exact tk _ (by rw [if_neg e0, if_neg (Int32.not_lt.mpr le)])
    · exact tk _ (by rw [if_neg e0, if_pos (Int32.not_le.mp lt)])
theorem c_began {x v : Int32} {h : hp_T} (I : Inv h) : wp_X7_began x v h (fun r1 h1 => wp_X8_began x v h1 (fun r2 h2 => r1 = r2 ∧ Inv h2)) := by
  have V := I.V
  unfold wp_X7_began
  simp only [w_isKnack, w_within, bi_0, er1]
  refine ⟨fun z => ?_, fun z => ⟨fun z2 => ?_, fun z2 => ?_⟩⟩
  · unfold wp_X8_began
    simp only [x_isKnack, x_isVersion, bi_0]
    exact ⟨fun _ => f1 I, fun w => absurd z w⟩
  · unfold wp_X8_began
    simp only [x_isKnack, x_isVersion, bi_0]
    exact ⟨fun w => absurd w z, fun _ => ⟨fun _ => f1 I, fun w => absurd z2 w⟩⟩
  · obtain ⟨k, hk, rfl⟩ := nat_of (n := 5) (Classical.not_not.mp z) rfl
    have ref : ∀ h' Q, hp_i h' 106 = hp_i h 106 → (((lp (bgF (hp_i h 106) k v) 0 (cr (hp_i h 106)) (0, 0)).1 = 0 → wp_X8_errs (-1000000002) h' Q) ∧ (¬ (lp (bgF (hp_i h 106) k v) 0 (cr (hp_i h 106)) (0, 0)).1 = 0 → Q (lp (bgF (hp_i h 106) k v) 0 (cr (hp_i h 106)) (0, 0)).2 h')) → wp_X8_began (nI k) v h' Q := by
      intro h' Q e f
      unfold wp_X8_began
      simp only [x_isKnack, x_isVersion, bi_0]
      exact ⟨fun w => absurd w z, fun _ => ⟨fun w => absurd w z2, fun _ => ⟨cr (hp_i h 106) + 1, m_began_L V.1 (by omega) e (cr (hp_i h 106)) 0 (cr (hp_i h 106) + 1) (0, 0) (by omega) (by omega) (Or.inl rfl) f⟩⟩⟩
    refine ⟨cr (hp_i h 106) + 1, w_began_L V.1 (by omega) I.R.i (cr (hp_i h 106)) 0 (cr (hp_i h 106) + 1) (0, 0) (by omega) (by omega) ⟨fun w => ?_, fun w => ?_⟩⟩
    · rw [er2]
      exact ref _ _ (er_row (by decide)) ⟨fun _ => f2 I, fun n => absurd w n⟩
    · exact ref _ _ rfl ⟨fun n => absurd n w, fun _ => ⟨rfl, I⟩⟩
def cgF (S : st_T) (k : Nat) (b : Nat) (x : Int32 × Int32) : Int32 × Int32 := if kn S b (nI k) = true then (S (11 + 17 * b + 5 + k), x.2 + (if S (11 + 17 * b + 5 + k) = x.1 then 0 else 1)) else x
theorem w_changes_L {S : st_T} {h : hp_T} {k : Nat} {v : Int32} {Q : Int32 → hp_T → Prop} (hc : rg (S 0) 0 6) (hk : k < 6) (R : RI h 1 S) : ∀ (r i nn : Nat) (x : Int32 × Int32), i + r = cr S → r < nn → Q (lp (cgF S k) i r x).2 h → wp_X7_changes_L32 (nI k) v Q nn x.1 x.2 (nI i) h := by
  intro r
  induction r with
  | zero =>
    intro i nn x hi hn hq
    obtain ⟨nn, rfl⟩ : ∃ m, nn = m + 1 := ⟨nn - 1, by omega⟩
    unfold wp_X7_changes_L32
    rw [R.crew, (cr_nI hc).1]
    have := (cr_nI hc).2
    exact ⟨fun _ => hq, fun z => absurd (nI_le (by omega) (by omega)) z⟩
  | succ r ih =>
    intro i nn x hi hn hq
    obtain ⟨nn, rfl⟩ : ∃ m, nn = m + 1 := ⟨nn - 1, by omega⟩
    unfold wp_X7_changes_L32
    have h6 := (cr_nI hc).2
    obtain ⟨v1, v2, v3⟩ := vp_nI hc (show i < cr S by omega)
    have vk : vp_in (nI k) 6 := vp_in_nI hk (by decide)
    rw [R.crew, (cr_nI hc).1, v2, w_knows, R.bk 3 (by omega) v3 (by decide), nI_clamp (n := k) (by omega), R.ver (by omega) v3 hk, show nI i + 1 = nI (i + 1) from nI_1 i]
    simp only [bi_0]
    have hq' : Q (lp (cgF S k) (i + 1) r (cgF S k i x)).2 h := hq
    have next : ∀ y : Int32 × Int32, cgF S k i x = y → wp_X7_changes_L32 (nI k) v Q nn y.1 y.2 (nI (i + 1)) h := by
      intro y hy
      refine ih (i + 1) nn y (by omega) (by omega) ?_
      rw [hy] at hq'
      exact hq'
    refine ⟨fun z => absurd z (nI_ge (by omega) (by omega)), fun _ => ⟨v1, fun z => ?_, fun z => ⟨vk, fun e => ⟨vk, ?_⟩, fun e => ⟨vk, ?_⟩⟩⟩⟩
    · refine next x ?_
      unfold cgF
      rw [if_neg (show ¬ kn S i (nI k) = true from fun w => z ⟨by rw [i_le, i_le, i_nI (by omega)]; have e0 : (0 : Int32).toInt = 0 := rfl; have e5 : (5 : Int32).toInt = 5 := rfl; omega, w⟩)]
    · refine next (_, x.2 + 0) ?_
      unfold cgF
      rw [if_pos (show kn S i (nI k) = true from (Classical.not_not.mp z).2), if_pos e]
    · refine next (_, x.2 + 1) ?_
      unfold cgF
      rw [if_pos (show kn S i (nI k) = true from (Classical.not_not.mp z).2), if_neg e]
theorem m_changes_L {S : st_T} {h : hp_T} {k : Nat} {v : Int32} {Q : Int32 → hp_T → Prop} (hc : rg (S 0) 0 6) (hk : k < 6) (hS : hp_i h 106 = S) : ∀ (r i nn : Nat) (x : Int32 × Int32), i + r = cr S → r < nn → Q (lp (cgF S k) i r x).2 h → wp_X8_changes_L29 (nI k) v Q nn x.1 x.2 (nI i) h := by
  intro r
  induction r with
  | zero =>
    intro i nn x hi hn hq
    obtain ⟨nn, rfl⟩ : ∃ m, nn = m + 1 := ⟨nn - 1, by omega⟩
    unfold wp_X8_changes_L29
    rw [hS, (cr_nI hc).1]
    have := (cr_nI hc).2
    exact ⟨fun _ => hq, fun z => absurd (nI_le (by omega) (by omega)) z⟩
  | succ r ih =>
    intro i nn x hi hn hq
    obtain ⟨nn, rfl⟩ : ∃ m, nn = m + 1 := ⟨nn - 1, by omega⟩
    unfold wp_X8_changes_L29
    have h6 := (cr_nI hc).2
    obtain ⟨v1, v2, v3⟩ := vp_nI hc (show i < cr S by omega)
    have vk : vp_in (nI k) 6 := vp_in_nI hk (by decide)
    simp only [x_isKnowing v1, x_itsV v1 vk, bi_0, v2, hS, nI_clamp (show k < 2 ^ 31 by omega), show nI i + 1 = nI (i + 1) from nI_1 i]
    rw [(cr_nI hc).1]
    have hq' : Q (lp (cgF S k) (i + 1) r (cgF S k i x)).2 h := hq
    have next : ∀ y : Int32 × Int32, cgF S k i x = y → wp_X8_changes_L29 (nI k) v Q nn y.1 y.2 (nI (i + 1)) h := by
      intro y hy
      refine ih (i + 1) nn y (by omega) (by omega) ?_
      rw [hy] at hq'
      exact hq'
    refine ⟨fun z => absurd z (nI_ge (by omega) (by omega)), fun _ => ⟨fun z => ?_, fun z => ⟨fun e => ?_, fun e => ?_⟩⟩⟩
    · refine next x ?_
      unfold cgF
      rw [if_neg (show ¬ kn S i (nI k) = true from z)]
    · refine next (_, x.2 + 0) ?_
      unfold cgF
      rw [if_pos (show kn S i (nI k) = true from Classical.not_not.mp z), if_pos e]
    · refine next (_, x.2 + 1) ?_
      unfold cgF
      rw [if_pos (show kn S i (nI k) = true from Classical.not_not.mp z), if_neg e]
theorem c_changes {x v : Int32} {h : hp_T} (I : Inv h) : wp_X7_changes x v h (fun r1 h1 => wp_X8_changes x v h1 (fun r2 h2 => r1 = r2 ∧ Inv h2)) := by
  have V := I.V
  unfold wp_X7_changes
  simp only [w_isKnack, w_within, bi_0, er1]
  refine ⟨fun z => ?_, fun z => ⟨fun z2 => ?_, fun z2 => ?_⟩⟩
  · unfold wp_X8_changes
    simp only [x_isKnack, x_isVersion, bi_0]
    exact ⟨fun _ => f1 I, fun w => absurd z w⟩
  · unfold wp_X8_changes
    simp only [x_isKnack, x_isVersion, bi_0]
    exact ⟨fun w => absurd w z, fun _ => ⟨fun _ => f1 I, fun w => absurd z2 w⟩⟩
  · obtain ⟨k, hk, rfl⟩ := nat_of (n := 5) (Classical.not_not.mp z) rfl
    refine ⟨cr (hp_i h 106) + 1, w_changes_L V.1 (by omega) I.R.i (cr (hp_i h 106)) 0 (cr (hp_i h 106) + 1) (v, 0) (by omega) (by omega) ?_⟩
    unfold wp_X8_changes
    simp only [x_isKnack, x_isVersion, bi_0]
    exact ⟨fun w => absurd w z, fun _ => ⟨fun w => absurd w z2, fun _ => ⟨cr (hp_i h 106) + 1, m_changes_L V.1 (by omega) rfl (cr (hp_i h 106)) 0 (cr (hp_i h 106) + 1) (v, 0) (by omega) (by omega) ⟨rfl, I⟩⟩⟩⟩
def mu (S : st_T) (b : Nat) : Prop := S (11 + 17 * b) = 2 ∨ S (11 + 17 * b) = 5
noncomputable def hd (S : st_T) (b : Nat) : Nat → Nat → Nat
  | i, 0 => i
  | i, r + 1 => @ite _ (mu S ((b + i) % cr S)) (Classical.propDecidable _) i (hd S b (i + 1) r)
theorem w_handed_L {S : st_T} {h : hp_T} {b : Nat} {y : Int32} {D : Int} {Q : Int32 → hp_T → Prop} (hV : Vl D S) (hb : b < cr S) (R : RI h 1 S) : ∀ (r i nn : Nat), i + r = cr S - 1 → r < nn → Q (nI (hd S b i r)) h → wp_X7_handed_L45 (nI b) y Q nn (nI i) h := by
  have C := cr_nI hV.1
  intro r
  induction r with
  | zero =>
    intro i nn hi hn hq
    obtain ⟨nn, rfl⟩ : ∃ m, nn = m + 1 := ⟨nn - 1, by omega⟩
    unfold wp_X7_handed_L45
    rw [R.crew, C.1, show nI (cr S) - 1 = nI (cr S - 1) from pk_sub (b := 1) (by omega)]
    exact ⟨fun _ => hq, fun z => absurd (nI_le (by omega) (by omega)) z⟩
  | succ r ih =>
    intro i nn hi hn hq
    obtain ⟨nn, rfl⟩ : ∃ m, nn = m + 1 := ⟨nn - 1, by omega⟩
    unfold wp_X7_handed_L45
    have hm := Nat.mod_lt (b + i) (show 0 < cr S by omega)
    rw [R.crew, C.1, show nI (cr S) - 1 = nI (cr S - 1) from pk_sub (b := 1) (by omega), nI_add, pk_rem (by omega) (by omega) (by omega), nI_clamp (n := (b + i) % cr S) (by omega), show nI i + 1 = nI (i + 1) from nI_1 i]
    refine ⟨fun z => absurd z (nI_ge (by omega) (by omega)), fun _ => ⟨nI_ne0 (by omega) (by omega), vp_in_nI (by omega) (by decide), ?_⟩⟩
    refine w_isMute (by rw [R.bk0 hm (by omega)]; exact (hV.2.2.2.2.2.2.2.1 _ hm).1) ?_
    rw [R.bk0 hm (by omega)]
    simp only [bi_0]
    refine ⟨fun z => ih (i + 1) nn (by omega) (by omega) ?_, fun z => ?_⟩
    · unfold hd at hq
      rw [if_neg (show ¬ mu S ((b + i) % cr S) from z)] at hq
      exact hq
    · unfold hd at hq
      rw [if_pos (show mu S ((b + i) % cr S) from Classical.not_not.mp z)] at hq
      exact hq
theorem m_handed_L {S : st_T} {h : hp_T} {b : Nat} {y : Int32} {D : Int} {Q : Int32 → hp_T → Prop} (hV : Vl D S) (hb : b < cr S) (hS : hp_i h 106 = S) : ∀ (r i nn : Nat), i + r = cr S - 1 → r < nn → Q (nI (hd S b i r)) h → wp_X8_handed_L40 (nI b) y Q nn (nI i) h := by
  have C := cr_nI hV.1
  intro r
  induction r with
  | zero =>
    intro i nn hi hn hq
    obtain ⟨nn, rfl⟩ : ∃ m, nn = m + 1 := ⟨nn - 1, by omega⟩
    unfold wp_X8_handed_L40
    rw [hS, C.1, show nI i + 1 = nI (i + 1) from nI_1 i]
    exact ⟨fun _ => hq, fun z => absurd (nI_le (by omega) (by omega)) z⟩
  | succ r ih =>
    intro i nn hi hn hq
    obtain ⟨nn, rfl⟩ : ∃ m, nn = m + 1 := ⟨nn - 1, by omega⟩
    unfold wp_X8_handed_L40
    have hm := Nat.mod_lt (b + i) (show 0 < cr S by omega)
    rw [hS, C.1, show nI i + 1 = nI (i + 1) from nI_1 i, nI_add, pk_rem (by omega) (by omega) (by omega), x_isMute (vp_in_nI (by omega) (by decide)) hS, nI_clamp (n := (b + i) % cr S) (by omega)]
    simp only [bi_0]
    refine ⟨fun z => absurd z (nI_ge (by omega) (by omega)), fun _ => ⟨nI_ne0 (by omega) (by omega), fun z => ih (i + 1) nn (by omega) (by omega) ?_, fun z => ?_⟩⟩
    · unfold hd at hq
      rw [if_neg (show ¬ mu S ((b + i) % cr S) from z)] at hq
      exact hq
    · unfold hd at hq
      rw [if_pos (show mu S ((b + i) % cr S) from Classical.not_not.mp z)] at hq
      exact hq
theorem c_handed {x y : Int32} {h : hp_T} (I : Inv h) : wp_X7_handed x y h (fun r1 h1 => wp_X8_handed x y h1 (fun r2 h2 => r1 = r2 ∧ Inv h2)) := by
  have V := I.V
  unfold wp_X7_handed
  simp only [w_isBunk, w_isKnack, bi_0, er1, er3]
  rw [I.crew]
  refine ⟨fun z => ?_, fun z => ⟨fun z2 => ?_, fun z2 => ?_⟩⟩
  · unfold wp_X8_handed
    simp only [x_isBunk, x_isKnack, bi_0]
    rw [er_i (by decide)]
    exact ⟨fun _ => f1 I, fun w => absurd z w⟩
  · unfold wp_X8_handed
    simp only [x_isBunk, x_isKnack, bi_0]
    rw [er_i (by decide)]
    exact ⟨fun w => absurd w z, fun _ => ⟨fun _ => f1 I, fun w => absurd z2 w⟩⟩
  · obtain ⟨b, hb, rfl⟩ := bunk_of V.1 (Classical.not_not.mp z)
    have h6 : b < 6 := Nat.lt_of_lt_of_le hb (cr6 V.1)
    have vb : vp_in (nI b) 6 := vp_in_nI h6 (by decide)
    have bc : (nI b).toNatClampNeg = b := nI_clamp (by omega)
    rw [bc]
    simp only [w_knows, bi_0]
    rw [I.R.i.bk 3 hb h6 (by decide)]
    refine ⟨vb, fun n => ?_, fun n => ?_⟩
    · unfold wp_X8_handed
      simp only [x_isBunk, x_isKnack, x_isKnowing vb, bi_0, bc]
      rw [er_row (by decide)]
      exact ⟨fun w => absurd w z, fun _ => ⟨fun w => absurd w z2, fun _ => ⟨fun _ => f3 I, fun w => absurd ⟨Classical.not_not.mp z2, Classical.not_not.mp w⟩ n⟩⟩⟩
    · refine ⟨cr (hp_i h 106), w_handed_L V hb I.R.i (cr (hp_i h 106) - 1) 0 (cr (hp_i h 106)) (by omega) (by omega) ?_⟩
      unfold wp_X8_handed
      simp only [x_isBunk, x_isKnack, x_isKnowing vb, bi_0, bc]
      exact ⟨fun w => absurd w z, fun _ => ⟨fun w => absurd w z2, fun _ => ⟨fun w => absurd (Classical.not_not.mp n).2 w, fun _ => ⟨cr (hp_i h 106), m_handed_L V hb rfl (cr (hp_i h 106) - 1) 0 (cr (hp_i h 106)) (by omega) (by omega) ⟨rfl, I⟩⟩⟩⟩⟩
