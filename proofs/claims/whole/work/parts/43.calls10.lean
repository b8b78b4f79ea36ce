/-! ===== PURE: the calls: saves ===== -/
def dones (S : st_T) : Int32 := lp (fun t a => a + S (137 + 4 * t + 2)) 0 4 0
theorem w_doneOf_L {S : st_T} {p : Nat} {h : hp_T} {Q : Int32 → Prop} (R : RI h p S) : ∀ (r i nn : Nat) (a : Int32), i + r = 4 → r < nn → Q (lp (fun t a => a + S (137 + 4 * t + 2)) i r a) → wp_X2_doneOfAll_L4 p h Q nn a (nI i) := by
  intro r
  induction r with
  | zero =>
    intro i nn a hi hn hq
    obtain ⟨nn, rfl⟩ : ∃ m, nn = m + 1 := ⟨nn - 1, by omega⟩
    unfold wp_X2_doneOfAll_L4
    have : i = 4 := by omega
    subst this
    exact ⟨fun _ => hq, fun z => absurd (by decide) z⟩
  | succ r ih =>
    intro i nn a hi hn hq
    obtain ⟨nn, rfl⟩ : ∃ m, nn = m + 1 := ⟨nn - 1, by omega⟩
    unfold wp_X2_doneOfAll_L4
    rw [nI_clamp (n := i) (by omega), R.tk 2 (by omega) (by decide), show nI i + 1 = nI (i + 1) from nI_1 i]
    exact ⟨fun z => absurd z (nI_ge (b := 4) (by omega) (by decide)), fun _ => ⟨vp_in_nI (by omega) (by decide), ih (i + 1) nn _ (by omega) (by omega) hq⟩⟩
theorem w_dwb_L {n : Nat} {x1 : Int32} (hn : n ≤ 1000) {Q : Int32 → hp_T → Prop} : ∀ (r i nn : Nat) (D : Int) (x : st_T × Int32 × Int32) (h : hp_T), i + r = n → r < nn → D + r ≤ 100000 → Vl D x.1 → Rl h 61 x.1 → (∀ h1, fr PTK h h1 → Q (dones (lp (dyF false) i r x).1) h1) → wp_X7_doneWithBook_L21 x1 (nI n) Q nn (nI i) h := by
  intro r
  induction r with
  | zero =>
    intro i nn D x h hi hnn hD hV R hq
    obtain ⟨nn, rfl⟩ : ∃ m, nn = m + 1 := ⟨nn - 1, by omega⟩
    unfold wp_X7_doneWithBook_L21
    exact ⟨fun _ => ⟨5, w_doneOf_L R.i 4 0 5 0 rfl (by decide) (hq h fr.refl)⟩, fun z => absurd (nI_le (by omega) (by omega)) z⟩
  | succ r ih =>
    intro i nn D x h hi hnn hD hV R hq
    obtain ⟨nn, rfl⟩ : ∃ m, nn = m + 1 := ⟨nn - 1, by omega⟩
    unfold wp_X7_doneWithBook_L21
    refine ⟨fun z => absurd z (nI_ge (by omega) (by omega)), fun _ => ?_⟩
    refine w_passDay (by decide) hV R ?_
    intro h1 f1 R1
    rw [show nI i + 1 = nI (i + 1) from nI_1 i]
    refine ih (i + 1) nn (D + 1) (dyF false i x) h1 (by omega) (by omega) (by omega) (Vl_dy false hV (by omega)) R1 ?_
    intro h2 f2
    exact hq h2 ((f1.mono fun a j z => PS_PTK (cr6 hV.1) z).trans f2)
theorem w_dwb {h : hp_T} {S : st_T} {n : Nat} {kn' : Int32} {Q : Int32 → hp_T → Prop} (hn : n ≤ 1000) (hw : 117 ≤ hp_n h) (hV : Vl 9999 S) (R : Rl h 1 S) (hk : rg kn' 0 63) (hQ : ∀ h1, hp_n h1 = hp_n h → ex PTK RTK h h1 → Q (dones (dys false n (ss S 4 kn')).1) h1) : wp_X7_doneWithBook kn' (nI n) h Q := by
  unfold wp_X7_doneWithBook
  refine w_copyT hw hV R ?_
  intro h1 n1 e1 R1
  rintro h2 rfl
  have V4 : Vl 9999 (ss S 4 kn') := Vl_s hV (by omega) (fun _ => hk) (by omega)
  have f2 : fr (PS 61 (cr S)) h1 (hp_si h1 61 6 kn') := fr_si (Or.inl ⟨by omega, by omega, by omega⟩)
  have R2 : Rl (hp_si h1 61 6 kn') 61 (ss S 4 kn') := Rl_of R1 (by decide) (cr6 hV.1) f2 (R1.i.w0 4 6 (Or.inl ⟨rfl, by omega⟩) (by decide)) (fun j hj => ss_n (by omega))
  refine ⟨n + 1, w_dwb_L hn n 0 (n + 1) 9999 (ss S 4 kn', 0, 0) _ (by omega) (by omega) (by omega) V4 R2 ?_⟩
  intro h3 f3
  rw [← dys_eq]
  exact hQ h3 (by rw [f3.n]; exact n1) (e1.trans ((f2.mono fun a j z => PS_PTK (cr6 hV.1) z).trans f3).ex)
theorem m_done_L {T S : st_T} {x1 x2 : Int32} {Q : Int32 → hp_T → Prop} {h : hp_T} (hT : hp_i h 106 = T) (h8 : hp_i h 108 = S) (hz : ∀ j, 357 ≤ j → S j = 0 ∧ T j = 0) : ∀ (r i nn : Nat) (a : Int32), i + r = 4 → r < nn → (∀ h1, fr PMa h h1 → hp_i h1 106 = S → hp_i h1 108 = S → Q (lp (fun t a => a + T (137 + 4 * t + 2)) i r a) h1) → wp_X8_doneIn_L18 x1 x2 Q nn a (nI i) h := by
  intro r
  induction r with
  | zero =>
    intro i nn a hi hn hq
    obtain ⟨nn, rfl⟩ : ∃ m, nn = m + 1 := ⟨nn - 1, by omega⟩
    unfold wp_X8_doneIn_L18
    have : i = 4 := by omega
    subst this
    exact ⟨fun _ => m_back h8 (fun j hj => by rw [hT]; exact hz j hj) hq, fun z => absurd (by decide) z⟩
  | succ r ih =>
    intro i nn a hi hn hq
    obtain ⟨nn, rfl⟩ : ∃ m, nn = m + 1 := ⟨nn - 1, by omega⟩
    unfold wp_X8_doneIn_L18
    rw [x_ofTask 2 (vp_in_nI (n := i) (by omega) (by decide)) (show (2 : Int32) = nI 2 from rfl) (by decide), nI_clamp (n := i) (by omega), hT, show nI i + 1 = nI (i + 1) from nI_1 i]
    exact ⟨fun z => absurd z (nI_ge (b := 4) (by omega) (by decide)), fun _ => ih (i + 1) nn _ (by omega) (by omega) hq⟩
theorem m_doneIn {h : hp_T} {S : st_T} {n : Nat} {kn' : Int32} {Q : Int32 → hp_T → Prop} (hn : n ≤ 1000) (hV : Vl 9999 S) (hS : hp_i h 106 = S) (h8 : hp_i h 108 = S) (hz : ∀ j, 357 ≤ j → S j = 0) (hk : rg kn' 0 63) (hQ : ∀ h1, fr PMa h h1 → hp_i h1 106 = S → hp_i h1 108 = S → Q (dones (dys false n (ss S 4 kn')).1) h1) : wp_X8_doneIn (nI n) kn' h Q := by
  unfold wp_X8_doneIn
  rintro h1 rfl
  have V4 : Vl 9999 (ss S 4 kn') := Vl_s hV (by omega) (fun _ => hk) (by omega)
  refine m_daysGo (dr := false) hn (by simp) (D := 9999) (by omega) V4 (by rw [si_row, hS]) ?_
  intro h2 f2 e2 _ _
  have e28 : hp_i h2 108 = S := by rw [f2.row (fun j z => by have z : PD 108 j := z; omega), si_row_ne (by decide)]; exact h8
  refine ⟨5, m_done_L e2 e28 (fun j hj => ⟨hz j hj, by rw [dys_z V4 (by omega) hj, ss_n (by omega)]; exact hz j hj⟩) 4 0 5 0 rfl (by decide) ?_⟩
  intro h3 f3 a b
  exact hQ h3 (((fr_si (P := PMa) (Or.inl rfl)).trans (f2.mono fun a j z => PD_Ma z)).trans f3) a b
theorem c_saves {x y : Int32} {h : hp_T} (I : Inv h) : wp_X7_saves x y h (fun r1 h1 => wp_X8_saves x y h1 (fun r2 h2 => r1 = r2 ∧ Inv h2)) := by
  have V := I.V
  have hw := I.n
  unfold wp_X7_saves
  simp only [w_isKnack, w_within, bi_0, er1]
  have bad : ∀ h', ¬ ((0 ≤ x ∧ x ≤ 5) ∧ 0 ≤ y ∧ y ≤ 90) → wp_X8_errs (-1000000001) h' (fun r2 h2 => (-1000000001 : Int32) = r2 ∧ Inv h2) → wp_X8_saves x y h' (fun r2 h2 => (-1000000001 : Int32) = r2 ∧ Inv h2) := by
    intro h' z f
    unfold wp_X8_saves
    simp only [x_isKnack, in_0_90, bi_0]
    exact ⟨fun _ => f, fun w1 => ⟨fun _ => f, fun w2 => absurd ⟨Classical.not_not.mp w1, Classical.not_not.mp w2⟩ z⟩⟩
  refine ⟨fun z => bad _ (fun q => z q.1) (f1 I), fun z => ⟨fun z2 => bad _ (fun q => z2 q.2) (f1 I), fun z2 => ?_⟩⟩
  obtain ⟨k, k5, rfl⟩ := nat_of (n := 5) (Classical.not_not.mp z) rfl
  obtain ⟨n, n90, rfl⟩ := nat_of (n := 90) (Classical.not_not.mp z2) rfl
  have V4 := V.2.2.2.2.1
  have g1 := or1 (k := k) V4 (by omega)
  have g2 := fg63 (k := k) V4 (by omega)
  rw [I.R.i.book]
  refine w_dwb (by omega) hw V I.R g1 ?_
  intro h1 n1 e1
  have R1 : Rl h1 1 (hp_i h 106) := I.R.ex (by decide) hw e1 (fun a j z => by
    rcases z with z | z
    · omega
    · have := k17 z; omega) (fun a j z w => by
    rcases z with z | z
    · have := k16 w; omega
    · rw [w] at z; exact absurd z (by decide)) (fun a j z => by
    have z : a = 67 := z
    subst z
    exact ⟨by decide, by decide⟩)
  rw [R1.i.book]
  refine w_dwb (by omega) (by omega) V R1 g2 ?_
  intro h2 n2 e2
  have e12 := e1.trans e2
  have e6 : hp_i h2 106 = hp_i h 106 := e12.row (by omega) (fun j => PTK_row (by decide) (by decide))
  have e8 : hp_i h2 108 = hp_i h 108 := e12.row (by omega) (fun j => PTK_row (by decide) (by decide))
  unfold wp_X8_saves
  simp only [x_isKnack, in_0_90, bi_0]
  refine ⟨fun w => absurd w z, fun _ => ⟨fun w => absurd w z2, fun _ => ?_⟩⟩
  refine m_keep e6 (fun j hj => ⟨(I.zr j hj).1, by rw [e8]; exact (I.zr j hj).2.2⟩) ?_
  intro h3 f3 e36 e38
  rw [e36]
  refine m_doneIn (by omega) V e36 e38 (fun j hj => (I.zr j hj).1) g1 ?_
  intro h4 f4 e46 e48
  rw [e46]
  refine m_doneIn (by omega) V e46 e48 (fun j hj => (I.zr j hj).1) g2 ?_
  intro h5 f5 e56 e58
  exact ⟨rfl, Inv_ah0 I (by rw [n2, n1]) e12 ((f3.trans f4).trans f5) e56 e58⟩
