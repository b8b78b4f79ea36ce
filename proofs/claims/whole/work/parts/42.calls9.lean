/-! ===== PURE: the calls: wages, saves ===== -/
theorem dy_z {S : st_T} {dr : Bool} {D : Int} (hV : Vl D S) (hz : ∀ j, 357 ≤ j → S j = 0) : ∀ j, 357 ≤ j → (dy dr S).1 j = 0 := fun j hj => by rw [dy_out hV (by omega) (by omega)]; exact hz j hj
theorem RX_fK {h h1 : hp_T} {p : Nat} {S : st_T} (R : RX h p S) (f : fr PK h h1) : RX h1 p S := R.fr f (fun a j z y => by have z : ab_k a = 17 := z; rw [y] at z; exact absurd z (by decide)) (fun _ _ => rfl) (fun _ _ => rfl)
theorem Rl.fK {h h1 : hp_T} {p : Nat} {S : st_T} (hp : p ≤ 61) (R : Rl h p S) (f : fr PK h h1) : Rl h1 p S := ⟨R.i.fK hp f, fun j hj => by rw [f.2 _ _ (fun z => by have := k17 z; omega)]; exact R.t j hj, RX_fK R.x f⟩
theorem w_payAll_L {S : st_T} {p : Nat} {D : Int} (hp : p ≤ 61) (hV : Vl D S) {Q : Int32 → hp_T → Prop} : ∀ (r i nn : Nat) (a : Int32) (h : hp_T), i + r = cr S → r < nn → Rl h p S → (∀ h1, fr PK h h1 → Q (lp (fun b a => a + py S b) i r a) h1) → wp_X2_payOfAll_L4 p Q nn a (nI i) h := by
  have C := cr_nI hV.1
  intro r
  induction r with
  | zero =>
    intro i nn a h hi hn R hq
    obtain ⟨nn, rfl⟩ : ∃ m, nn = m + 1 := ⟨nn - 1, by omega⟩
    unfold wp_X2_payOfAll_L4
    rw [R.i.crew, C.1]
    exact ⟨fun _ => hq h fr.refl, fun z => absurd (nI_le (by omega) (by omega)) z⟩
  | succ r ih =>
    intro i nn a h hi hn R hq
    obtain ⟨nn, rfl⟩ : ∃ m, nn = m + 1 := ⟨nn - 1, by omega⟩
    unfold wp_X2_payOfAll_L4
    obtain ⟨v1, v2, v3⟩ := vp_nI hV.1 (show i < cr S by omega)
    rw [R.i.crew, C.1, v2, show nI i + 1 = nI (i + 1) from nI_1 i]
    refine ⟨fun z => absurd z (nI_ge (by omega) (by omega)), fun _ => ⟨v1, ?_⟩⟩
    refine w_pay R.i R.x (by omega) v3 (hV.2.2.2.2.2.2.2.1 i (by omega)) (hV.2.2.2.2.2.2.2.2.2.2.2 1 (by decide)) ?_
    intro h1 f1
    refine ih (i + 1) nn _ h1 (by omega) (by omega) (R.fK hp f1) ?_
    intro h2 f2
    exact hq h2 (f1.trans f2)
theorem lp_add {f : Nat → Int32} : ∀ (n i : Nat) (a : Int32), lp (fun b a => a + f b) i n a = a + lp (fun b a => a + f b) i n 0 := by
  intro n
  induction n with
  | zero => intro i a; show a = a + 0; simp
  | succ n ih =>
    intro i a
    show lp (fun b a => a + f b) (i + 1) n (a + f i) = a + lp (fun b a => a + f b) (i + 1) n (0 + f i)
    rw [ih (i + 1) (a + f i), ih (i + 1) (0 + f i), Int32.zero_add, Int32.add_assoc]
def pays (S : st_T) : Int32 := lp (fun b a => a + py S b) 0 (cr S) 0
noncomputable def wgF (_ : Nat) (x : st_T × Int32) : st_T × Int32 := ((dy false x.1).1, x.2 + pays (dy false x.1).1)
theorem w_wages_L {n : Nat} (hn : n ≤ 1000) {Q : Int32 → hp_T → Prop} : ∀ (r i nn : Nat) (D : Int) (x : st_T × Int32) (h : hp_T), i + r = n → r < nn → D + r ≤ 100000 → Vl D x.1 → Rl h 61 x.1 → (∀ h1, fr PTK h h1 → Q (lp wgF i r x).2 h1) → wp_X7_wages_L25 (nI n) Q nn x.2 (nI i) h := by
  intro r
  induction r with
  | zero =>
    intro i nn D x h hi hnn hD hV R hq
    obtain ⟨nn, rfl⟩ : ∃ m, nn = m + 1 := ⟨nn - 1, by omega⟩
    unfold wp_X7_wages_L25
    exact ⟨fun _ => hq h fr.refl, fun z => absurd (nI_le (by omega) (by omega)) z⟩
  | succ r ih =>
    intro i nn D x h hi hnn hD hV R hq
    obtain ⟨nn, rfl⟩ : ∃ m, nn = m + 1 := ⟨nn - 1, by omega⟩
    unfold wp_X7_wages_L25
    refine ⟨fun z => absurd z (nI_ge (by omega) (by omega)), fun _ => ?_⟩
    refine w_passDay (by decide) hV R ?_
    intro h1 f1 R1
    have V1 := Vl_dy false hV (by omega)
    refine ⟨cr (dy false x.1).1 + 1, w_payAll_L (by decide) V1 (cr (dy false x.1).1) 0 (cr (dy false x.1).1 + 1) 0 h1 (by omega) (by omega) R1 ?_⟩
    intro h2 f2
    have f12 : fr PTK h h2 := (f1.mono fun a j z => PS_PTK (cr6 hV.1) z).trans (f2.mono fun a j z => Or.inr z)
    rw [show nI i + 1 = nI (i + 1) from nI_1 i]
    refine ih (i + 1) nn (D + 1) (wgF i x) h2 (by omega) (by omega) (by omega) V1 (R1.fK (by decide) f2) ?_
    intro h3 f3
    exact hq h3 (f12.trans f3)
theorem m_payAll_L {S : st_T} {D : Int} {x1 y3 : Int32} {Q : Int32 → hp_T → Prop} {L : Int32 → Int32 → hp_T → Prop} (hV : Vl D S) : ∀ (r i nn : Nat) (a : Int32) (h : hp_T), i + r = cr S → r < nn → hp_i h 106 = S → (∀ h1, fr P110 h h1 → L (lp (fun b a => a + py S b) i r a) (y3 + 1) h1) → wp_X8_wages_L35 x1 Q L nn a y3 (nI i) h := by
  have C := cr_nI hV.1
  intro r
  induction r with
  | zero =>
    intro i nn a h hi hn hS hq
    obtain ⟨nn, rfl⟩ : ∃ m, nn = m + 1 := ⟨nn - 1, by omega⟩
    unfold wp_X8_wages_L35
    rw [hS, C.1]
    exact ⟨fun _ => hq h fr.refl, fun z => absurd (nI_le (by omega) (by omega)) z⟩
  | succ r ih =>
    intro i nn a h hi hn hS hq
    obtain ⟨nn, rfl⟩ : ∃ m, nn = m + 1 := ⟨nn - 1, by omega⟩
    unfold wp_X8_wages_L35
    obtain ⟨v1, v2, v3⟩ := vp_nI hV.1 (show i < cr S by omega)
    rw [hS, C.1, show nI i + 1 = nI (i + 1) from nI_1 i]
    refine ⟨fun z => absurd z (nI_ge (by omega) (by omega)), fun _ => ?_⟩
    refine m_wagesOf v1 hS (by rw [v2]; exact (hV.2.2.2.2.2.2.2.1 i (by omega)).2.2.1) (hV.2.2.2.2.2.2.2.2.2.2.2 1 (by decide)) ?_
    intro h1 f1
    rw [v2]
    refine ih (i + 1) nn _ h1 (by omega) (by omega) (by rw [fr110_row f1]; exact hS) ?_
    intro h2 f2
    exact hq h2 (f1.trans f2)
theorem m_wages_L {n : Nat} {S : st_T} (hn : n ≤ 1000) (hzS : ∀ j, 357 ≤ j → S j = 0) {Q : Int32 → hp_T → Prop} : ∀ (r i nn : Nat) (D : Int) (x : st_T × Int32) (h : hp_T), i + r = n → r < nn → D + r ≤ 100000 → Vl D x.1 → hp_i h 106 = x.1 → hp_i h 108 = S → (∀ j, 357 ≤ j → x.1 j = 0) → (∀ h1, fr PMa h h1 → hp_i h1 106 = S → hp_i h1 108 = S → Q (lp wgF i r x).2 h1) → wp_X8_wages_L22 (nI n) Q nn x.2 (nI i) h := by
  intro r
  induction r with
  | zero =>
    intro i nn D x h hi hnn hD hV hT h8 hz hq
    obtain ⟨nn, rfl⟩ : ∃ m, nn = m + 1 := ⟨nn - 1, by omega⟩
    unfold wp_X8_wages_L22
    exact ⟨fun _ => m_back h8 (fun j hj => ⟨hzS j hj, by rw [hT]; exact hz j hj⟩) hq, fun z => absurd (nI_le (by omega) (by omega)) z⟩
  | succ r ih =>
    intro i nn D x h hi hnn hD hV hT h8 hz hq
    obtain ⟨nn, rfl⟩ : ∃ m, nn = m + 1 := ⟨nn - 1, by omega⟩
    unfold wp_X8_wages_L22
    refine ⟨fun z => absurd z (nI_ge (by omega) (by omega)), fun _ => ?_⟩
    refine m_day (dr := false) (by simp) hV hT ?_
    intro h1 f1 e1 _ _
    have V1 := Vl_dy false hV (by omega)
    refine ⟨cr (dy false x.1).1 + 1, m_payAll_L V1 (cr (dy false x.1).1) 0 (cr (dy false x.1).1 + 1) x.2 h1 (by omega) (by omega) e1 ?_⟩
    intro h2 f2
    have f12 : fr PMa h h2 := (f1.mono fun a j z => PD_Ma z).trans (f2.mono fun a j z => Or.inr (Or.inr (Or.inl z)))
    have e2 : hp_i h2 108 = S := by rw [f2.row (fun j z => by have z : (108 : Nat) = 110 := z; omega), f1.row (fun j z => by have z : PD 108 j := z; omega)]; exact h8
    rw [show nI i + 1 = nI (i + 1) from nI_1 i, lp_add]
    refine ih (i + 1) nn (D + 1) (wgF i x) h2 (by omega) (by omega) (by omega) V1 (by rw [fr110_row f2]; exact e1) e2 (dy_z hV hz) ?_
    intro h3 f3 a b
    exact hq h3 (f12.trans f3) a b
theorem c_wages {x : Int32} {h : hp_T} (I : Inv h) : wp_X7_wages x h (fun r1 h1 => wp_X8_wages x h1 (fun r2 h2 => r1 = r2 ∧ Inv h2)) := by
  have V := I.V
  have hw := I.n
  unfold wp_X7_wages
  simp only [w_within, bi_0, er1]
  refine ⟨fun z => ?_, fun z => ?_⟩
  · unfold wp_X8_wages
    simp only [x_isSpan, bi_0]
    exact ⟨fun _ => f1 I, fun w => absurd z w⟩
  obtain ⟨n, n1, n90, rfl⟩ := span_of (a := 1) (b := 90) (Classical.not_not.mp z) rfl rfl
  refine w_goAhead (n := 0) (by omega) hw V I.R ?_
  intro h1 m1 e1 R1
  refine ⟨n + 1, w_wages_L (by omega) n 0 (n + 1) 9999 (hp_i h 106, 0) h1 (by omega) (by omega) (by omega) V R1 ?_⟩
  intro h2 f2
  have e2 : ex PTK RTK h h2 := e1.trans f2.ex
  unfold wp_X8_wages
  simp only [x_isSpan, bi_0]
  refine ⟨fun w => absurd w z, fun _ => ?_⟩
  refine m_keep (S := hp_i h 106) (e2.row (by omega) (fun j => PTK_row (by decide) (by decide))) (fun j hj => ⟨(I.zr j hj).1, by rw [e2.row (by omega) (fun j => PTK_row (by decide) (by decide))]; exact (I.zr j hj).2.2⟩) ?_
  intro h3 f3 e36 e38
  refine ⟨n + 1, m_wages_L (by omega) (fun j hj => (I.zr j hj).1) n 0 (n + 1) 9999 (hp_i h 106, 0) h3 (by omega) (by omega) (by omega) V e36 e38 (fun j hj => (I.zr j hj).1) ?_⟩
  intro h4 f4 a b
  exact ⟨rfl, Inv_ah0 I (by rw [f2.n, m1]) e2 (f3.trans f4) a b⟩
