/-! ===== PURE: the calls: teachers ===== -/
def tcF (k s : Int32) (b : Nat) (S : st_T) : st_T := ss S (11 + 17 * b + 4) (if kb s (nI b) = true then k else -1)
def tc (k s : Int32) (S : st_T) : st_T := lp (tcF k s) 0 (cr S) S
theorem Vl_tcF {D : Int} {S : st_T} {k : Nat} {s : Int32} {b : Nat} (hV : Vl D S) (hk : k < 6) (hb : b < 6) : Vl D (tcF (nI k) s b S) := by
  unfold tcF
  refine Vl_bunks hV (fun i hi _ _ => ss_n (by omega)) (fun c hc => VB_bk (hV.2.2.2.2.2.2.2.1 c hc) (by decide) (by omega) (by omega) (by omega) (fun _ => ?_))
  split
  · unfold rg
    rw [i_nI (by omega)]
    omega
  · exact ⟨by decide, by decide⟩
theorem cr_tcF {k s : Int32} {b : Nat} {S : st_T} : cr (tcF k s b S) = cr S := cr_eq (ss_n (by omega))
theorem tcF_o {k s : Int32} {b j : Nat} {S : st_T} (h : j < 11 ∨ 113 ≤ j) (hb : b < 6) : tcF k s b S j = S j := ss_n (by omega)
theorem tc_all {D : Int} {c k : Nat} {s : Int32} (hk : k < 6) : ∀ (r i : Nat) (S : st_T), i + r = c → c ≤ 6 → Vl D S → Vl D (lp (tcF (nI k) s) i r S) ∧ ∀ j, (j < 11 ∨ 113 ≤ j) → lp (tcF (nI k) s) i r S j = S j := by
  intro r
  induction r with
  | zero => intro i S _ _ hV; exact ⟨hV, fun _ _ => rfl⟩
  | succ r ih =>
    intro i S hi hc hV
    obtain ⟨a, b⟩ := ih (i + 1) (tcF (nI k) s i S) (by omega) hc (Vl_tcF hV hk (by omega))
    exact ⟨a, fun j hj => (b j hj).trans (tcF_o hj (by omega))⟩
theorem w_teachOnly_L {c p : Nat} {k s : Int32} {Q : hp_T → Prop} (hc : c ≤ 6) : ∀ (r i nn : Nat) (S : st_T) (h : hp_T), i + r = c → r < nn → rg (S 0) 0 6 → cr S = c → RI h p S → (∀ h1, fr (fun a j => p + 8 ≤ a ∧ a < p + 8 + 3 * c ∧ j = 4) h h1 → RI h1 p (lp (tcF k s) i r S) → Q h1) → wp_X2_teachOnly_L2 p k s Q nn (nI i) h := by
  intro r
  induction r with
  | zero =>
    intro i nn S h hi hnn h0 hcr R hq
    obtain ⟨nn, rfl⟩ : ∃ m, nn = m + 1 := ⟨nn - 1, by omega⟩
    unfold wp_X2_teachOnly_L2
    rw [R.crew, (cr_nI h0).1]
    exact ⟨fun _ => hq h fr.refl R, fun z => absurd (nI_le (by omega) (by omega)) z⟩
  | succ r ih =>
    intro i nn S h hi hnn h0 hcr R hq
    obtain ⟨nn, rfl⟩ : ∃ m, nn = m + 1 := ⟨nn - 1, by omega⟩
    unfold wp_X2_teachOnly_L2
    rw [R.crew, (cr_nI h0).1, nI_clamp (n := i) (by omega), kb_0, show nI i + 1 = nI (i + 1) from nI_1 i]
    have go : ∀ v, v = (if kb s (nI i) = true then k else -1) → wp_X2_teachOnly_L2 p k s Q nn (nI (i + 1)) (hp_si h (p + 8 + 3 * i) 4 v) := by
      intro v hv'
      have R1 : RI (hp_si h (p + 8 + 3 * i) 4 v) p (tcF k s i S) := by
        unfold tcF
        rw [← hv']
        exact R.wbk 4 (by omega) (by decide)
      refine ih (i + 1) nn (tcF k s i S) _ (by omega) (by omega) ?_ (by rw [cr_tcF]; exact hcr) R1 ?_
      · rw [tcF_o (by omega) (by omega)]; exact h0
      · intro h1 f1 R2
        exact hq h1 ((fr_si ⟨by omega, by omega, rfl⟩).trans f1) R2
    refine ⟨fun z => absurd z (nI_ge (by omega) (by omega)), fun _ => ⟨vp_in_nI (by omega) (by decide), fun z => ?_, fun z => ?_⟩⟩
    · rintro h1 rfl
      exact go _ (by rw [z, if_neg (by decide)])
    · rintro h1 rfl
      exact go _ (by rw [if_pos (by simpa using z)])
/-- is it known behind each of r days -/
noncomputable def kpt (k : Int32) : Nat → st_T → Bool
  | 0 => fun _ => true
  | r + 1 => fun T => if kns (dy false T).1 k = 0 then false else kpt k r (dy false T).1
theorem k5_of {k : Nat} (hk : k < 6) : (0 : Int32) ≤ nI k ∧ nI k ≤ 5 := by
  rw [i_le, i_le, i_nI (by omega)]
  have e0 : (0 : Int32).toInt = 0 := rfl
  have e5 : (5 : Int32).toInt = 5 := rfl
  omega
theorem w_stays_L {n k : Nat} {x3 : Int32} (hn : n ≤ 1000) (hk : k < 6) {Q : Int32 → hp_T → Prop} : ∀ (r i nn : Nat) (D : Int) (T : st_T) (h : hp_T), i + r = n → r < nn → D + r ≤ 100000 → Vl D T → Rl h 61 T → (∀ h1, fr PTK h h1 → Q (if kpt (nI k) r T = true then 1 else 0) h1) → wp_X7_staysKnown_L23 (nI k) (nI n) x3 Q nn (nI i) h := by
  intro r
  induction r with
  | zero =>
    intro i nn D T h hi hnn hD hV R hq
    obtain ⟨nn, rfl⟩ : ∃ m, nn = m + 1 := ⟨nn - 1, by omega⟩
    unfold wp_X7_staysKnown_L23
    exact ⟨fun _ => hq h fr.refl, fun z => absurd (nI_le (by omega) (by omega)) z⟩
  | succ r ih =>
    intro i nn D T h hi hnn hD hV R hq
    obtain ⟨nn, rfl⟩ : ∃ m, nn = m + 1 := ⟨nn - 1, by omega⟩
    unfold wp_X7_staysKnown_L23
    refine ⟨fun z => absurd z (nI_ge (by omega) (by omega)), fun _ => ?_⟩
    refine w_passDay (by decide) hV R ?_
    intro h1 f1 R1
    have V1 := Vl_dy false hV (by omega)
    have f1' : fr PTK h h1 := f1.mono fun a j z => PS_PTK (cr6 hV.1) z
    refine w_knowers V1.1 (k5_of hk) R1.i ?_
    have e : kpt (nI k) (r + 1) T = if kns (dy false T).1 (nI k) = 0 then false else kpt (nI k) r (dy false T).1 := rfl
    rw [e] at hq
    rw [show nI i + 1 = nI (i + 1) from nI_1 i]
    refine ⟨fun z => ?_, fun z => ?_⟩
    · rw [if_pos z] at hq
      exact hq h1 f1'
    · rw [if_neg z] at hq
      exact ih (i + 1) nn (D + 1) (dy false T).1 h1 (by omega) (by omega) (by omega) V1 R1 (fun h2 f2 => hq h2 (f1'.trans f2))
noncomputable abbrev kpS (k : Int32) (n : Nat) (s : Int32) (S : st_T) : Bool := kpt k n (tc k s S)
theorem w_staysKnown {h : hp_T} {S : st_T} {n k : Nat} {s : Int32} {Q : Int32 → hp_T → Prop} (hn : n ≤ 1000) (hk : k < 6) (hw : 117 ≤ hp_n h) (hV : Vl 9999 S) (R : Rl h 1 S) (hQ : ∀ h1, hp_n h1 = hp_n h → ex PTK RTK h h1 → Q (if kpS (nI k) n s S = true then 1 else 0) h1) : wp_X7_staysKnown (nI k) (nI n) s h Q := by
  unfold wp_X7_staysKnown
  have c6 := cr6 hV.1
  refine w_copyT hw hV R ?_
  intro h1 n1 e1 R1
  refine ⟨cr S + 1, w_teachOnly_L c6 (cr S) 0 (cr S + 1) S h1 (by omega) (by omega) hV.1 rfl R1.i ?_⟩
  intro h2 f2 R2
  obtain ⟨V2, o2⟩ := tc_all (D := 9999) (s := s) hk (cr S) 0 S (Nat.zero_add _) c6 hV
  have f2' : fr (PS 61 (cr S)) h1 h2 := f2.mono fun a j z => Or.inl ⟨by omega, by omega, by omega⟩
  have R2' : Rl h2 61 (tc (nI k) s S) := Rl_of R1 (by decide) c6 f2' R2 (fun j hj => o2 j (by omega))
  refine ⟨n + 1, w_stays_L hn hk n 0 (n + 1) 9999 (tc (nI k) s S) h2 (by omega) (by omega) (by omega) V2 R2' ?_⟩
  intro h3 f3
  exact hQ h3 (by rw [f3.n, f2.n, n1]) (e1.trans ((f2'.mono fun a j z => PS_PTK c6 z).trans f3).ex)
theorem m_kept_L {n k : Nat} {S : st_T} {x3 : Int32} (hn : n ≤ 1000) (hk : k < 6) (hzS : ∀ j, 357 ≤ j → S j = 0) {Q : Int32 → hp_T → Prop} : ∀ (r i nn : Nat) (D : Int) (T : st_T) (h : hp_T), i + r = n → r + 1 < nn → D + r ≤ 100000 → Vl D T → hp_i h 106 = T → hp_i h 108 = S → (∀ j, 357 ≤ j → T j = 0) → (∀ h1, fr PMa h h1 → hp_i h1 106 = S → hp_i h1 108 = S → Q (if kpt (nI k) r T = true then 1 else 0) h1) → wp_X8_isKept_L51 (nI k) (nI n) x3 Q nn 1 (nI i) h := by
  intro r
  induction r with
  | zero =>
    intro i nn D T h hi hnn hD hV hT h8 hz hq
    obtain ⟨nn, rfl⟩ : ∃ m, nn = m + 1 := ⟨nn - 1, by omega⟩
    unfold wp_X8_isKept_L51
    exact ⟨fun _ => m_back h8 (fun j hj => ⟨hzS j hj, by rw [hT]; exact hz j hj⟩) (fun h1 f1 a b => ⟨Or.inr rfl, hq h1 f1 a b⟩), fun z => absurd (nI_le (by omega) (by omega)) z⟩
  | succ r ih =>
    intro i nn D T h hi hnn hD hV hT h8 hz hq
    obtain ⟨nn, rfl⟩ : ∃ m, nn = m + 1 := ⟨nn - 1, by omega⟩
    unfold wp_X8_isKept_L51
    refine ⟨fun z => absurd z (nI_ge (by omega) (by omega)), fun _ => ⟨fun z => absurd z (by decide), fun _ => ?_⟩⟩
    refine m_day (dr := false) (by simp) hV hT ?_
    intro h1 f1 e1 _ _
    have V1 := Vl_dy false hV (by omega)
    have f1' : fr PMa h h1 := f1.mono fun a j z => PD_Ma z
    have e18 : hp_i h1 108 = S := by rw [f1.row (fun j z => by have z : PD 108 j := z; omega)]; exact h8
    have z1 : ∀ j, 357 ≤ j → (dy false T).1 j = 0 := fun j hj => by rw [dy_out hV (by omega) (by omega)]; exact hz j hj
    refine m_knowers V1.1 e1 ?_
    have e : kpt (nI k) (r + 1) T = if kns (dy false T).1 (nI k) = 0 then false else kpt (nI k) r (dy false T).1 := rfl
    rw [e] at hq
    rw [show nI i + 1 = nI (i + 1) from nI_1 i]
    obtain ⟨c, hc, ek⟩ := kns_le (S := (dy false T).1) (k := nI k)
    have c6 := cr6 V1.1
    refine ⟨fun z => ?_, fun z => ?_⟩
    · have z0 : kns (dy false T).1 (nI k) = 0 := by
        rw [ek] at z ⊢
        have : c ≤ 0 := (nI_leI (b := 0) (by omega) (by decide)).mp z
        rw [show c = 0 by omega]; rfl
      rw [if_pos z0] at hq
      obtain ⟨nn, rfl⟩ : ∃ m, nn = m + 1 := ⟨nn - 1, by omega⟩
      unfold wp_X8_isKept_L51
      exact ⟨fun _ => m_back e18 (fun j hj => ⟨hzS j hj, by rw [e1]; exact z1 j hj⟩) (fun h2 f2 a b => ⟨Or.inl rfl, hq h2 (f1'.trans f2) a b⟩), fun _ => ⟨fun _ => m_back e18 (fun j hj => ⟨hzS j hj, by rw [e1]; exact z1 j hj⟩) (fun h2 f2 a b => ⟨Or.inl rfl, hq h2 (f1'.trans f2) a b⟩), fun w => absurd rfl w⟩⟩
    · have z0 : ¬ kns (dy false T).1 (nI k) = 0 := fun y => z (by rw [y]; decide)
      rw [if_neg z0] at hq
      exact ih (i + 1) nn (D + 1) (dy false T).1 h1 (by omega) (by omega) (by omega) V1 e1 e18 z1 (fun h2 f2 => hq h2 (f1'.trans f2))
theorem m_kept0_L {n k c : Nat} {S : st_T} {s : Int32} (hn : n ≤ 1000) (hk : k < 6) (hc : c ≤ 6) (hzS : ∀ j, 357 ≤ j → S j = 0) {Q : Int32 → hp_T → Prop} : ∀ (r i nn : Nat) (T : st_T) (h : hp_T), i + r = c → r < nn → Vl 9999 T → cr T = c → hp_i h 106 = T → hp_i h 108 = S → (∀ j, 357 ≤ j → T j = 0) → (∀ h1, fr PMa h h1 → hp_i h1 106 = S → hp_i h1 108 = S → Q (if kpt (nI k) n (lp (tcF (nI k) s) i r T) = true then 1 else 0) h1) → wp_X8_isKept_L3 (nI k) (nI n) s Q nn (nI i) h := by
  intro r
  induction r with
  | zero =>
    intro i nn T h hi hnn hV hcr hT h8 hz hq
    obtain ⟨nn, rfl⟩ : ∃ m, nn = m + 1 := ⟨nn - 1, by omega⟩
    unfold wp_X8_isKept_L3
    rw [hT, (cr_nI hV.1).1]
    exact ⟨fun _ => ⟨n + 2, m_kept_L hn hk hzS n 0 (n + 2) 9999 T h (by omega) (by omega) (by omega) hV hT h8 hz hq⟩, fun z => absurd (nI_le (by omega) (by omega)) z⟩
  | succ r ih =>
    intro i nn T h hi hnn hV hcr hT h8 hz hq
    obtain ⟨nn, rfl⟩ : ∃ m, nn = m + 1 := ⟨nn - 1, by omega⟩
    unfold wp_X8_isKept_L3
    obtain ⟨ia, ib⟩ := ix_at (b := nI i) (w := 4) (n := 4) (vp_in_nI (by omega) (by decide)) rfl (by decide)
    rw [nI_clamp (n := i) (by omega)] at ib
    unfold wp_X8_at
    simp only [x_has, bi_0]
    rw [hT, (cr_nI hV.1).1, ib, show nI i + 1 = nI (i + 1) from nI_1 i]
    have go : ∀ v, v = (if kb s (nI i) = true then nI k else -1) → wp_X8_isKept_L3 (nI k) (nI n) s Q nn (nI (i + 1)) (hp_si h 106 (11 + 17 * i + 4) v) := by
      intro v hv'
      refine ih (i + 1) nn (tcF (nI k) s i T) _ (by omega) (by omega) (Vl_tcF hV hk (by omega)) (by rw [cr_tcF]; exact hcr) (by rw [si_row, hT, hv']; rfl) (by rw [si_row_ne (by decide)]; exact h8) (fun j hj => by rw [tcF_o (by omega) (by omega)]; exact hz j hj) ?_
      intro h1 f1 a b
      exact hq h1 ((fr_si (P := PMa) (Or.inl rfl)).trans f1) a b
    refine ⟨fun z => absurd z (nI_ge (by omega) (by omega)), fun _ => ⟨fun z => ⟨ia, ?_⟩, fun z => ⟨ia, ?_⟩⟩⟩
    · rintro h1 rfl
      exact go _ (by rw [if_neg z])
    · rintro h1 rfl
      exact go _ (by rw [if_pos (Classical.not_not.mp z)])
theorem m_isKept {h : hp_T} {S : st_T} {n k : Nat} {s : Int32} {Q : Int32 → hp_T → Prop} (hn : n ≤ 1000) (hk : k < 6) (hV : Vl 9999 S) (hS : hp_i h 106 = S) (h8 : hp_i h 108 = S) (hzS : ∀ j, 357 ≤ j → S j = 0) (hQ : ∀ h1, fr PMa h h1 → hp_i h1 106 = S → hp_i h1 108 = S → Q (if kpS (nI k) n s S = true then 1 else 0) h1) : wp_X8_isKept (nI k) (nI n) s h Q :=
  ⟨cr S + 1, m_kept0_L hn hk (cr6 hV.1) hzS (cr S) 0 (cr S + 1) S h (by omega) (by omega) hV rfl hS h8 hzS hQ⟩
/-- the best set so far -/
noncomputable def tbF (k : Int32) (n : Nat) (S : st_T) (i : Nat) (best : Int32) : Int32 := if best < 0 ∨ ¬ bc best ≤ bc (nI i) then (if kpS k n (nI i) S = true then nI i else best) else best
def okb (x : Int32) : Prop := x = -1 ∨ ∃ j, j < 64 ∧ x = nI j
theorem okb_tb {k : Int32} {n i : Nat} {S : st_T} {best : Int32} (hb : okb best) (hi : i < 64) : okb (tbF k n S i best) := by
  unfold tbF
  split
  · split
    · exact Or.inr ⟨i, hi, rfl⟩
    · exact hb
  · exact hb
theorem okb_rg {x : Int32} (h : okb x) (h0 : ¬ x < 0) : rg x 0 63 := by
  rcases h with rfl | ⟨j, hj, rfl⟩
  · exact absurd (by decide) h0
  · unfold rg
    rw [i_nI (by omega)]
    omega
theorem rg_63 {i : Nat} (h : i < 64) : rg (nI i) 0 63 := by
  unfold rg
  rw [i_nI (by omega)]
  omega
theorem sh_all : ((List.range 7).all fun c => ((1 : Int32) <<< (nI c &&& 31)) == nI (2 ^ c)) = true := by decide +kernel
theorem sh_1 {c : Nat} (hc : c ≤ 6) : (1 : Int32) <<< (nI c &&& 31) = nI (2 ^ c) ∧ 2 ^ c ≤ 64 := by
  refine ⟨?_, Nat.pow_le_pow_right (n := 2) (by decide) hc⟩
  have := List.all_eq_true.mp sh_all c (List.mem_range.mpr (by omega))
  simpa using this
theorem Rl_PTK {h h1 : hp_T} (I : Inv h) (e : ex PTK RTK h h1) : Rl h1 1 (hp_i h 106) := I.R.ex (by decide) I.n e (fun a j z => by
    rcases z with z | z
    · omega
    · have := k17 z; omega) (fun a j z w => by
    rcases z with z | z
    · have := k16 w; omega
    · rw [w] at z; exact absurd z (by decide)) (fun a j z => by
    have z : a = 67 := z
    subst z
    exact ⟨by decide, by decide⟩)
theorem w_teach_L {h : hp_T} (I : Inv h) {k n M : Nat} {x3 : Int32} {Q : Int32 → hp_T → Prop} (hk : k < 6) (hn : n ≤ 1000) (hM : M ≤ 64) (eM : (1 : Int32) <<< (hp_i h 106 0 &&& 31) = nI M) : ∀ (r i nn : Nat) (best : Int32) (h' : hp_T), i + r = M → r < nn → okb best → hp_n h' = hp_n h → ex PTK RTK h h' → (∀ h1 y, y = lp (tbF (nI k) n (hp_i h 106)) i r best → okb y → hp_n h1 = hp_n h → ex PTK RTK h h1 → ((0 ≤ y → ((x3 = 0 → wp_J6_bitCount_0f7a4 y h1 (fun v => Q v h1)) ∧ (¬ x3 = 0 → Q y h1))) ∧ (¬ 0 ≤ y → wp_X7_error 2 h1 Q))) → wp_X7_teachers_L38 (nI k) (nI n) x3 Q nn best (nI i) h' := by
  have hw := I.n
  intro r
  induction r with
  | zero =>
    intro i nn best h' hi hnn hb n1 e1 hq
    obtain ⟨nn, rfl⟩ : ∃ m, nn = m + 1 := ⟨nn - 1, by omega⟩
    unfold wp_X7_teachers_L38
    rw [(Rl_PTK I e1).i.crew, eM]
    exact ⟨fun _ => hq h' best rfl hb n1 e1, fun z => absurd (nI_le (by omega) (by omega)) z⟩
  | succ r ih =>
    intro i nn best h' hi hnn hb n1 e1 hq
    obtain ⟨nn, rfl⟩ : ∃ m, nn = m + 1 := ⟨nn - 1, by omega⟩
    unfold wp_X7_teachers_L38
    rw [(Rl_PTK I e1).i.crew, eM, show nI i + 1 = nI (i + 1) from nI_1 i]
    have next : ∀ y h1, y = tbF (nI k) n (hp_i h 106) i best → hp_n h1 = hp_n h → ex PTK RTK h h1 → wp_X7_teachers_L38 (nI k) (nI n) x3 Q nn y (nI (i + 1)) h1 := by
      intro y h1 hy n2 e2
      subst hy
      exact ih (i + 1) nn _ h1 (by omega) (by omega) (okb_tb hb (by omega)) n2 e2 (fun h2 y a => hq h2 y a)
    have st : (best < 0 ∨ ¬ bc best ≤ bc (nI i)) → wp_X7_staysKnown (nI k) (nI n) (nI i) h' (fun v h1 => (v = 0 → wp_X7_teachers_L38 (nI k) (nI n) x3 Q nn best (nI (i + 1)) h1) ∧ (¬ v = 0 → wp_X7_teachers_L38 (nI k) (nI n) x3 Q nn (nI i) (nI (i + 1)) h1)) := by
      intro g
      refine w_staysKnown hn hk (by omega) I.V (Rl_PTK I e1) ?_
      intro h1 n2 e2
      have t : tbF (nI k) n (hp_i h 106) i best = if kpS (nI k) n (nI i) (hp_i h 106) = true then nI i else best := by unfold tbF; rw [if_pos g]
      by_cases gk : kpS (nI k) n (nI i) (hp_i h 106) = true
      · rw [if_pos gk] at t ⊢
        exact br_n (by decide) (next _ h1 t.symm (by rw [n2, n1]) (e1.trans e2))
      · rw [if_neg gk] at t ⊢
        exact br_y rfl (next _ h1 t.symm (by rw [n2, n1]) (e1.trans e2))
    refine ⟨fun z => absurd z (nI_ge (by omega) (by omega)), fun _ => ⟨fun z => st (Or.inl z), fun z => ?_⟩⟩
    rw [w_bits (rg_63 (by omega)), w_bits (okb_rg hb z)]
    refine ⟨fun z2 => next _ h' ?_ n1 e1, fun z2 => st (Or.inr z2)⟩
    unfold tbF
    rw [if_neg (fun w => by rcases w with w | w; exact z w; exact w z2)]
theorem m_teach_L {S : st_T} {k n M : Nat} {x3 : Int32} {Q : Int32 → hp_T → Prop} (hV : Vl 9999 S) (hzS : ∀ j, 357 ≤ j → S j = 0) (hk : k < 6) (hn : n ≤ 1000) (hM : M ≤ 64) (eM : (1 : Int32) <<< (S 0 &&& 31) = nI M) : ∀ (r i nn : Nat) (best : Int32) (h : hp_T), i + r = M → r < nn → okb best → hp_i h 106 = S → hp_i h 108 = S → (∀ h1 y, y = lp (tbF (nI k) n S) i r best → okb y → fr PMa h h1 → hp_i h1 106 = S → hp_i h1 108 = S → ((0 ≤ y → ((x3 = 0 → wp_X8_ones y h1 (fun v => Q v h1)) ∧ (¬ x3 = 0 → Q y h1))) ∧ (¬ 0 ≤ y → wp_X8_errs (-1000000002) h1 Q))) → wp_X8_teachers_L46 (nI k) (nI n) x3 Q nn best (nI i) h := by
  intro r
  induction r with
  | zero =>
    intro i nn best h hi hnn hb hS h8 hq
    obtain ⟨nn, rfl⟩ : ∃ m, nn = m + 1 := ⟨nn - 1, by omega⟩
    unfold wp_X8_teachers_L46
    rw [hS, eM]
    exact ⟨fun _ => hq h best rfl hb fr.refl hS h8, fun z => absurd (nI_le (by omega) (by omega)) z⟩
  | succ r ih =>
    intro i nn best h hi hnn hb hS h8 hq
    obtain ⟨nn, rfl⟩ : ∃ m, nn = m + 1 := ⟨nn - 1, by omega⟩
    unfold wp_X8_teachers_L46
    rw [hS, eM, show nI i + 1 = nI (i + 1) from nI_1 i]
    have next : ∀ y h1, y = tbF (nI k) n S i best → fr PMa h h1 → hp_i h1 106 = S → hp_i h1 108 = S → wp_X8_teachers_L46 (nI k) (nI n) x3 Q nn y (nI (i + 1)) h1 := by
      intro y h1 hy f1 a b
      subst hy
      exact ih (i + 1) nn _ h1 (by omega) (by omega) (okb_tb hb (by omega)) a b (fun h2 y e o f2 => hq h2 y e o (f1.trans f2))
    have st : (best < 0 ∨ ¬ bc best ≤ bc (nI i)) → wp_X8_isKept (nI k) (nI n) (nI i) h (fun v h1 => (v = 0 → wp_X8_teachers_L46 (nI k) (nI n) x3 Q nn best (nI (i + 1)) h1) ∧ (¬ v = 0 → wp_X8_teachers_L46 (nI k) (nI n) x3 Q nn (nI i) (nI (i + 1)) h1)) := by
      intro g
      refine m_isKept hn hk hV hS h8 hzS ?_
      intro h1 f1 a b
      have t : tbF (nI k) n S i best = if kpS (nI k) n (nI i) S = true then nI i else best := by unfold tbF; rw [if_pos g]
      by_cases gk : kpS (nI k) n (nI i) S = true
      · rw [if_pos gk] at t ⊢
        exact br_n (by decide) (next _ h1 t.symm f1 a b)
      · rw [if_neg gk] at t ⊢
        exact br_y rfl (next _ h1 t.symm f1 a b)
    refine ⟨fun z => absurd z (nI_ge (by omega) (by omega)), fun _ => ⟨fun z => st (Or.inl z), fun z => ?_⟩⟩
    refine m_ones (rg_63 (by omega)) (m_ones (okb_rg hb z) ⟨fun z2 => next _ h ?_ fr.refl hS h8, fun z2 => st (Or.inr z2)⟩)
    unfold tbF
    rw [if_neg (fun w => by rcases w with w | w; exact z w; exact w z2)]
theorem in_1_30 {x : Int32} {h : hp_T} {Q : Int32 → Prop} : wp_X8_in x.toInt64 (1 : Int64) (30 : Int64) h Q = Q (bi (1 ≤ x ∧ x ≤ 30)) := w_in32 (lo := 1) (hi := 30)
theorem c_teachers {x y w : Int32} {h : hp_T} (I : Inv h) : wp_X7_teachers x y w h (fun r1 h1 => wp_X8_teachers x y w h1 (fun r2 h2 => r1 = r2 ∧ Inv h2)) := by
  have V := I.V
  have hw := I.n
  unfold wp_X7_teachers
  simp only [w_isKnack, w_within, bi_0, er1]
  have bad : ∀ h', ¬ ((0 ≤ x ∧ x ≤ 5) ∧ (1 ≤ y ∧ y ≤ 30) ∧ 0 ≤ w ∧ w ≤ 1) → wp_X8_errs (-1000000001) h' (fun r2 h2 => (-1000000001 : Int32) = r2 ∧ Inv h2) → wp_X8_teachers x y w h' (fun r2 h2 => (-1000000001 : Int32) = r2 ∧ Inv h2) := by
    intro h' z f
    unfold wp_X8_teachers
    simp only [x_isKnack, in_1_30, in_0_1, bi_0]
    exact ⟨fun _ => f, fun w1 => ⟨fun _ => f, fun w2 => ⟨fun _ => f, fun w3 => absurd ⟨Classical.not_not.mp w1, Classical.not_not.mp w2, Classical.not_not.mp w3⟩ z⟩⟩⟩
  refine ⟨fun z => bad _ (fun q => z q.1) (f1 I), fun z => ⟨fun z2 => bad _ (fun q => z2 q.2.1) (f1 I), fun z2 => ⟨fun z3 => bad _ (fun q => z3 q.2.2) (f1 I), fun z3 => ?_⟩⟩⟩
  obtain ⟨k, k5, rfl⟩ := nat_of (n := 5) (Classical.not_not.mp z) rfl
  obtain ⟨n, n1, n30, rfl⟩ := span_of (a := 1) (b := 30) (Classical.not_not.mp z2) rfl rfl
  have C := cr_nI V.1
  obtain ⟨eM, hM⟩ := sh_1 C.2
  have eM : (1 : Int32) <<< (hp_i h 106 0 &&& 31) = nI (2 ^ cr (hp_i h 106)) := by
    conv => lhs; rw [C.1]
    exact eM
  have zS : ∀ j, 357 ≤ j → hp_i h 106 j = 0 := fun j hj => (I.zr j hj).1
  have o0 : okb (-1) := Or.inl rfl
  have ref : ∀ (h' : hp_T) (Q : Int32 → hp_T → Prop), hp_i h' 106 = hp_i h 106 → hp_i h' 108 = hp_i h 108 → (∀ h1 y, y = lp (tbF (nI k) n (hp_i h 106)) 0 (2 ^ cr (hp_i h 106)) (-1) → okb y → fr PMa h' h1 → hp_i h1 106 = hp_i h 106 → hp_i h1 108 = hp_i h 106 → ((0 ≤ y → ((w = 0 → wp_X8_ones y h1 (fun v => Q v h1)) ∧ (¬ w = 0 → Q y h1))) ∧ (¬ 0 ≤ y → wp_X8_errs (-1000000002) h1 Q))) → wp_X8_teachers (nI k) (nI n) w h' Q := by
    intro h' Q e6 e8 q
    unfold wp_X8_teachers
    simp only [x_isKnack, in_1_30, in_0_1, bi_0]
    refine ⟨fun y => absurd y z, fun _ => ⟨fun y => absurd y z2, fun _ => ⟨fun y => absurd y z3, fun _ => ?_⟩⟩⟩
    refine m_keep e6 (fun j hj => ⟨zS j hj, by rw [e8]; exact (I.zr j hj).2.2⟩) ?_
    intro h3 f3 e36 e38
    exact ⟨2 ^ cr (hp_i h 106) + 1, m_teach_L V zS (by omega) (by omega) hM eM (2 ^ cr (hp_i h 106)) 0 _ (-1) h3 (by omega) (by omega) o0 e36 e38 (fun h4 y a b f4 => q h4 y a b (f3.trans f4))⟩
  refine ⟨2 ^ cr (hp_i h 106) + 1, w_teach_L I (by omega) (by omega) hM eM (2 ^ cr (hp_i h 106)) 0 _ (-1) h (by omega) (by omega) o0 rfl ex.refl (fun h1 b hb ob m1 e1 => ?_)⟩
  have e6 : hp_i h1 106 = hp_i h 106 := e1.row (by omega) (fun j => PTK_row (by decide) (by decide))
  have e8 : hp_i h1 108 = hp_i h 108 := e1.row (by omega) (fun j => PTK_row (by decide) (by decide))
  have nb : ∀ b : Int32, 0 ≤ b → ¬ b < 0 := fun b g => Int32.not_lt.mpr g
  refine ⟨fun g => ⟨fun g2 => ?_, fun g2 => ?_⟩, fun g => ?_⟩
  · rw [w_bits (okb_rg ob (nb _ g))]
    refine ref h1 _ e6 e8 (fun h2 y hy oy f2 a c => ?_)
    rw [← hb] at hy
    subst hy
    exact br_y g (br_y g2 (m_ones (okb_rg ob (nb _ g)) ⟨rfl, Inv_ah0 I m1 e1 f2 a c⟩))
  · refine ref h1 _ e6 e8 (fun h2 y hy oy f2 a c => ?_)
    rw [← hb] at hy
    subst hy
    exact br_y g (br_n g2 ⟨rfl, Inv_ah0 I m1 e1 f2 a c⟩)
  · rw [er2]
    refine ref _ _ (by rw [er_row (by decide)]; exact e6) (by rw [er_row (by decide)]; exact e8) (fun h2 y hy oy f2 a c => ?_)
    rw [← hb] at hy
    subst hy
    exact br_n g (e_errs (k := 1) (by decide) rfl ⟨rfl, Inv_ahe (by decide) I m1 e1 f2 a c⟩)
