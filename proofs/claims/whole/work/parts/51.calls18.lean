/-! ===== PURE: the calls: rosters ===== -/
abbrev rsC (N : Nat → Int32) (n c : Nat) (S : st_T) : Prop := 2 * c + 1 < n ∧ ((0 ≤ N (2 * c) ∧ N (2 * c) ≤ 69) ∧ 0 ≤ N (2 * c + 1) ∧ N (2 * c + 1) ≤ 63) ∧ en S < 12
def rsF (N : Nat → Int32) (n : Nat) : Nat → Nat → st_T → st_T × Nat
  | c, 0, S => (S, c)
  | c, r + 1, S => if rsC N n c S then rsF N n (c + 1) r (enl S (N (2 * c)) (N (2 * c + 1))) else (S, c)
theorem rg_en {S : st_T} {km br : Int32} (h1 : rg (S 1) 0 12) (h12 : en S < 12) : rg (enl S km br 1) 0 12 := by
  rw [enl_1 h1]
  unfold rg
  rw [i_nI (by omega)]
  omega
theorem rsF_ok {N : Nat → Int32} {n : Nat} {D : Int} : ∀ (r c : Nat) (S : st_T), Vl D S → Vl D (rsF N n c r S).1 ∧ ∀ j, (j < 113 ∨ 137 ≤ j) → j ≠ 1 → (rsF N n c r S).1 j = S j := by
  intro r
  induction r with
  | zero => intro c S hV; exact ⟨hV, fun _ _ _ => rfl⟩
  | succ r ih =>
    intro c S hV
    unfold rsF
    by_cases g : rsC N n c S
    · rw [if_pos g]
      have a12 := en12 hV.2.1
      obtain ⟨i1, i2⟩ := ih (c + 1) (enl S (N (2 * c)) (N (2 * c + 1))) (Vl_enl hV g.2.2 (rg_of g.2.1.1 rfl rfl) (rg_of g.2.1.2 rfl rfl))
      exact ⟨i1, fun j h1 h2 => (i2 j h1 h2).trans (enl_o ⟨h2, by omega, by omega⟩)⟩
    · rw [if_neg g]
      exact ⟨hV, fun _ _ _ => rfl⟩
theorem w_rosters_L {N : Nat → Int32} {n t : Nat} {x1 : Int32} {Q : Int32 → hp_T → Prop} (ht : t < 4) (hn : n ≤ 24) : ∀ (r c nn : Nat) (S : st_T) (h : hp_T), n ≤ 2 * (c + r) + 1 → 2 * c ≤ n → r < nn → RI h 1 S → rg (S 1) 0 12 → hp_i h (97 + 2 * t) 1 = nI n → (∀ k, k < 24 → hp_i h (97 + 2 * t + 1) k = N k) → (∀ h1, fr Pen h h1 → RI h1 1 (rsF N n c r S).1 → Q (nI (rsF N n c r S).2) h1) → wp_X7_rosters_L38 x1 Q nn (97 + 2 * t) (nI c) (nI (2 * c)) h := by
  intro r
  induction r with
  | zero =>
    intro c nn S h hc hc2 hnn R h1V e2 hN hq
    obtain ⟨nn, rfl⟩ : ∃ m, nn = m + 1 := ⟨nn - 1, by omega⟩
    unfold wp_X7_rosters_L38
    rw [e2, show nI (2 * c) + 1 = nI (2 * c + 1) from nI_1 _]
    exact ⟨fun _ => hq h fr.refl R, fun z => absurd (nI_le (by omega) (by omega)) z⟩
  | succ r ih =>
    intro c nn S h hc hc2 hnn R h1V e2 hN hq
    obtain ⟨nn, rfl⟩ : ∃ m, nn = m + 1 := ⟨nn - 1, by omega⟩
    have a12 := en12 h1V
    have e4 : hp_i h 1 4 = nI (en S) := by rw [R.enl]; exact a12.1
    unfold rsF at hq
    have stop : ¬ rsC N n c S → Q (nI c) h := fun g => by
      rw [if_neg g] at hq
      exact hq h fr.refl R
    unfold wp_X7_rosters_L38
    simp only [w_mayEnlist, bi_0]
    rw [e2, show nI (2 * c) + 1 = nI (2 * c + 1) from nI_1 _, e4]
    refine ⟨fun z => stop (fun w => absurd z (nI_ge w.1 (by omega))), fun z => ?_⟩
    have lt : 2 * c + 1 < n := by
      rw [nI_leI (by omega) (by omega)] at z
      omega
    rw [nI_clamp (n := 2 * c) (by omega), nI_clamp (n := 2 * c + 1) (by omega), hN _ (by omega), hN _ (by omega)]
    refine ⟨vp_in_nI (by omega) (by decide), vp_in_nI (by omega) (by decide), fun z2 => stop (fun w => z2 w.2.1), fun z2 => ⟨fun z3 => ?_, fun z3 => stop (fun w => z3 ((nI_ltI (b := 12) (by omega) (by decide)).mpr w.2.2))⟩⟩
    have z2 := Classical.not_not.mp z2
    have h12 : en S < 12 := (nI_ltI (b := 12) (by omega) (by decide)).mp z3
    rw [if_pos (show rsC N n c S from ⟨lt, z2, h12⟩)] at hq
    refine w_enlist R h1V h12 ?_
    intro h1 fa R1
    rw [show nI c + 1 = nI (c + 1) from nI_1 c, show nI (2 * c) + 2 = nI (2 * (c + 1)) from nI_add (2 * c) 2]
    refine ih (c + 1) nn _ h1 (by omega) (by omega) (by omega) R1 (rg_en h1V h12) (by rw [fa.2 _ _ (by omega)]; exact e2) (fun k hk => by rw [fa.2 _ _ (by omega)]; exact hN k hk) ?_
    intro h2 fb R2
    exact hq h2 (fa.trans fb) R2
theorem x_rwrong {x y : Int32} {S : st_T} {h : hp_T} {Q : Int32 → Prop} (hS : hp_i h 106 = S) (h1V : rg (S 1) 0 12) (q0 : (((0 ≤ x ∧ x ≤ 69) ∧ 0 ≤ y ∧ y ≤ 63) ∧ en S < 12) → Q 0) (q1 : ¬ (((0 ≤ x ∧ x ≤ 69) ∧ 0 ≤ y ∧ y ≤ 63) ∧ en S < 12) → ∀ v, v ≠ 0 → Q v) : wp_X8_rosterWrong x y h Q := by
  have a12 := en12 h1V
  unfold wp_X8_rosterWrong
  simp only [x_isMan, x_isBits, bi_0]
  rw [hS, a12.1]
  have e12 : nI (en S) = 12 ↔ en S = 12 := nI_eq (b := 12) (by omega) (by decide)
  refine ⟨fun z => q1 (fun w => z w.1.1) _ (by decide), fun z => ⟨fun z2 => q1 (fun w => z2 w.1.2) _ (by decide), fun z2 => ⟨fun z3 => q1 (fun w => ?_) _ (by decide), fun z3 => q0 ⟨⟨Classical.not_not.mp z, Classical.not_not.mp z2⟩, ?_⟩⟩⟩⟩
  · rw [e12] at z3
    have := w.2
    omega
  · rw [e12] at z3
    omega
theorem ix_ro {t c : Nat} : (24 : Int32) * nI t + (2 : Int32) * nI c = nI (24 * t + 2 * c) := by rw [show (2 : Int32) * nI c = nI (2 * c) from pk_mul 2 c, ix_sh]
theorem m_rosters_L {N : Nat → Int32} {n t : Nat} {Q : Int32 → hp_T → Prop} (ht : t < 4) (hn : n ≤ 24) : ∀ (r c nn : Nat) (S : st_T) (h : hp_T), n ≤ 2 * (c + r) + 1 → 2 * c ≤ n → r < nn → hp_i h 106 = S → rg (S 1) 0 12 → hp_i h 114 t = nI n → (∀ k, k < 24 → hp_i h 115 (24 * t + k) = N k) → (∀ h1, fr P106 h h1 → hp_i h1 106 = (rsF N n c r S).1 → Q (nI (rsF N n c r S).2) h1) → wp_X8_rosters_L18 (nI t) Q nn (nI c) h := by
  intro r
  induction r with
  | zero =>
    intro c nn S h hc hc2 hnn hS h1V e2 hN hq
    obtain ⟨nn, rfl⟩ : ∃ m, nn = m + 1 := ⟨nn - 1, by omega⟩
    unfold wp_X8_rosters_L18
    rw [nI_clamp (n := t) (by omega), e2, show (2 : Int32) * nI c + 1 = nI (2 * c + 1) from by rw [show (2 : Int32) = nI 2 from rfl, pk_mul, nI_1]]
    exact ⟨vp_in_nI ht (by decide), fun _ => hq h fr.refl hS, fun z => absurd (nI_le (by omega) (by omega)) z⟩
  | succ r ih =>
    intro c nn S h hc hc2 hnn hS h1V e2 hN hq
    obtain ⟨nn, rfl⟩ : ∃ m, nn = m + 1 := ⟨nn - 1, by omega⟩
    unfold rsF at hq
    have stop : ¬ rsC N n c S → Q (nI c) h := fun g => by
      rw [if_neg g] at hq
      exact hq h fr.refl hS
    unfold wp_X8_rosters_L18
    rw [nI_clamp (n := t) (by omega), e2, show (2 : Int32) * nI c + 1 = nI (2 * c + 1) from by rw [show (2 : Int32) = nI 2 from rfl, pk_mul, nI_1], ix_ro, show nI (24 * t + 2 * c) + 1 = nI (24 * t + 2 * c + 1) from nI_1 _]
    refine ⟨vp_in_nI ht (by decide), fun z => stop (fun w => absurd z (nI_ge w.1 (by omega))), fun z => ?_⟩
    have lt : 2 * c + 1 < n := by
      rw [nI_leI (by omega) (by omega)] at z
      omega
    have v1 : vp_in (nI (24 * t + 2 * c)) 96 := vp_in_nI (by omega) (by decide)
    have v2 : vp_in (nI (24 * t + 2 * c + 1)) 96 := vp_in_nI (by omega) (by decide)
    rw [nI_clamp (n := 24 * t + 2 * c) (by omega), nI_clamp (n := 24 * t + 2 * c + 1) (by omega), hN (2 * c) (by omega), show hp_i h 115 (24 * t + 2 * c + 1) = N (2 * c + 1) from hN (2 * c + 1) (by omega)]
    refine ⟨v1, v2, x_rwrong hS h1V (fun z2 => ⟨fun _ => ⟨v1, v2, ?_⟩, fun w => absurd rfl w⟩) (fun z2 v hv => ⟨fun w => absurd w hv, fun _ => stop (fun w => z2 w.2)⟩)⟩
    rw [if_pos (show rsC N n c S from ⟨lt, z2⟩)] at hq
    refine m_rostered hS h1V z2.2 ?_
    intro h1 fa e1
    rw [show nI c + 1 = nI (c + 1) from nI_1 c]
    refine ih (c + 1) nn _ h1 (by omega) (by omega) (by omega) e1 (rg_en h1V z2.2) (by rw [fa.2 114 _ (by omega)]; exact e2) (fun k hk => by rw [fa.2 115 _ (by omega)]; exact hN k hk) ?_
    intro h2 fb e3
    exact hq h2 (fa.trans fb) e3
theorem c_rosters {x : Int32} {h : hp_T} (I : Inv h) : wp_X7_rosters x h (fun r1 h1 => wp_X8_rosters x h1 (fun r2 h2 => r1 = r2 ∧ Inv h2)) := by
  have V1 := I.V.2.1
  unfold wp_X7_rosters
  simp only [w_isSheet, bi_0, er1, er2]
  refine ⟨fun z => ?_, fun z => ?_⟩
  · unfold wp_X8_rosters
    rw [x_wrong_o z]
    exact ⟨fun w => absurd w (by decide), fun _ => f1 I⟩
  obtain ⟨t, ht, rfl⟩ := nat_of (n := 3) (Classical.not_not.mp z) rfl
  have t4 : t < 4 := by omega
  have vt : vp_in (nI t) 4 := vp_in_nI t4 (by decide)
  have ct : (nI t).toNatClampNeg = t := nI_clamp (by omega)
  obtain ⟨s1, s2, s3, s4⟩ := I.su t t4
  obtain ⟨n, hn, e2⟩ := rg_nI 24 s3 rfl (by decide)
  unfold wp_X1_isMissing
  rw [ct, s1]
  refine ⟨vt, fun e => ⟨fun w => absurd w (by decide), fun _ => ?_⟩, fun e => ⟨fun _ => ?_, fun w => absurd rfl w⟩⟩
  · unfold wp_X8_rosters
    rw [x_wrong_i t4, er_i (by decide), if_pos e]
    exact ⟨fun w => absurd w (by decide), fun _ => f2 I⟩
  refine ⟨13, w_rosters_L (N := fun k => hp_i h (97 + 2 * t + 1) k) t4 hn 12 0 13 _ h (by omega) (by omega) (by decide) I.R.i V1 (by rw [s2, e2]) (fun _ _ => rfl) ?_⟩
  intro h1 fa R1
  have e106 : hp_i h1 106 = hp_i h 106 := fa.row (fun j z => by omega)
  unfold wp_X8_rosters
  rw [x_wrong_i t4, fa.2 113 _ (by omega), if_neg e]
  refine ⟨fun _ => ⟨13, m_rosters_L (N := fun k => hp_i h (97 + 2 * t + 1) k) t4 hn 12 0 13 _ h1 (by omega) (by omega) (by decide) e106 V1 (by rw [fa.2 114 _ (by omega), e2]) (fun k hk => by rw [fa.2 115 _ (by omega)]; exact (s4 k hk).symm) ?_⟩, fun w => absurd rfl w⟩
  intro h2 fb eb
  obtain ⟨o1, o2⟩ := rsF_ok (N := fun k => hp_i h (97 + 2 * t + 1) k) (n := n) 12 0 _ I.V
  have f : fr Pw h h2 := (fa.mono fun a j z => by rcases z with ⟨rfl, -⟩ | rfl | rfl <;> exact Or.inl (by decide)).trans (fb.mono fun a j z => Or.inr z)
  refine ⟨rfl, Inv_w I f ?_ ?_ ?_ ?_⟩
  · rw [eb]; exact o1
  · rw [eb]; exact R1.fr fb (fun a j h1 h2 z => by have z : a = 106 := z; omega)
  · intro j hj
    rw [eb]
    exact o2 j (by omega) (by omega)
  · exact RK_fr (RK_fr I.K fa (fun b hb z => by rcases z with z | z | z <;> omega)) fb (fun b hb z => by have z : 1 + 8 + 3 * b = 106 := z; omega)
