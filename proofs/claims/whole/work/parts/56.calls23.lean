/-! ===== PURE: the calls: feed ===== -/
theorem sh_k : ((List.range 8).all fun i => (((nI (8 * i)).toInt64 &&& 63).toBitVec.smod 64 == BitVec.ofNat 64 (8 * i)) && ((((nI (8 * i)).toInt64.toUInt64 &&& Int64.toUInt64 63).toBitVec % 64) == BitVec.ofNat 64 (8 * i))) = true := by decide +kernel
theorem sh_ki {i : Nat} (hi : i < 8) : ((nI (8 * i)).toInt64 &&& 63).toBitVec.smod 64 = BitVec.ofNat 64 (8 * i) ∧ (((nI (8 * i)).toInt64.toUInt64 &&& Int64.toUInt64 63).toBitVec % 64) = BitVec.ofNat 64 (8 * i) := by
  have h := List.all_eq_true.mp sh_k i (List.mem_range.mpr hi)
  simpa using h
theorem sh_n {i : Nat} (hi : i < 8) : (BitVec.ofNat 64 (8 * i)).toNat = 8 * i := by
  rw [BitVec.toNat_ofNat]
  omega
theorem b_lush {x : Int64} {i : Nat} (hi : i < 8) : (ab_lush x (nI (8 * i))).toBitVec = x.toBitVec >>> (8 * i) := by
  have e : (ab_lush x (nI (8 * i))).toBitVec = x.toBitVec >>> (((nI (8 * i)).toInt64.toUInt64 &&& Int64.toUInt64 63).toBitVec % 64) := rfl
  rw [e, (sh_ki hi).2, BitVec.ushiftRight_eq', sh_n hi]
theorem b_shr {x : Int64} {i : Nat} (hi : i < 8) : (x >>> ((nI (8 * i)).toInt64 &&& 63)).toBitVec = x.toBitVec.sshiftRight (8 * i) := by
  rw [Int64.toBitVec_shiftRight]
  have e : ((nI (8 * i)).toInt64 &&& 63).toBitVec.smod (64#64) = BitVec.ofNat 64 (8 * i) := (sh_ki hi).1
  show x.toBitVec.sshiftRight' (((nI (8 * i)).toInt64 &&& 63).toBitVec.smod (64#64)) = _
  rw [e]
  show x.toBitVec.sshiftRight (BitVec.ofNat 64 (8 * i)).toNat = _
  rw [sh_n hi]
theorem l255 : ∀ j, j < 8 → (255#64).getLsbD j = true := by decide
/-- the byte i of a word, as the reference has it -/
def mb (x : Int64) (i : Nat) : Int32 := ((x >>> ((nI (8 * i)).toInt64 &&& 63)) &&& 255).toInt32
theorem mb_eq {x : Int64} {i : Nat} (hi : i < 8) : (ab_lush x (nI (8 * i))).toInt32.toInt8.toInt32 = (mb x i).toInt8.toInt32 := by
  congr 1
  apply Int8.toBitVec_inj.mp
  apply BitVec.eq_of_getLsbD_eq
  intro j hj
  have e1 : (ab_lush x (nI (8 * i))).toInt32.toInt8.toBitVec = ((ab_lush x (nI (8 * i))).toBitVec.signExtend 32).signExtend 8 := rfl
  have e2 : (mb x i).toInt8.toBitVec = (((x >>> ((nI (8 * i)).toInt64 &&& 63)).toBitVec &&& 255#64).signExtend 32).signExtend 8 := rfl
  rw [e1, e2, b_lush hi, b_shr hi, BitVec.getLsbD_signExtend, BitVec.getLsbD_signExtend, BitVec.getLsbD_signExtend, BitVec.getLsbD_signExtend]
  rw [if_pos (by omega), if_pos (by omega), if_pos (by omega), if_pos (by omega), BitVec.getLsbD_ushiftRight, BitVec.getLsbD_and, BitVec.getLsbD_sshiftRight, l255 j hj, if_pos (by omega), Bool.and_true]
  rw [show decide (64 ≤ j) = false from decide_eq_false (by omega), Bool.not_false, Bool.true_and]
theorem mb_rg {x : Int64} {i : Nat} : rg (mb x i) 0 255 := by
  unfold mb
  rw [Int64.toInt32_and]
  obtain ⟨j, hj, e⟩ := pk_andE ((x >>> ((nI (8 * i)).toInt64 &&& 63)).toInt32) (m := (255 : Int64).toInt32) 8 rfl
  rw [e]
  unfold rg
  rw [i_nI (by omega)]
  omega
/-- what the tape, texts and their steps may change -/
theorem Vl_tx {D : Int} {S S' : st_T} (hV : Vl D S) (e : ∀ j, j ≠ 7 → j ≠ 9 → j ≠ 10 → (j < 153 ∨ (213 ≤ j ∧ j < 237)) → S' j = S j) (h7 : rg (S' 7) 0 60) (ht : ∀ q, q < (S' 7).toNatClampNeg → rg (S' (153 + q)) 0 255) (hx : ∀ u, u < 2 → VX S' u) : Vl D S' := by
  obtain ⟨a0, a1, a2, a3, a4, a7, a8, ab, ar, at', atp, ax⟩ := hV
  have a12 := en12 a1
  have c6 := cr6 a0
  refine ⟨by rw [e 0 (by omega) (by omega) (by omega) (by omega)]; exact a0, by rw [e 1 (by omega) (by omega) (by omega) (by omega)]; exact a1, by rw [e 2 (by omega) (by omega) (by omega) (by omega), e 1 (by omega) (by omega) (by omega) (by omega)]; exact a2, by rw [e 3 (by omega) (by omega) (by omega) (by omega)]; exact a3, by rw [e 4 (by omega) (by omega) (by omega) (by omega)]; exact a4, h7, by rw [e 8 (by omega) (by omega) (by omega) (by omega)]; exact a8, ?_, ?_, ?_, ht, hx⟩
  · intro b hb
    have ec : cr S' = cr S := cr_eq (e 0 (by omega) (by omega) (by omega) (by omega))
    rw [ec] at hb
    have B := ab b hb
    unfold VB
    rw [e (11 + 17 * b) (by omega) (by omega) (by omega) (by omega), e (11 + 17 * b + 1) (by omega) (by omega) (by omega) (by omega), e (11 + 17 * b + 3) (by omega) (by omega) (by omega) (by omega), e (11 + 17 * b + 4) (by omega) (by omega) (by omega) (by omega)]
    exact ⟨B.1, B.2.1, B.2.2.1, B.2.2.2.1, fun k hk => by rw [e (11 + 17 * b + 11 + k) (by omega) (by omega) (by omega) (by omega)]; exact B.2.2.2.2 k hk⟩
  · intro r hr
    have ee : en S' = en S := by unfold en; rw [e 1 (by omega) (by omega) (by omega) (by omega)]
    rw [ee] at hr
    rw [e (113 + 2 * r) (by omega) (by omega) (by omega) (by omega), e (114 + 2 * r) (by omega) (by omega) (by omega) (by omega)]
    exact ar r hr
  · intro t ht
    unfold VT
    rw [e (137 + 4 * t) (by omega) (by omega) (by omega) (by omega), e (137 + 4 * t + 1) (by omega) (by omega) (by omega) (by omega), e (137 + 4 * t + 2) (by omega) (by omega) (by omega) (by omega), e (137 + 4 * t + 3) (by omega) (by omega) (by omega) (by omega)]
    exact at' t ht
theorem Lc_i {i k j : Nat} (h : Lc i k j) : i ≠ 9 ∧ i ≠ 10 ∧ (i < 153 ∨ (213 ≤ i ∧ i < 237)) := by
  rcases h with ⟨rfl, h1⟩ | ⟨b, w, hb, hw, rfl, rfl, rfl⟩ | ⟨b, w, hb, hw, rfl, rfl, rfl⟩ | ⟨b, w, hb, hw, rfl, rfl, rfl⟩ | ⟨r, hr, rfl, rfl, rfl⟩ | ⟨r, hr, rfl, rfl, rfl⟩ | ⟨t, w, ht, hw, rfl, rfl, rfl⟩ | ⟨q, hq, rfl, rfl, rfl⟩ <;> omega
theorem RI_tx {h h' : hp_T} {p : Nat} {S S' : st_T} (R : RI h p S) (e : ∀ j, j ≠ 7 → j ≠ 9 → j ≠ 10 → (j < 153 ∨ (213 ≤ j ∧ j < 237)) → S' j = S j) (f : ∀ k j, k < 30 → k ≠ 5 → ¬ (k = 0 ∧ j = 12) → hp_i h' (p + k) j = hp_i h (p + k) j) (h12 : hp_i h' p 12 = S' 7) : RI h' p S' := by
  intro i k j hL hv
  have L7 : Lc 7 0 12 := Or.inl ⟨rfl, Or.inr (Or.inr (Or.inr (Or.inr (Or.inr (Or.inr (Or.inr (Or.inl ⟨rfl, rfl⟩)))))))⟩
  by_cases g : i = 7
  · subst g
    obtain ⟨rfl, rfl⟩ := Lc_fn hL L7
    exact h12
  · have hk := Lc_k hL
    have hi := Lc_i hL
    rw [f k j hk.1 hk.2 (fun z => g (by
      obtain ⟨rfl, rfl⟩ := z
      exact Lc_in hL L7)), e i g hi.1 hi.2.1 hi.2.2]
    refine R i k j hL ?_
    rw [← Lv_eq (e 0 (by omega) (by omega) (by omega) (by omega)) (e 1 (by omega) (by omega) (by omega) (by omega)) (e 8 (by omega) (by omega) (by omega) (by omega))]
    exact hv
abbrev Pfd : Nat → Nat → Prop := fun a j => a = 6 ∨ (a = 1 ∧ j = 12)
theorem w_feed_L {x : Int64} {n t : Nat} {Q : Int32 → hp_T → Prop} (hn : n ≤ 8) (ht : t + n ≤ 60) : ∀ (r i nn : Nat) (h : hp_T), i + r = n → r < nn → hp_i h 1 12 = nI (t + i) → (∀ h1, fr Pfd h h1 → hp_i h1 1 12 = nI (t + n) → (∀ j, hp_i h1 6 j = if t + i ≤ j ∧ j < t + n then (mb x (j - t)).toInt8.toInt32 else hp_i h 6 j) → Q (nI (t + n)) h1) → wp_X7_feed_L39 x (nI n) Q nn (nI i) h := by
  intro r
  induction r with
  | zero =>
    intro i nn h hi hnn h12 hq
    obtain ⟨nn, rfl⟩ : ∃ m, nn = m + 1 := ⟨nn - 1, by omega⟩
    unfold wp_X7_feed_L39
    have : i = n := by omega
    subst this
    rw [h12]
    exact ⟨fun _ => hq h fr.refl h12 (fun j => (if_neg (by omega)).symm), fun z => absurd (nI_le (Nat.le_refl _) (by omega)) z⟩
  | succ r ih =>
    intro i nn h hi hnn h12 hq
    obtain ⟨nn, rfl⟩ : ∃ m, nn = m + 1 := ⟨nn - 1, by omega⟩
    unfold wp_X7_feed_L39
    rw [h12, nI_clamp (n := t + i) (by omega), pk_vb, show (8 : Int32) * nI i = nI (8 * i) from pk_mul 8 i, mb_eq (by omega), show nI i + 1 = nI (i + 1) from nI_1 i]
    refine ⟨fun z => absurd z (nI_ge (by omega) (by omega)), fun _ => ⟨vp_in_nI (by omega) (by decide), ?_⟩⟩
    rintro h1 rfl
    rw [hp_i_si, if_neg (show ¬ (1 = 1 + 5 ∧ _) by omega), h12, show nI (t + i) + 1 = nI (t + (i + 1)) from nI_1 _]
    rintro h2 rfl
    refine ih (i + 1) nn _ (by omega) (by omega) (by rw [hp_i_si, if_pos ⟨rfl, rfl⟩]) ?_
    intro h3 f3 e3 t3
    refine hq h3 (((fr_si (P := Pfd) (Or.inl rfl)).si (Or.inr ⟨rfl, rfl⟩)).trans f3) e3 (fun j => ?_)
    have o : hp_i (hp_si (hp_si h (1 + 5) (t + i) (mb x i).toInt8.toInt32) 1 12 (nI (t + (i + 1)))) 6 j = if j = t + i then (mb x i).toInt8.toInt32 else hp_i h 6 j := by
      rw [hp_i_si, if_neg (by omega), hp_i_si]
      by_cases g : j = t + i
      · rw [if_pos ⟨rfl, g⟩, if_pos g]
      · rw [if_neg (fun z => g z.2), if_neg g]
    rw [t3 j, o]
    by_cases g : j = t + i
    · subst g
      rw [if_neg (by omega), if_pos rfl, if_pos (by omega), show t + i - t = i by omega]
    · rw [if_neg g]
      by_cases g2 : t + (i + 1) ≤ j ∧ j < t + n
      · rw [if_pos g2, if_pos (by omega)]
      · rw [if_neg g2, if_neg (by omega)]
theorem m_feed_L {x : Int64} {n t : Nat} {Q : Int32 → hp_T → Prop} (hn : n ≤ 8) (ht : t + n ≤ 60) : ∀ (r i nn : Nat) (h : hp_T), i + r = n → r < nn → hp_i h 106 7 = nI (t + i) → (∀ h1, fr P106 h h1 → hp_i h1 106 7 = nI (t + n) → (∀ j, j ≠ 7 → hp_i h1 106 j = if 153 + t + i ≤ j ∧ j < 153 + t + n then mb x (j - (153 + t)) else hp_i h 106 j) → Q (nI (t + n)) h1) → wp_X8_feed_L43 x (nI n) Q nn (nI i) h := by
  intro r
  induction r with
  | zero =>
    intro i nn h hi hnn h12 hq
    obtain ⟨nn, rfl⟩ : ∃ m, nn = m + 1 := ⟨nn - 1, by omega⟩
    unfold wp_X8_feed_L43
    have : i = n := by omega
    subst this
    rw [h12]
    exact ⟨fun _ => hq h fr.refl h12 (fun j _ => (if_neg (by omega)).symm), fun z => absurd (nI_le (Nat.le_refl _) (by omega)) z⟩
  | succ r ih =>
    intro i nn h hi hnn h12 hq
    obtain ⟨nn, rfl⟩ : ∃ m, nn = m + 1 := ⟨nn - 1, by omega⟩
    unfold wp_X8_feed_L43
    rw [h12, show (153 : Int32) + nI (t + i) = nI (153 + (t + i)) from nI_add 153 _, nI_clamp (n := 153 + (t + i)) (by omega), show (8 : Int32) * nI i = nI (8 * i) from pk_mul 8 i, show nI i + 1 = nI (i + 1) from nI_1 i]
    refine ⟨fun z => absurd z (nI_ge (by omega) (by omega)), fun _ => ⟨vp_in_nI (by omega) (by decide), ?_⟩⟩
    show ∀ h_6, h_6 = hp_si h 106 (153 + (t + i)) (mb x i) → _
    rintro h1 rfl
    rw [hp_i_si, if_neg (show ¬ (106 = 106 ∧ 7 = _) by omega), h12, show nI (t + i) + 1 = nI (t + (i + 1)) from nI_1 _]
    rintro h2 rfl
    refine ih (i + 1) nn _ (by omega) (by omega) (by rw [hp_i_si, if_pos ⟨rfl, rfl⟩]) ?_
    intro h3 f3 e3 t3
    refine hq h3 (((fr_si (P := P106) rfl).si rfl).trans f3) e3 (fun j hj => ?_)
    have o : hp_i (hp_si (hp_si h 106 (153 + (t + i)) (mb x i)) 106 7 (nI (t + (i + 1)))) 106 j = if j = 153 + (t + i) then mb x i else hp_i h 106 j := by
      rw [hp_i_si, if_neg (fun z => hj z.2), hp_i_si]
      by_cases g : j = 153 + (t + i)
      · rw [if_pos ⟨rfl, g⟩, if_pos g]
      · rw [if_neg (fun z => g z.2), if_neg g]
    rw [t3 j hj, o]
    by_cases g : j = 153 + (t + i)
    · subst g
      rw [if_neg (by omega), if_pos rfl, if_pos (by omega), show 153 + (t + i) - (153 + t) = i by omega]
    · rw [if_neg g]
      by_cases g2 : 153 + t + (i + 1) ≤ j ∧ j < 153 + t + n
      · rw [if_pos g2, if_pos (by omega)]
      · rw [if_neg g2, if_neg (by omega)]
theorem c_feed {x : Int64} {y : Int32} {h : hp_T} (I : Inv h) : wp_X7_feed x y h (fun r1 h1 => wp_X8_feed x y h1 (fun r2 h2 => r1 = r2 ∧ Inv h2)) := by
  have V := I.V
  have hw := I.n
  obtain ⟨t, ht, e7⟩ := rg_nI 60 V.2.2.2.2.2.1 rfl (by decide)
  have e12 : hp_i h 1 12 = nI t := by rw [I.R.i.taped, e7]
  unfold wp_X7_feed
  simp only [w_within, bi_0, er1, er4]
  rw [e12]
  refine ⟨fun z => ?_, fun z => ?_⟩
  · unfold wp_X8_feed
    simp only [in_1_8, bi_0]
    exact ⟨fun _ => f1 I, fun w => absurd z w⟩
  obtain ⟨n, n1, n8, rfl⟩ := span_of (a := 1) (b := 8) (Classical.not_not.mp z) rfl rfl
  rw [show nI t + nI n = nI (t + n) from nI_add t n]
  have le : (nI (t + n) ≤ 60) ↔ t + n ≤ 60 := nI_leI (b := 60) (by omega) (by decide)
  refine ⟨fun g => ?_, fun g => ?_⟩
  · refine ⟨n + 1, w_feed_L (t := t) n8 (le.mp g) n 0 (n + 1) h (by omega) (by omega) e12 ?_⟩
    intro h1 fa ea ta
    have e6 : hp_i h1 106 = hp_i h 106 := fa.row (fun j z => by have z : Pfd 106 j := z; omega)
    unfold wp_X8_feed
    simp only [in_1_8, bi_0]
    rw [e6, e7, show nI t + nI n = nI (t + n) from nI_add t n]
    refine ⟨fun w => absurd w z, fun _ => ⟨fun _ => ⟨n + 1, m_feed_L (t := t) n8 (le.mp g) n 0 (n + 1) h1 (by omega) (by omega) (by rw [e6]; exact e7) ?_⟩, fun w => absurd g w⟩⟩
    intro h2 fb eb tb
    refine ⟨rfl, ?_⟩
    have e : ∀ j, j ≠ 7 → (j < 153 ∨ 213 ≤ j) → hp_i h2 106 j = hp_i h 106 j := fun j h7 hj => by
      rw [tb j h7, if_neg (by have := le.mp g; omega), e6]
    have f : fr (fun a j => Pfd a j ∨ a = 106) h h2 := (fa.mono fun a j z => Or.inl z).trans (fb.mono fun a j z => Or.inr z)
    have t8 : ∀ q, q < t + n → hp_i h2 106 (153 + q) = if t ≤ q then mb x (q - t) else hp_i h 106 (153 + q) := fun q hq => by
      rw [tb _ (by omega), e6]
      by_cases g2 : t ≤ q
      · rw [if_pos (by omega), if_pos g2]; congr 1; omega
      · rw [if_neg (by omega), if_neg g2]
    have VX' : ∀ u, u < 2 → VX (hp_i h2 106) u := fun u hu => VX_eq (e _ (by omega) (by omega)) (fun j hj => e j (by omega) (by omega)) (V.2.2.2.2.2.2.2.2.2.2.2 u hu)
    refine I.gen (f.ex.mono (fun a j z => ?_) (fun _ _ z => z)) (by rw [f.n]; exact I.2.1) ⟨?_, ⟨?_, ?_, ?_⟩, ?_⟩ (I.e.ex (P := fun a j => Pfd a j ∨ a = 106) (R := RG) hw f.ex (fun a j z => by omega)) (fun j hj => ⟨by rw [e j (by omega) (by omega)]; exact (I.zr j hj).1, by rw [f.2 108 j (by omega)]; exact (I.zr j hj).2.2⟩)
    · rcases z with z | z
      · exact Or.inl (by omega)
      · exact Or.inr (Or.inr (Or.inr (Or.inl z)))
    · refine Vl_tx V (fun j h7 _ _ hj => e j h7 (by omega)) ?_ ?_ VX'
      · rw [eb]; unfold rg; rw [i_nI (by omega)]; have := le.mp g; omega
      · intro q hq
        rw [eb, nI_clamp (n := t + n) (by omega)] at hq
        rw [t8 q hq]
        by_cases g2 : t ≤ q
        · rw [if_pos g2]; exact mb_rg
        · rw [if_neg g2]
          exact V.2.2.2.2.2.2.2.2.2.2.1 q (by rw [e7, nI_clamp (n := t) (by omega)]; omega)
    · refine RI_tx I.R.i (fun j h7 _ _ hj => e j h7 (by omega)) (fun k j hk k5 hkj => f.2 _ _ (by omega)) ?_
      rw [fb.2 1 12 (by omega), ea, eb]
    · intro j hj
      rw [eb, nI_clamp (n := t + n) (by omega)] at hj
      rw [fb.2 (1 + 5) j (by omega), t8 j hj]
      show hp_i h1 6 j = _
      rw [ta j]
      by_cases g2 : t ≤ j
      · rw [if_pos (by omega), if_pos g2]
      · rw [if_neg (by omega), if_neg g2]
        exact I.R.t j (by rw [e7, nI_clamp (n := t) (by omega)]; omega)
    · exact I.R.x.fr f (fun a j z => lt117_16 (by rcases z with z | z <;> omega)) (fun u hu => e _ (by omega) (by omega)) (fun j hj => e j (by omega) (by omega))
    · exact RK_fr I.K f (fun b hb z => by rcases z with z | z <;> omega)
  · unfold wp_X8_feed
    simp only [in_1_8, bi_0]
    rw [er_i (by decide), e7, show nI t + nI n = nI (t + n) from nI_add t n]
    exact ⟨fun w => absurd w z, fun _ => ⟨fun w => absurd w g, fun _ => f4 I⟩⟩
