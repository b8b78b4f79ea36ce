/-! ===== PURE: the class: a ship copied ===== -/
def ex (P R : Nat → Nat → Prop) (h h1 : hp_T) : Prop := hp_n h ≤ hp_n h1 ∧ (∀ a, a < hp_n h → hp_l h1 a = hp_l h a) ∧ (∀ a j, a < hp_n h → ¬ R a j → hp_r h1 a j = hp_r h a j) ∧ ∀ a j, a < hp_n h → ¬ P a j → hp_i h1 a j = hp_i h a j
theorem ex.refl {P R : Nat → Nat → Prop} {h : hp_T} : ex P R h h := ⟨Nat.le_refl _, fun _ _ => rfl, fun _ _ _ _ => rfl, fun _ _ _ _ => rfl⟩
theorem ex.trans {P R : Nat → Nat → Prop} {h h1 h2 : hp_T} (a : ex P R h h1) (b : ex P R h1 h2) : ex P R h h2 :=
  ⟨Nat.le_trans a.1 b.1, fun x hx => (b.2.1 x (Nat.lt_of_lt_of_le hx a.1)).trans (a.2.1 x hx), fun x j hx hr => (b.2.2.1 x j (Nat.lt_of_lt_of_le hx a.1) hr).trans (a.2.2.1 x j hx hr), fun x j hx hr => (b.2.2.2 x j (Nat.lt_of_lt_of_le hx a.1) hr).trans (a.2.2.2 x j hx hr)⟩
theorem ex.mono {P R P' R' : Nat → Nat → Prop} {h h1 : hp_T} (a : ex P R h h1) (hp : ∀ x j, P x j → P' x j) (hr : ∀ x j, R x j → R' x j) : ex P' R' h h1 :=
  ⟨a.1, a.2.1, fun x j hx h => a.2.2.1 x j hx fun q => h (hr x j q), fun x j hx h => a.2.2.2 x j hx fun q => h (hp x j q)⟩
theorem fr.ex {P R : Nat → Nat → Prop} {h h1 : hp_T} (f : fr P h h1) : ex P R h h1 := ⟨by rw [f.n]; exact Nat.le_refl _, fun _ _ => by rw [f.l], fun _ _ _ _ => by rw [f.r], fun a j _ hp => f.2 a j hp⟩
theorem ex_sr {P R : Nat → Nat → Prop} {h : hp_T} {a k : Nat} {v : Option Nat} (hr : R a k) : ex P R h (hp_sr h a k v) :=
  ⟨Nat.le_refl _, fun _ _ => rfl, fun x j _ hx => if_neg fun ⟨e1, e2⟩ => hx (by rw [e1, e2]; exact hr), fun _ _ _ _ => rfl⟩
theorem ex.sr {P R : Nat → Nat → Prop} {h h1 : hp_T} {a k : Nat} {v : Option Nat} (e : ex P R h h1) (hr : R a k) : ex P R h (hp_sr h1 a k v) := e.trans (ex_sr hr)
theorem ex.si {P R : Nat → Nat → Prop} {h h1 : hp_T} {a k : Nat} {v : Int32} (e : ex P R h h1) (hp : P a k) : ex P R h (hp_si h1 a k v) := e.trans (fr_si hp).ex
theorem fr_cp {P : Nat → Nat → Prop} {h : hp_T} {a i b j n : Nat} (hp : ∀ k, P b k) : fr P h (hp_cp h a i b j n) := ⟨rfl, fun x k hx => if_neg fun e => hx (by rw [e]; exact hp k)⟩
theorem wf_ex {P R : Nat → Nat → Prop} {h h1 : hp_T} (e : ex P R h h1) (hr : ∀ a j, R a j → ab_sr a j = none) (hw : wf h) : wf h1 := by
  obtain ⟨w1, w2, w3⟩ := hw
  refine ⟨Nat.le_trans w1 e.1, fun a j t ha ht => ?_, fun a ha hl => ?_⟩
  · rw [e.2.2.1 a j (by omega) (fun q => by rw [hr a j q] at ht; cases ht)]
    exact w2 a j t ha ht
  · rw [e.2.1 a (by omega)]
    exact w3 a ha hl
theorem Rl.ex {P Rf : Nat → Nat → Prop} {h h1 : hp_T} {p : Nat} {S : st_T} (R : Rl h p S) (hp : p ≤ 61) (hw : 117 ≤ hp_n h) (e : ex P Rf h h1) (hP : ∀ a j, P a j → ¬ (p ≤ a ∧ a < p + 30)) (hP16 : ∀ a j, P a j → ab_k a ≠ 16) (hR6 : ∀ a j, Rf a j → a ≠ p + 6 ∧ ab_k a ≠ 4) : Rl h1 p S := by
  refine ⟨R.i.keep fun k j hk _ => e.2.2.2 _ _ (by omega) fun z => hP _ _ z ⟨by omega, by omega⟩, fun j hj => ?_, fun u hu => ?_⟩
  · rw [e.2.2.2 (p + 5) j (by omega) (fun z => hP _ _ z ⟨by omega, by omega⟩)]
    exact R.t j hj
  · rw [e.2.2.1 (p + 6) u (by omega) (fun z => (hR6 _ _ z).1 rfl)]
    rcases R.x u hu with a | ⟨q, n, b1, b2, b3, b4, b5, b6, b7, b8, b9, b10, b11, b12, b13⟩
    · exact Or.inl a
    · refine Or.inr ⟨q, n, b1, b2, Nat.lt_of_lt_of_le b3 e.1, ?_, ?_, b6, b7, ?_, ?_, b10, b11, b12, fun i hi => ?_⟩
      · rw [e.2.2.1 q 0 (by omega) (fun z => (hR6 _ _ z).2 b2)]; exact b4
      · rw [e.2.2.1 q 1 (by omega) (fun z => (hR6 _ _ z).2 b2)]; exact b5
      · rw [e.2.1 (q + 1) (by omega)]; exact b8
      · rw [e.2.1 (q + 2) (by omega)]; exact b9
      · rw [e.2.2.2 (q + 1) i (by omega) (fun z => hP16 _ _ z b6)]
        exact b13 i hi
theorem cp_in {h : hp_T} {a b n k : Nat} (hk : k < n) : hp_i (hp_cp h a 0 b 0 n) b k = hp_i h a k := by
  rw [hp_i_cp, if_pos rfl, pk_cpy_in (Nat.zero_le k) (by omega)]
  congr 1; omega
theorem cp_out {h : hp_T} {a b n c k : Nat} (hc : c ≠ b) : hp_i (hp_cp h a 0 b 0 n) c k = hp_i h c k := by rw [hp_i_cp, if_neg hc]
theorem cp_ok0 {n N : Nat} (hn : n ≤ N) (hN : N < 1000) : cp_ok 0 0 (nI n) N N := by
  unfold cp_ok
  rw [nI_clamp (by omega)]
  exact ⟨by decide, by decide, nI_pos (by omega), by show 0 + n ≤ N; omega, by show 0 + n ≤ N; omega⟩
theorem w_bcopy {a b : Nat} {h : hp_T} {Q : hp_T → Prop} (hne : a + 3 ≤ b ∨ b + 3 ≤ a) (hQ : ∀ h1, fr (FB a) h h1 → (∀ w, w < 5 → hp_i h1 a w = hp_i h b w) → (∀ k, k < 6 → hp_i h1 (a + 1) k = hp_i h (b + 1) k) → (∀ k, k < 6 → hp_i h1 (a + 2) k = hp_i h (b + 2) k) → Q h1) : wp_X0_copyFrom a b h Q := by
  unfold wp_X0_copyFrom
  rintro h1 rfl
  rintro h2 rfl
  rintro h3 rfl
  rintro h4 rfl
  rintro h5 rfl
  refine ⟨cp_ok0 (n := 6) (Nat.le_refl 6) (by decide), ?_⟩
  rintro h6 rfl
  refine ⟨cp_ok0 (n := 6) (Nat.le_refl 6) (by decide), ?_⟩
  rintro h7 rfl
  have f5 : fr (FB a) h (hp_si (hp_si (hp_si (hp_si (hp_si h a 0 (hp_i h b 0)) a 1 (hp_i (hp_si h a 0 (hp_i h b 0)) b 1)) a 2 (hp_i (hp_si (hp_si h a 0 (hp_i h b 0)) a 1 (hp_i (hp_si h a 0 (hp_i h b 0)) b 1)) b 2)) a 3 (hp_i (hp_si (hp_si (hp_si h a 0 (hp_i h b 0)) a 1 (hp_i (hp_si h a 0 (hp_i h b 0)) b 1)) a 2 (hp_i (hp_si (hp_si h a 0 (hp_i h b 0)) a 1 (hp_i (hp_si h a 0 (hp_i h b 0)) b 1)) b 2)) b 3)) a 4 (hp_i (hp_si (hp_si (hp_si (hp_si h a 0 (hp_i h b 0)) a 1 (hp_i (hp_si h a 0 (hp_i h b 0)) b 1)) a 2 (hp_i (hp_si (hp_si h a 0 (hp_i h b 0)) a 1 (hp_i (hp_si h a 0 (hp_i h b 0)) b 1)) b 2)) a 3 (hp_i (hp_si (hp_si (hp_si h a 0 (hp_i h b 0)) a 1 (hp_i (hp_si h a 0 (hp_i h b 0)) b 1)) a 2 (hp_i (hp_si (hp_si h a 0 (hp_i h b 0)) a 1 (hp_i (hp_si h a 0 (hp_i h b 0)) b 1)) b 2)) b 3)) b 4)) := ((((fr_si (Or.inl rfl)).si (Or.inl rfl)).si (Or.inl rfl)).si (Or.inl rfl)).si (Or.inl rfl)
  refine hQ _ ((f5.trans (fr_cp fun _ => Or.inr (Or.inl rfl))).trans (fr_cp fun _ => Or.inr (Or.inr rfl))) ?_ ?_ ?_
  · intro w hw
    rw [cp_out (by omega), cp_out (by omega)]
    simp only [hp_i_si]
    rcases (show w = 0 ∨ w = 1 ∨ w = 2 ∨ w = 3 ∨ w = 4 by omega) with rfl | rfl | rfl | rfl | rfl <;> simp <;> omega
  · intro k hk
    rw [cp_out (by omega), cp_in hk, f5.2 (b + 1) k (by omega)]
  · intro k hk
    rw [cp_in hk, cp_out (by omega), f5.2 (b + 2) k (by omega)]
theorem w_tcopy {a b : Nat} {h : hp_T} {Q : hp_T → Prop} (hne : a ≠ b) (hQ : ∀ h1, fr (fun x _ => x = a) h h1 → (∀ w, w < 4 → hp_i h1 a w = hp_i h b w) → Q h1) : wp_X3_copyFrom a b h Q := by
  unfold wp_X3_copyFrom
  rintro h1 rfl
  rintro h2 rfl
  rintro h3 rfl
  rintro h4 rfl
  refine hQ _ ((((fr_si (P := fun x _ => x = a) rfl).si rfl).si rfl).si rfl) ?_
  intro w hw
  simp only [hp_i_si]
  rcases (show w = 0 ∨ w = 1 ∨ w = 2 ∨ w = 3 by omega) with rfl | rfl | rfl | rfl <;> simp <;> omega
/-- what a copy of c bunks to the ship at p writes -/
abbrev PC (p c : Nat) : Nat → Nat → Prop := fun a _ => (p ≤ a ∧ a < p + 8 + 3 * c) ∨ (p + 26 ≤ a ∧ a < p + 30)
abbrev P6 (p : Nat) : Nat → Nat → Prop := fun a _ => a = p + 6
def okP (p q : Nat) : Prop := p + 30 ≤ q ∨ q + 30 ≤ p
theorem PC_o {p q c a j : Nat} (h : okP p q) (hc : c ≤ 6) (hP : PC p c a j) : ¬ (q ≤ a ∧ a < q + 30) := by
  unfold okP at h
  rcases hP with hP | hP <;> omega
def cpd (h h1 : hp_T) (p q : Nat) (S : st_T) (X : Nat → Prop) : Prop := ∀ i k j, Lc i k j → Lv S i → X k → hp_i h1 (p + k) j = hp_i h (q + k) j
theorem w_copy4 {p q : Nat} {S : st_T} {h0 : hp_T} {Q : hp_T → Prop} (hpq : okP p q) (hp : p ≤ 61) (hq : q ≤ 61) (hw : 117 ≤ hp_n h0) (h1S : rg (S 1) 0 12) (h7S : rg (S 7) 0 60) (h8S : rg (S 8) 0 24) (hc : cr S ≤ 6) (RTt : RT h0 q S) (RXx : RX h0 q S)
    (hQ : ∀ h1, hp_n h1 = hp_n h0 → ex (PC p (cr S)) (P6 p) h0 h1 → (∀ k j, k = 2 ∨ k = 3 → j < en S → hp_i h1 (p + k) j = hp_i h0 (q + k) j) → (∀ j, j < wt S → hp_i h1 (p + 7) j = hp_i h0 (q + 7) j) → (∀ k j, (k = 0 ∨ 8 ≤ k) → k < 30 → hp_i h1 (p + k) j = hp_i h0 (p + k) j) → (∀ j, j < (S 7).toNatClampNeg → hp_i h1 (p + 5) j = hp_i h0 (q + 5) j) → (∀ u, u < 2 → hp_r h1 (p + 6) u = hp_r h0 (q + 6) u) → Q h1) :
    ∀ (r i nn : Nat) (h : hp_T), i + r = 2 → r < nn → hp_n h = hp_n h0 → ex (fun _ _ => False) (P6 p) h0 h → hp_i h = hp_i h0 → hp_i h0 p 4 = S 1 → hp_i h0 p 12 = S 7 → hp_i h0 p 15 = S 8 → (∀ u, u < i → hp_r h (p + 6) u = hp_r h0 (q + 6) u) → wp_X2_copyFrom_L133 p q Q nn (nI i) h := by
  intro r
  induction r with
  | zero =>
    intro i nn h hi hn hnn e ei e4 e12 e15 hu
    obtain ⟨nn, rfl⟩ : ∃ m, nn = m + 1 := ⟨nn - 1, by omega⟩
    unfold wp_X2_copyFrom_L133
    have : i = 2 := by omega
    subst this
    refine ⟨fun _ => ?_, fun z => absurd (by decide) z⟩
    obtain ⟨n1, n2⟩ := en12 h1S
    obtain ⟨c7, hc7, e7⟩ := rg_nI 60 h7S rfl (by decide)
    obtain ⟨c8, hc8, e8⟩ := rg_nI 24 h8S rfl (by decide)
    have w8 : wt S = c8 := by unfold wt; rw [e8, nI_clamp (by omega)]
    have s7 : (S 7).toNatClampNeg = c7 := by rw [e7, nI_clamp (by omega)]
    have q4 : hp_i h p 4 = nI (en S) := by rw [ei, e4]; exact n1
    have q12 : hp_i h p 12 = nI c7 := by rw [ei, e12]; exact e7
    have q15 : hp_i h p 15 = nI c8 := by rw [ei, e15]; exact e8
    unfold okP at hpq
    rw [q4]
    refine ⟨cp_ok0 n2 (by decide), ?_⟩
    rintro h1 rfl
    rw [cp_out (show p ≠ p + 2 by omega), q4]
    refine ⟨cp_ok0 n2 (by decide), ?_⟩
    rintro h2 rfl
    rw [cp_out (show p ≠ p + 3 by omega), cp_out (show p ≠ p + 2 by omega), q12]
    refine ⟨cp_ok0 hc7 (by decide), ?_, ?_⟩
    · intro i hi
      rw [nI_clamp (n := c7) (by omega)] at hi
      rw [cp_out (show q + 5 ≠ p + 3 by omega), cp_out (show q + 5 ≠ p + 2 by omega), ei, show (0 : Int32).toNatClampNeg + i = i from Nat.zero_add i, RTt i (by rw [s7]; exact hi)]
      exact pk_fb _
    rintro h3 rfl
    rw [cp_out (show p ≠ p + 5 by omega), cp_out (show p ≠ p + 3 by omega), cp_out (show p ≠ p + 2 by omega), q15]
    refine ⟨cp_ok0 hc8 (by decide), ?_⟩
    rintro h4 rfl
    rw [nI_clamp (n := en S) (by omega), nI_clamp (n := c7) (by omega), nI_clamp (n := c8) (by omega)]
    have F : fr (PC p (cr S)) h (hp_cp (hp_cp (hp_cp (hp_cp h (q + 2) 0 (p + 2) 0 (en S)) (q + 3) 0 (p + 3) 0 (en S)) (q + 5) 0 (p + 5) 0 c7) (q + 7) 0 (p + 7) 0 c8) :=
      (((fr_cp fun _ => Or.inl ⟨by omega, by omega⟩).trans (fr_cp fun _ => Or.inl ⟨by omega, by omega⟩)).trans (fr_cp fun _ => Or.inl ⟨by omega, by omega⟩)).trans (fr_cp fun _ => Or.inl ⟨by omega, by omega⟩)
    refine hQ _ (by rw [F.n, hnn]) ((e.mono (fun _ _ z => absurd z id) (fun _ _ z => z)).trans F.ex) ?_ ?_ ?_ ?_ ?_
    · rintro k j (rfl | rfl) hj
      · rw [cp_out (by omega), cp_out (by omega), cp_out (by omega), cp_in hj, ei]
      · rw [cp_out (by omega), cp_out (by omega), cp_in hj, cp_out (by omega), ei]
    · intro j hj
      rw [cp_in (by omega), cp_out (by omega), cp_out (by omega), cp_out (by omega), ei]
    · intro k j hk hk3
      rw [cp_out (by omega), cp_out (by omega), cp_out (by omega), cp_out (by omega), ei]
    · intro j hj
      rw [cp_out (by omega), cp_in (by omega), cp_out (by omega), cp_out (by omega), ei]
    · intro u hu'
      rw [F.r]; exact hu u (by omega)
  | succ r ih =>
    intro i nn h hi hn hnn e ei e4 e12 e15 hu
    obtain ⟨nn, rfl⟩ : ∃ m, nn = m + 1 := ⟨nn - 1, by omega⟩
    unfold wp_X2_copyFrom_L133
    have v1 : vp_in (nI i) 2 := vp_in_nI (by omega) (by decide)
    have icl : (nI i).toNatClampNeg = i := nI_clamp (by omega)
    refine ⟨fun z => absurd z (nI_ge (b := 2) (by omega) (by decide)), fun _ => ⟨v1, ?_, ?_⟩⟩
    all_goals rw [icl, show nI i + 1 = nI (i + 1) from nI_1 i]
    · intro hr
      refine ⟨v1, ?_⟩
      rintro h1 rfl
      refine ih (i + 1) nn _ (by omega) (by omega) hnn (e.sr rfl) ei e4 e12 e15 ?_
      intro u hu'
      show (if p + 6 = p + 6 ∧ u = i then none else hp_r h (p + 6) u) = _
      unfold okP at hpq
      have eq : hp_r h (q + 6) u = hp_r h0 (q + 6) u := e.2.2.1 _ _ (by omega) (show ¬ q + 6 = p + 6 by omega)
      by_cases g : u = i
      · subst g
        rw [if_pos ⟨rfl, rfl⟩, ← eq, hr]
      · rw [if_neg (fun z => g z.2)]
        exact hu u (by omega)
    · intro t hr
      have eq : ∀ u, hp_r h (q + 6) u = hp_r h0 (q + 6) u := fun u => e.2.2.1 _ _ (by omega) (show ¬ q + 6 = p + 6 by unfold okP at hpq; omega)
      have k4 : ab_k t = 4 ∧ t < hp_n h := by
        rw [eq] at hr
        rcases RXx i (by omega) with ⟨a, -⟩ | ⟨q', n, b1, b2, b3, -⟩
        · rw [hr] at a; cases a
        · rw [hr] at b1
          obtain rfl := Option.some.inj b1
          exact ⟨b2, by omega⟩
      refine ⟨v1, k4.1, k4.2, ?_⟩
      rintro h1 rfl
      refine ih (i + 1) nn _ (by omega) (by omega) hnn (e.sr rfl) ei e4 e12 e15 ?_
      intro u hu'
      show (if p + 6 = p + 6 ∧ u = i then some t else hp_r h (p + 6) u) = _
      by_cases g : u = i
      · subst g
        rw [if_pos ⟨rfl, rfl⟩, ← eq, hr]
      · rw [if_neg (fun z => g z.2)]
        exact hu u (by omega)
theorem w_copy3 {p q : Nat} {Q : hp_T → Prop} (hpq : okP p q) : ∀ (r i nn : Nat) (h : hp_T), i + r = 4 → r < nn → (∀ h1, fr (fun a _ => p + 26 ≤ a ∧ a < p + 30) h h1 → (∀ t w, i ≤ t → t < 4 → w < 4 → hp_i h1 (p + 26 + t) w = hp_i h (q + 26 + t) w) → (∀ t w, t < i → hp_i h1 (p + 26 + t) w = hp_i h (p + 26 + t) w) → ∃ n0, wp_X2_copyFrom_L133 p q Q n0 0 h1) → wp_X2_copyFrom_L105 p q Q nn (nI i) h := by
  intro r
  induction r with
  | zero =>
    intro i nn h hi hn hq
    obtain ⟨nn, rfl⟩ : ∃ m, nn = m + 1 := ⟨nn - 1, by omega⟩
    unfold wp_X2_copyFrom_L105
    have : i = 4 := by omega
    subst this
    exact ⟨fun _ => hq h fr.refl (fun t w h1 h2 => by omega) (fun _ _ _ => rfl), fun z => absurd (by decide) z⟩
  | succ r ih =>
    intro i nn h hi hn hq
    obtain ⟨nn, rfl⟩ : ∃ m, nn = m + 1 := ⟨nn - 1, by omega⟩
    unfold wp_X2_copyFrom_L105
    have v1 : vp_in (nI i) 4 := vp_in_nI (by omega) (by decide)
    refine ⟨fun z => absurd z (nI_ge (b := 4) (by omega) (by decide)), fun _ => ⟨v1, v1, ?_⟩⟩
    rw [nI_clamp (n := i) (by omega), show nI i + 1 = nI (i + 1) from nI_1 i]
    unfold okP at hpq
    refine w_tcopy (by omega) ?_
    intro h1 f1 c1
    refine ih (i + 1) nn h1 (by omega) (by omega) ?_
    intro h2 f2 c2 c3
    refine hq h2 ((f1.mono fun a _ z => by omega).trans f2) ?_ ?_
    · intro t w h3 h4 h5
      by_cases g : t = i
      · subst g
        rw [c3 t w (by omega), c1 w h5]
      · rw [c2 t w (by omega) h4 h5, f1.2 _ _ (by omega)]
    · intro t w h3
      rw [c3 t w (by omega), f1.2 _ _ (by omega)]
theorem w_copy2 {p q : Nat} {Q : hp_T → Prop} {n : Nat} (hpq : okP p q) (hn6 : n ≤ 6) : ∀ (r i nn : Nat) (h : hp_T), i + r = n → r < nn → hp_i h p 1 = nI n → (∀ h1, fr (fun a _ => p + 8 ≤ a ∧ a < p + 8 + 3 * n) h h1 → (∀ b k w, i ≤ b → b < n → (k = 0 ∧ w < 5) ∨ (k = 1 ∧ w < 6) ∨ (k = 2 ∧ w < 6) → hp_i h1 (p + 8 + 3 * b + k) w = hp_i h (q + 8 + 3 * b + k) w) → (∀ b k w, b < i → k < 3 → hp_i h1 (p + 8 + 3 * b + k) w = hp_i h (p + 8 + 3 * b + k) w) → ∃ n0, wp_X2_copyFrom_L105 p q Q n0 0 h1) → wp_X2_copyFrom_L74 p q Q nn (nI i) h := by
  intro r
  induction r with
  | zero =>
    intro i nn h hi hn hc hq
    obtain ⟨nn, rfl⟩ : ∃ m, nn = m + 1 := ⟨nn - 1, by omega⟩
    unfold wp_X2_copyFrom_L74
    rw [hc]
    exact ⟨fun _ => hq h fr.refl (fun b k w h1 h2 => by omega) (fun _ _ _ _ _ => rfl), fun z => absurd (nI_le (by omega) (by omega)) z⟩
  | succ r ih =>
    intro i nn h hi hn hc hq
    obtain ⟨nn, rfl⟩ : ∃ m, nn = m + 1 := ⟨nn - 1, by omega⟩
    unfold wp_X2_copyFrom_L74
    rw [hc]
    have v1 : vp_in (nI i) 6 := vp_in_nI (by omega) (by decide)
    refine ⟨fun z => absurd z (nI_ge (by omega) (by omega)), fun _ => ⟨v1, v1, ?_⟩⟩
    rw [nI_clamp (n := i) (by omega), show nI i + 1 = nI (i + 1) from nI_1 i]
    unfold okP at hpq
    refine w_bcopy (by omega) ?_
    intro h1 f1 c0 c1 c2
    refine ih (i + 1) nn h1 (by omega) (by omega) (by rw [f1.2 p 1 (by omega)]; exact hc) ?_
    intro h2 f2 d2 d3
    refine hq h2 ((f1.mono fun a _ z => by omega).trans f2) ?_ ?_
    · intro b k w h3 h4 h5
      by_cases g : b = i
      · subst g
        rw [d3 b k w (by omega) (by omega)]
        rcases h5 with ⟨rfl, h5⟩ | ⟨rfl, h5⟩ | ⟨rfl, h5⟩
        · exact c0 w h5
        · exact c1 w h5
        · exact c2 w h5
      · rw [d2 b k w (by omega) h4 h5, f1.2 _ _ (by omega)]
    · intro b k w h3 h4
      rw [d3 b k w (by omega) h4, f1.2 _ _ (by omega)]
theorem w_copyFrom {p q : Nat} {S : st_T} {D : Int} {h : hp_T} {Q : hp_T → Prop} (hpq : okP p q) (hp : p ≤ 61) (hq : q ≤ 61) (hw : 117 ≤ hp_n h) (hV : Vl D S) (R : Rl h q S) (hQ : ∀ h1, hp_n h1 = hp_n h → ex (PC p (cr S)) (P6 p) h h1 → Rl h1 p S → Q h1) : wp_X2_copyFrom p q h Q := by
  have hc := cr_nI hV.1
  have hpq' := hpq
  unfold okP at hpq
  unfold wp_X2_copyFrom
  have r1 := R.i.crew; have r4 := R.i.enl; have r5 := R.i.next; have r6 := R.i.book; have r8 := R.i.day; have r9 := R.i.mis; have r10 := R.i.z; have r12 := R.i.taped; have r15 := R.i.wait
  rintro h1 rfl
  rw [hp_i_si, if_neg (show ¬ (q = p ∧ 4 = 1) by omega), r1, r4]
  rintro h2 rfl
  rw [hp_i_si, if_neg (show ¬ (q = p ∧ 5 = 4) by omega), hp_i_si, if_neg (show ¬ (q = p ∧ 5 = 1) by omega), r5]
  rintro h3 rfl
  rw [hp_i_si, if_neg (show ¬ (q = p ∧ 6 = 5) by omega), hp_i_si, if_neg (show ¬ (q = p ∧ 6 = 4) by omega), hp_i_si, if_neg (show ¬ (q = p ∧ 6 = 1) by omega), r6]
  rintro h4 rfl
  have f4 : fr (fun a _ => a = p) h (hp_si (hp_si (hp_si (hp_si h p 1 (S 0)) p 4 (S 1)) p 5 (S 2)) p 6 (S 4)) := (((fr_si (P := fun a _ => a = p) rfl).si rfl).si rfl).si rfl
  have v4 : hp_i (hp_si (hp_si (hp_si (hp_si h p 1 (S 0)) p 4 (S 1)) p 5 (S 2)) p 6 (S 4)) p = ss (ss (ss (ss (hp_i h p) 1 (S 0)) 4 (S 1)) 5 (S 2)) 6 (S 4) := by rw [si_row, si_row, si_row, si_row]
  generalize hp_si (hp_si (hp_si (hp_si h p 1 (S 0)) p 4 (S 1)) p 5 (S 2)) p 6 (S 4) = h4 at f4 v4 ⊢
  rw [f4.2 q 8 (show ¬ q = p by omega), r8]
  rintro h5 rfl
  rw [hp_i_si, if_neg (show ¬ (q = p ∧ 9 = 8) by omega), f4.2 q 9 (show ¬ q = p by omega), r9]
  rintro h6 rfl
  rw [hp_i_si, if_neg (show ¬ (q = p ∧ 10 = 9) by omega), hp_i_si, if_neg (show ¬ (q = p ∧ 10 = 8) by omega), f4.2 q 10 (show ¬ q = p by omega), r10]
  rintro h7 rfl
  rw [hp_i_si, if_neg (show ¬ (q = p ∧ 12 = 10) by omega), hp_i_si, if_neg (show ¬ (q = p ∧ 12 = 9) by omega), hp_i_si, if_neg (show ¬ (q = p ∧ 12 = 8) by omega), f4.2 q 12 (show ¬ q = p by omega), r12]
  rintro h8 rfl
  have f8 : fr (fun a _ => a = p) h (hp_si (hp_si (hp_si (hp_si h4 p 8 (S 3)) p 9 (S 5)) p 10 (S 6)) p 12 (S 7)) := (((f4.si rfl).si rfl).si rfl).si rfl
  have v8 : hp_i (hp_si (hp_si (hp_si (hp_si h4 p 8 (S 3)) p 9 (S 5)) p 10 (S 6)) p 12 (S 7)) p = ss (ss (ss (ss (ss (ss (ss (ss (hp_i h p) 1 (S 0)) 4 (S 1)) 5 (S 2)) 6 (S 4)) 8 (S 3)) 9 (S 5)) 10 (S 6)) 12 (S 7) := by rw [si_row, si_row, si_row, si_row, v4]
  generalize hp_si (hp_si (hp_si (hp_si h4 p 8 (S 3)) p 9 (S 5)) p 10 (S 6)) p 12 (S 7) = h8 at f8 v8 ⊢
  rw [f8.2 q 15 (show ¬ q = p by omega), r15]
  rintro h9 rfl
  have f9 : fr (fun a _ => a = p) h (hp_si h8 p 15 (S 8)) := f8.si rfl
  have v9 : hp_i (hp_si h8 p 15 (S 8)) p = ss (ss (ss (ss (ss (ss (ss (ss (ss (hp_i h p) 1 (S 0)) 4 (S 1)) 5 (S 2)) 6 (S 4)) 8 (S 3)) 9 (S 5)) 10 (S 6)) 12 (S 7)) 15 (S 8) := by rw [si_row, v8]
  generalize hp_si h8 p 15 (S 8) = h9 at f9 v9 ⊢
  refine ⟨cr S + 1, w_copy2 (n := cr S) hpq' hc.2 (cr S) 0 (cr S + 1) h9 (by omega) (by omega) (by rw [v9]; exact hc.1) ?_⟩
  intro h10 f10 c10 _
  refine ⟨5, w_copy3 hpq' 4 0 5 h10 rfl (by decide) ?_⟩
  intro h11 f11 c11 _
  have F : fr (PC p (cr S)) h h11 := ((f9.mono fun a _ z => Or.inl ⟨by omega, by omega⟩).trans (f10.mono fun a _ z => Or.inl ⟨by omega, by omega⟩)).trans (f11.mono fun a _ z => Or.inr z)
  have v11 : hp_i h11 p = ss (ss (ss (ss (ss (ss (ss (ss (ss (hp_i h p) 1 (S 0)) 4 (S 1)) 5 (S 2)) 6 (S 4)) 8 (S 3)) 9 (S 5)) 10 (S 6)) 12 (S 7)) 15 (S 8) := by
    funext j
    rw [f11.2 p j (by omega), f10.2 p j (by omega), v9]
  have Rq : Rl h11 q S := R.ex (P := PC p (cr S)) (Rf := fun _ _ => False) hq hw F.ex (fun a j z => PC_o hpq' hc.2 z) (fun a j z y => by have := k16 y; rcases z with z | z <;> omega) (fun _ _ z => absurd z id)
  refine ⟨3, w_copy4 (S := S) hpq' hp hq (by rw [F.n]; exact hw) hV.2.1 hV.2.2.2.2.2.1 hV.2.2.2.2.2.2.1 hc.2 Rq.t Rq.x ?_ 2 0 3 h11 rfl (by decide) rfl ex.refl rfl ?_ ?_ ?_ (fun u hu => by omega)⟩
  · intro h12 n12 e12 d23 d7 dk d5 d6
    refine hQ h12 (by rw [n12, F.n]) (F.ex.trans e12) ⟨?_, ?_, ?_⟩
    · intro i k j hL hLv
      have hR := R.i i k j hL hLv
      rcases hL with ⟨rfl, hL⟩ | ⟨b, w, hb, hw', rfl, rfl, rfl⟩ | ⟨b, w, hb, hw', rfl, rfl, rfl⟩ | ⟨b, w, hb, hw', rfl, rfl, rfl⟩ | ⟨r, hr, rfl, rfl, rfl⟩ | ⟨r, hr, rfl, rfl, rfl⟩ | ⟨t, w, ht, hw', rfl, rfl, rfl⟩ | ⟨q', hq', rfl, rfl, rfl⟩
      · rw [dk 0 j (Or.inl rfl) (by decide)]
        show hp_i h11 p j = S i
        rw [v11]
        rcases hL with ⟨rfl, rfl⟩ | ⟨rfl, rfl⟩ | ⟨rfl, rfl⟩ | ⟨rfl, rfl⟩ | ⟨rfl, rfl⟩ | ⟨rfl, rfl⟩ | ⟨rfl, rfl⟩ | ⟨rfl, rfl⟩ | ⟨rfl, rfl⟩ <;> rfl
      · have hbc := hLv.1 b hb (by omega) (by omega)
        have := c10 b 0 j (by omega) hbc (Or.inl ⟨rfl, hw'⟩)
        rw [dk (8 + 3 * b) j (Or.inr (by omega)) (by omega), f11.2 _ _ (by omega), ← hR, ← Nat.add_assoc, ← Nat.add_assoc]
        rw [Nat.add_zero, Nat.add_zero] at this
        rw [this, Nat.add_zero, f9.2 _ _ (show ¬ q + 8 + 3 * b = p by omega)]
      · have hbc := hLv.1 b hb (by omega) (by omega)
        have := c10 b 1 j (by omega) hbc (Or.inr (Or.inl ⟨rfl, hw'⟩))
        rw [dk (9 + 3 * b) j (Or.inr (by omega)) (by omega), f11.2 _ _ (by omega), ← hR, show p + (9 + 3 * b) = p + 8 + 3 * b + 1 by omega, show q + (9 + 3 * b) = q + 8 + 3 * b + 1 by omega]
        rw [this, f9.2 _ _ (show ¬ q + 8 + 3 * b + 1 = p by omega)]
      · have hbc := hLv.1 b hb (by omega) (by omega)
        have := c10 b 2 j (by omega) hbc (Or.inr (Or.inr ⟨rfl, hw'⟩))
        rw [dk (10 + 3 * b) j (Or.inr (by omega)) (by omega), f11.2 _ _ (by omega), ← hR, show p + (10 + 3 * b) = p + 8 + 3 * b + 2 by omega, show q + (10 + 3 * b) = q + 8 + 3 * b + 2 by omega]
        rw [this, f9.2 _ _ (show ¬ q + 8 + 3 * b + 2 = p by omega)]
      · rw [d23 2 j (Or.inl rfl) (hLv.2.1 j hr (by omega) (by omega)), F.2 (q + 2) j (fun z => PC_o hpq' hc.2 z ⟨by omega, by omega⟩), hR]
      · rw [d23 3 j (Or.inr rfl) (hLv.2.1 j hr (by omega) (by omega)), F.2 (q + 3) j (fun z => PC_o hpq' hc.2 z ⟨by omega, by omega⟩), hR]
      · have := c11 t j (by omega) ht hw'
        rw [dk (26 + t) j (Or.inr (by omega)) (by omega), ← hR, show p + (26 + t) = p + 26 + t by omega, show q + (26 + t) = q + 26 + t by omega, this, f10.2 _ _ (by omega), f9.2 _ _ (show ¬ q + 26 + t = p by omega)]
      · rw [d7 j (hLv.2.2 j hq' rfl), F.2 (q + 7) j (fun z => PC_o hpq' hc.2 z ⟨by omega, by omega⟩), hR]
    · intro j hj
      rw [d5 j hj]
      exact Rq.t j hj
    · intro u hu
      have e := e12
      rw [d6 u hu]
      have Rq2 : Rl h12 q S := Rq.ex (P := PC p (cr S)) (Rf := P6 p) hq (by rw [F.n]; exact hw) e12 (fun a j z => PC_o hpq' hc.2 z) (fun a j z y => by have := k16 y; rcases z with z | z <;> omega) (fun a j z => by
        have z : a = p + 6 := z
        refine ⟨by omega, fun y => ?_⟩
        have : (List.range 117).all (fun a => decide (ab_k a ≠ 4)) = true := by decide +kernel
        exact absurd y (of_decide_eq_true (List.all_eq_true.mp this a (List.mem_range.mpr (by omega)))))
      have e6 : hp_r h12 (q + 6) u = hp_r h11 (q + 6) u := e12.2.2.1 (q + 6) u (by rw [F.n]; omega) (show ¬ q + 6 = p + 6 by omega)
      have := Rq2.x u hu
      rw [e6] at this
      exact this
  · rw [v11]; rfl
  · rw [v11]; rfl
  · rw [v11]; rfl
