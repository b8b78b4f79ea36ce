/-! ===== PURE: the calls: text, both ===== -/
theorem dp_congr {c c' : Nat → Int32} : ∀ i, (∀ j, j < i → c j = c' j) → dp c i = dp c' i := by
  intro i
  induction i with
  | zero => intro _; rfl
  | succ i ih =>
    intro h
    show (if -10 < c i then dp c i + 1 else if c i = -21 then dp c i else dp c i - 1) = (if -10 < c' i then dp c' i + 1 else if c' i = -21 then dp c' i else dp c' i - 1)
    rw [ih (fun j hj => h j (by omega)), h i (by omega)]
theorem rpn_congr {u n : Nat} {c c' : Nat → Int32} (e : ∀ j, j < n → c j = c' j) (h : rpn u n c) : rpn u n c' := by
  obtain ⟨a, b⟩ := h
  refine ⟨fun i hi => ?_, by rw [← dp_congr n e]; exact b⟩
  rw [← e i hi, ← dp_congr i (fun j hj => e j (by omega))]
  exact a i hi
theorem VX_keep {S S' : st_T} {u : Nat} (h9 : S' (9 + u) = S (9 + u)) (hc : ∀ i, i < 60 → S' (237 + 60 * u + i) = S (237 + 60 * u + i)) (h : VX S u) : VX S' u := by
  rcases h with h | ⟨n, a1, a2, a3, a4⟩
  · exact Or.inl (h9.trans h)
  · exact Or.inr ⟨n, a1, a2, h9.trans a3, rpn_congr (fun j hj => (hc j (by omega)).symm) a4⟩
abbrev Ptx : Nat → Nat → Prop := fun a j => (a = 1 ∧ j = 12) ∨ a = 91 ∨ a = 92 ∨ a = 106 ∨ a = 111 ∨ (a = 105 ∧ 6 ≤ j ∧ j ≤ 10)
abbrev Rtx : Nat → Nat → Prop := fun a j => a = 7 ∨ (a = 91 ∧ j = 0)
def RXu (h : hp_T) (S : st_T) (u : Nat) : Prop := (hp_r h 7 u = none ∧ S (9 + u) = 0) ∨ ∃ q n, hp_r h 7 u = some q ∧ ab_k q = 4 ∧ q + 2 < hp_n h ∧ hp_r h q 0 = some (q + 1) ∧ hp_r h q 1 = some (q + 2) ∧ ab_k (q + 1) = 16 ∧ ab_k (q + 2) = 17 ∧ hp_l h (q + 1) = n ∧ hp_l h (q + 2) = n ∧ 0 < n ∧ n ≤ 60 ∧ S (9 + u) = nI n ∧ ∀ i, i < n → okx (hp_i h (q + 1) i) ∧ tr (hp_i h (q + 1) i) = cd S u i
theorem RXu_keep {h h2 : hp_T} {S S' : st_T} {u : Nat} (R : RXu h S u) (e : ex Ptx Rtx h h2) (hr : hp_r h2 7 u = hp_r h 7 u) (h9 : S' (9 + u) = S (9 + u)) (hc : ∀ i, i < 60 → S' (237 + 60 * u + i) = S (237 + 60 * u + i)) : RXu h2 S' u := by
  rcases R with ⟨a, b⟩ | ⟨q, n, b1, b2, b3, b4, b5, b6, b7, b8, b9, b10, b11, b12, b13⟩
  · exact Or.inl ⟨hr.trans a, h9.trans b⟩
  · have q117 : 117 ≤ q + 1 := k16 b6
    refine Or.inr ⟨q, n, hr.trans b1, b2, Nat.lt_of_lt_of_le b3 e.1, ?_, ?_, b6, b7, ?_, ?_, b10, b11, h9.trans b12, fun i hi => ?_⟩
    · rw [e.2.2.1 q 0 (by omega) (fun z => by omega)]; exact b4
    · rw [e.2.2.1 q 1 (by omega) (fun z => by omega)]; exact b5
    · rw [e.2.1 (q + 1) (by omega)]; exact b8
    · rw [e.2.1 (q + 2) (by omega)]; exact b9
    · rw [e.2.2.2 (q + 1) i (by omega) (fun z => by omega)]
      obtain ⟨c1, c2⟩ := b13 i hi
      exact ⟨c1, c2.trans (hc i (by omega)).symm⟩
theorem Inv_tx {h h2 : hp_T} (I : Inv h) (e : ex Ptx Rtx h h2) (hn : hp_n h2 % 3 = 0) (h12 : hp_i h2 1 12 = 0) (e7 : hp_i h2 106 7 = 0) (row : ∀ j, j ≠ 7 → j ≠ 9 → j ≠ 10 → (j < 237 ∨ 357 ≤ j) → hp_i h2 106 j = hp_i h 106 j) (hx : ∀ u, u < 2 → VX (hp_i h2 106) u) (hX : ∀ u, u < 2 → RXu h2 (hp_i h2 106) u) : Inv h2 := by
  have hw := I.n
  have V := I.V
  refine I.gen (e.mono (fun a j z => ?_) (fun a j z => ?_)) hn ⟨?_, ⟨?_, ?_, hX⟩, fun b hb => ?_⟩ (I.e.ex (P := Ptx) (R := Rtx) hw e (fun a j z => by omega)) (fun j hj => ⟨by rw [row j (by omega) (by omega) (by omega) (by omega)]; exact (I.zr j hj).1, by rw [e.2.2.2 108 j (by omega) (fun z => by have z : Ptx 108 j := z; omega)]; exact (I.zr j hj).2.2⟩)
  · rcases z with z | z | z | z | z | z
    · exact Or.inl (by omega)
    · exact Or.inr (Or.inl (by omega))
    · exact Or.inr (Or.inl (by omega))
    · exact Or.inr (Or.inr (Or.inr (Or.inl z)))
    · exact Or.inr (Or.inr (Or.inr (Or.inr (Or.inr (Or.inr (Or.inr (Or.inl z)))))))
    · exact Or.inr (Or.inr (Or.inr (Or.inr (Or.inr (Or.inr (Or.inr (Or.inr (Or.inr ⟨z.1, by omega, by omega⟩))))))))
  · rcases z with z | z
    · exact Or.inl z
    · exact Or.inr (Or.inr z)
  · refine Vl_tx V (fun j h7 h9 h10 hj => row j h7 h9 h10 (by omega)) ?_ ?_ hx
    · rw [e7]; exact ⟨by decide, by decide⟩
    · intro q hq
      rw [e7] at hq
      exact absurd hq (Nat.not_lt_zero q)
  · refine RI_tx I.R.i (fun j h7 h9 h10 hj => row j h7 h9 h10 (by omega)) (fun k j hk k5 hkj => e.2.2.2 _ _ (by omega) (fun z => by omega)) (h12.trans e7.symm)
  · intro j hj
    rw [e7] at hj
    exact absurd hj (Nat.not_lt_zero j)
  · rw [e.2.2.2 _ _ (by omega) (fun z => by omega)]
    exact I.K b hb
theorem c_text {x : Int32} {h : hp_T} (I : Inv h) : wp_X7_text x h (fun r1 h1 => wp_X8_text x h1 (fun r2 h2 => r1 = r2 ∧ Inv h2)) := by
  have V := I.V
  have hw := I.n
  obtain ⟨L, L60, e7⟩ := rg_nI 60 V.2.2.2.2.2.1 rfl (by decide)
  have e12 : hp_i h 1 12 = nI L := by rw [I.R.i.taped, e7]
  have cL : (hp_i h 106 7).toNatClampNeg = L := by rw [e7, nI_clamp (n := L) (by omega)]
  have hT0 : ∀ j, j < L → rg (hp_i h 106 (153 + j)) 0 255 := fun j hj => V.2.2.2.2.2.2.2.2.2.2.1 j (by rw [cL]; exact hj)
  have hT : ∀ j, j < L → rg (hp_i h 106 (153 + j)) 0 255 ∧ hp_i h 6 j = (hp_i h 106 (153 + j)).toInt8.toInt32 := fun j hj => ⟨hT0 j hj, I.R.t j (by rw [cL]; exact hj)⟩
  unfold wp_X7_text
  simp only [w_within, bi_0, er1]
  rw [e12]
  refine ⟨fun z => ?_, fun z => ?_⟩
  · unfold wp_X8_text
    simp only [in_0_1, bi_0]
    exact ⟨fun _ => f1 I, fun w => absurd z w⟩
  obtain ⟨u, hu1, rfl⟩ := nat_of (n := 1) (Classical.not_not.mp z) rfl
  have hu : u < 2 := by omega
  have main : wp_X5_read 6 (nI L) (thr u) h (fun r_23 h_20 => (r_23 = none → (∀ h_24, h_24 = hp_si h_20 1 12 (0 : Int32) → (wp_X8_text (nI u) h_24 (fun r2 h2 => ((-10 : Int32) - (hp_i h_24 91 6)) = r2 ∧ Inv h2)))) ∧ (∀ q_22, r_23 = some q_22 → (∀ h_27, h_27 = hp_si h_20 1 12 (0 : Int32) → (vp_in (nI u) 2) ∧ (ab_k q_22 = 4) ∧ (q_22 < hp_n h_27) ∧ (∀ h_31, h_31 = hp_sr h_27 7 u (some q_22) → (wp_X8_text (nI u) h_31 (fun r2 h2 => (1 : Int32) = r2 ∧ Inv h2)))))) := by
    refine w_read hu I.w I.2.1 L60 hT (fun ng h1 e1 n1 e6 => ⟨fun _ => ?_, fun q w => by cases w⟩) (fun g h1 h19 N w1 et => ⟨fun w => (by cases w), fun q w => ?_⟩)
    · rintro h24 rfl
      have r106 : hp_i (hp_si h1 1 12 0) 106 = hp_i h 106 := by
        rw [si_row_ne (by decide)]
        exact e1.row (by omega) (fun j z => by have z : PTx 106 j := z; omega)
      refine m_text hu r106 e7 L60 hT0 (fun _ h2 f2 r2 => ⟨by rw [hp_i_si, if_neg (by decide), e6], ?_⟩) (fun g => absurd g ng)
      have E : ex Ptx (fun a j => a = 91 ∧ j = 0) h h2 := ((e1.mono (P' := Ptx) (R' := fun a j => a = 91 ∧ j = 0) (fun a j z => by omega) (fun a j z => z)).si (Or.inl ⟨rfl, rfl⟩)).trans (f2.ex.mono (fun a j z => by omega) (fun _ _ z => z))
      have E' : ex Ptx Rtx h h2 := E.mono (fun _ _ z => z) (fun a j z => Or.inr z)
      refine Inv_tx I E' ?_ ?_ ?_ (fun j h7 h9 h10 hj => by rw [r2, ss_n h7]) (fun v hv' => VX_keep (by rw [r2, ss_n (by omega)]) (fun i hi => by rw [r2, ss_n (by omega)]) (V.2.2.2.2.2.2.2.2.2.2.2 v hv')) (fun v hv' => RXu_keep (I.R.x v hv') E' (E.2.2.1 7 v (by omega) (fun z => by omega)) (by rw [r2, ss_n (by omega)]) (fun i hi => by rw [r2, ss_n (by omega)]))
      · rw [f2.n]
        show hp_n h1 % 3 = 0
        rw [n1]
        exact I.2.1
      · rw [f2.2 1 12 (by omega), hp_i_si, if_pos ⟨rfl, rfl⟩]
      · rw [r2, ss_i]
    · obtain rfl := Option.some.inj w
      obtain ⟨e1, n1, r0, r1, l1, l2, it⟩ := N
      obtain ⟨k4, k16', k17'⟩ := ab_k4 I.n I.2.1
      rintro h27 rfl
      refine ⟨vp_in_nI hu (by decide), k4, by show hp_n h < hp_n h1; omega, ?_⟩
      rintro h31 rfl
      have r106 : hp_i (hp_sr (hp_si h1 1 12 0) 7 u (some (hp_n h))) 106 = hp_i h 106 := by
        show hp_i (hp_si h1 1 12 0) 106 = _
        rw [si_row_ne (by decide)]
        exact e1.row (by omega) (fun j z => by have z : PTx 106 j := z; omega)
      refine m_text hu r106 e7 L60 hT0 (fun ng => absurd g ng) (fun _ h2 f2 r2 => ⟨rfl, ?_⟩)
      have P : PRs (fun j => hp_i h 106 (153 + j)) L u 0 [] (sT (fun j => hp_i h 106 (153 + j)) L u) := ps_ok hu 60 5 0 0 [] (Nat.zero_le L)
      obtain ⟨b1, el, b2, b3, b4⟩ := P.2.2.2.1 g.1
      rw [List.nil_append] at b2
      generalize (sT (fun j => hp_i h 106 (153 + j)) L u).2.2 = out at it et r2 b2 l1 l2
      subst b2
      have pL := P.2.1
      have n60 : out.length ≤ 60 := by omega
      have E : ex Ptx Rtx h h2 := (((e1.mono (P' := Ptx) (R' := Rtx) (fun a j z => by omega) (fun a j z => Or.inr z)).si (Or.inl ⟨rfl, rfl⟩)).sr (Or.inl rfl)).trans (f2.ex.mono (fun a j z => by omega) (fun _ _ z => z))
      have rr : ∀ a j, a ≠ 7 → hp_r h2 a j = hp_r h1 a j := fun a j ha => by
        rw [f2.r]
        exact if_neg (fun z => ha z.1)
      have r7 : ∀ v, hp_r h2 7 v = if v = u then some (hp_n h) else hp_r h1 7 v := fun v => by
        rw [f2.r]
        show (if 7 = 7 ∧ v = u then _ else _) = _
        by_cases g : v = u
        · rw [if_pos ⟨rfl, g⟩, if_pos g]
        · rw [if_neg (fun z => g z.2), if_neg g]; rfl
      have nn : hp_n h2 = hp_n h + 3 := by
        rw [f2.n]
        exact n1
      have s9 : ∀ v, v < 2 → v ≠ u → hp_i h2 106 (9 + v) = hp_i h 106 (9 + v) := fun v hv' hn => by
        rw [r2, if_neg (by omega), if_neg (by omega), if_neg (by omega)]
      have sc : ∀ v, v < 2 → v ≠ u → ∀ i, i < 60 → hp_i h2 106 (237 + 60 * v + i) = hp_i h 106 (237 + 60 * v + i) := fun v hv' hn i hi => by
        rw [r2, if_neg (by omega), if_neg (by omega), if_neg (by omega)]
      have cu : ∀ i, i < out.length → cd (hp_i h2 106) u i = out.getD i 0 := fun i hi => by
        show hp_i h2 106 (237 + 60 * u + i) = _
        rw [r2, if_neg (by omega), if_pos (by omega)]
        congr 1; omega
      obtain ⟨rp, pos⟩ := rpn_of b3 cu
      have s9u : hp_i h2 106 (9 + u) = nI out.length := by rw [r2, if_pos rfl]
      have lh : ∀ a, hp_l h2 a = hp_l h1 a := fun a => by rw [f2.l]; rfl
      refine Inv_tx I E (by rw [nn]; have := I.2.1; omega) ?_ ?_ (fun j h7 h9 h10 hj => by rw [r2, if_neg (by omega), if_neg (by omega), if_neg h7]) (fun v hv' => ?_) (fun v hv' => ?_)
      · rw [f2.2 1 12 (by omega)]
        show hp_i (hp_si h1 1 12 0) 1 12 = 0
        rw [hp_i_si, if_pos ⟨rfl, rfl⟩]
      · rw [r2, if_neg (by omega), if_neg (by omega), if_pos rfl]
      · by_cases g2 : v = u
        · subst g2
          exact Or.inr ⟨out.length, pos, n60, s9u, rp⟩
        · exact VX_keep (s9 v hv' g2) (sc v hv' g2) (V.2.2.2.2.2.2.2.2.2.2.2 v hv')
      · by_cases g2 : v = u
        · subst g2
          refine Or.inr ⟨hp_n h, out.length, by rw [r7, if_pos rfl], k4, by omega, by rw [rr _ _ (by omega)]; exact r0, by rw [rr _ _ (by omega)]; exact r1, k16', k17', by rw [lh]; exact l1, by rw [lh]; exact l2, pos, n60, s9u, fun i hi => ?_⟩
          have ei : hp_i h2 (hp_n h + 1) i = hp_i h19 92 i := by
            rw [f2.2 _ _ (by omega)]
            show hp_i (hp_si h1 1 12 0) (hp_n h + 1) i = _
            rw [hp_i_si, if_neg (by omega)]
            exact it i hi
          rw [ei, cu i hi]
          exact et i hi
        · refine RXu_keep (I.R.x v hv') E ?_ (s9 v hv' g2) (sc v hv' g2)
          rw [r7, if_neg g2]
          exact e1.2.2.1 7 v (by omega) (fun z => by omega)
  have : u = 0 ∨ u = 1 := by omega
  rcases this with rfl | rfl
  · exact br_y rfl main
  · exact br_n (by decide) main
