/-! ===== PURE: the calls: tasks, texts untold, began, changes, handed ===== -/
theorem c_task {x y v : Int32} {h : hp_T} (I : Inv h) : wp_X7_task x y v h (fun r1 h1 => wp_X8_task x y v h1 (fun r2 h2 => r1 = r2 ∧ Inv h2)) := by
  have V := I.V
  unfold wp_X7_task
  simp only [w_isKnack, w_within, bi_0, er1]
  have bad : ∀ h', ¬ ((0 ≤ x ∧ x ≤ 3) ∧ (0 ≤ y ∧ y ≤ 5) ∧ 0 ≤ v ∧ v ≤ 6) → wp_X8_errs (-1000000001) h' (fun r2 h2 => (-1000000001 : Int32) = r2 ∧ Inv h2) → wp_X8_task x y v h' (fun r2 h2 => (-1000000001 : Int32) = r2 ∧ Inv h2) := by
    intro h' z f
    unfold wp_X8_task
    simp only [x_isKnack, in_0_3, in_0_6, bi_0]
    exact ⟨fun _ => f, fun w1 => ⟨fun _ => f, fun w2 => ⟨fun _ => f, fun w3 => absurd ⟨Classical.not_not.mp w1, Classical.not_not.mp w2, Classical.not_not.mp w3⟩ z⟩⟩⟩
  refine ⟨fun z => bad _ (fun q => z q.1) (f1 I), fun z => ⟨fun z2 => bad _ (fun q => z2 q.2.1) (f1 I), fun z2 => ⟨fun z3 => bad _ (fun q => z3 q.2.2) (f1 I), fun z3 => ?_⟩⟩⟩
  obtain ⟨t, ht, rfl⟩ := nat_of (n := 3) (Classical.not_not.mp z) rfl
  have t4 : t < 4 := by omega
  have vt : vp_in (nI t) 4 := vp_in_nI t4 (by decide)
  have tc : (nI t).toNatClampNeg = t := nI_clamp (by omega)
  have ry' := rg_of (Classical.not_not.mp z2) (A := 0) (B := 5) rfl rfl
  have rv' := rg_of (Classical.not_not.mp z3) (A := 0) (B := 6) rfl rfl
  rw [tc]
  refine ⟨vt, ?_⟩
  rintro h1 rfl
  rintro h2 rfl
  have R2 : RI (hp_si (hp_si h (1 + 26 + t) 0 y) (1 + 26 + t) 1 v) 1 (ss (ss (hp_i h 106) (137 + 4 * t + 0) y) (137 + 4 * t + 1) v) := (I.R.i.wtk 0 t4 (by decide)).wtk 1 t4 (by decide)
  have f2 : fr (fun a j => a = 1 + 26 + t) h (hp_si (hp_si h (1 + 26 + t) 0 y) (1 + 26 + t) 1 v) := (fr_si (P := fun a j => a = 1 + 26 + t) rfl).si rfl
  have e106 : hp_i (hp_si (hp_si h (1 + 26 + t) 0 y) (1 + 26 + t) 1 v) 106 = hp_i h 106 := by rw [si_row_ne (by omega), si_row_ne (by omega)]
  rw [I.R.i.tk0 t4, I.R.i.tk 1 t4 (by decide)]
  generalize hp_si (hp_si h (1 + 26 + t) 0 y) (1 + 26 + t) 1 v = h2 at R2 f2 e106 ⊢
  unfold wp_X8_task
  simp only [x_isKnack, in_0_3, in_0_6, bi_0]
  rw [x_ofTask 0 vt (show (0 : Int32) = nI 0 from rfl) (by decide), x_ofTask 1 vt (show (1 : Int32) = nI 1 from rfl) (by decide), x_where 0 vt (show (0 : Int32) = nI 0 from rfl) (by decide), tc, nI_clamp (n := 137 + 4 * t + 0) (by omega), e106]
  refine ⟨fun w => absurd w z, fun _ => ⟨fun w => absurd w z2, fun _ => ⟨fun w => absurd w z3, fun _ => ⟨vp_in_nI (by omega) (by decide), ?_⟩⟩⟩⟩
  rintro h3 rfl
  rw [x_where 1 vt (show (1 : Int32) = nI 1 from rfl) (by decide), tc, nI_clamp (n := 137 + 4 * t + 1) (by omega)]
  refine ⟨vp_in_nI (by omega) (by decide), ?_⟩
  rintro h4 rfl
  have e : hp_i (hp_si (hp_si h2 106 (137 + 4 * t + 0) y) 106 (137 + 4 * t + 1) v) 106 = ss (ss (hp_i h 106) (137 + 4 * t + 0) y) (137 + 4 * t + 1) v := by rw [si_row, si_row, e106]
  have f4 : fr P106 h2 (hp_si (hp_si h2 106 (137 + 4 * t + 0) y) 106 (137 + 4 * t + 1) v) := (fr_si (P := P106) rfl).si rfl
  refine ⟨rfl, Inv_w I ((f2.mono fun a j z => Or.inl (by omega)).trans (f4.mono fun a j z => Or.inr z)) ?_ ?_ ?_ ?_⟩
  · rw [e]
    refine Vl_tasks V (fun i hi => by rw [ss_n (by omega), ss_n (by omega)]) (fun t' ht' => ?_)
    have T := V.2.2.2.2.2.2.2.2.2.1 t' ht'
    unfold VT
    rw [ss_n (j := 137 + 4 * t' + 2) (by omega), ss_n (j := 137 + 4 * t' + 2) (by omega), ss_n (j := 137 + 4 * t' + 3) (by omega), ss_n (j := 137 + 4 * t' + 3) (by omega)]
    refine ⟨?_, ?_, T.2.2⟩
    · by_cases g : t' = t
      · subst g
        rw [ss_n (by omega)]
        show rg (ss _ (137 + 4 * t') y (137 + 4 * t')) 0 5
        rw [ss_i]; exact ry'
      · rw [ss_n (by omega), ss_n (by omega)]; exact T.1
    · by_cases g : t' = t
      · subst g
        rw [ss_i]; exact rv'
      · rw [ss_n (by omega), ss_n (by omega)]; exact T.2.1
  · rw [e]; exact R2.fr f4 (fun a j h1 h2 z => by have z : a = 106 := z; omega)
  · intro j hj
    rw [e, ss_n (by omega), ss_n (by omega)]
  · exact RK_fr (RK_fr I.K f2 (fun b hb z => by omega)) f4 (fun b hb z => by have z : 1 + 8 + 3 * b = 106 := z; omega)
/-- what is told of a task -/
def tv (S : st_T) (t w : Nat) : Int32 := if w < 2 then S (137 + 4 * t + w) else if w = 2 then kns S (S (137 + 4 * t)) else S (137 + 4 * t + (w - 1))
theorem w_ofTask {h : hp_T} {p t w : Nat} {S : st_T} {D : Int} {Q : Int32 → Prop} (hV : Vl D S) (R : RI h p S) (ht : t < 4) (hw : w < 5) (hQ : Q (tv S t w)) : wp_X2_ofTask p (nI t) (nI w) h Q := by
  have hT := hV.2.2.2.2.2.2.2.2.2.1 t ht
  unfold wp_X2_ofTask
  rw [nI_clamp (n := t) (by omega), R.tk0 ht, R.tk 1 ht (by decide), R.tk 2 ht (by decide), R.tk 3 ht (by decide)]
  unfold tv at hQ
  refine ⟨vp_in_nI ht (by decide), fun e => ?_, fun e0 => ⟨fun e => ?_, fun e1 => ⟨fun e => ?_, fun e2 => ⟨fun e => ?_, fun e3 => ?_⟩⟩⟩⟩
  · have e : w = 0 := (nI_eq (b := 0) (by omega) (by decide)).mp e
    subst e
    rw [if_pos (by decide)] at hQ
    exact hQ
  · have e : w = 1 := (nI_eq (b := 1) (by omega) (by decide)).mp e
    subst e
    rw [if_pos (by decide)] at hQ
    exact hQ
  · have e : w = 2 := (nI_eq (b := 2) (by omega) (by decide)).mp e
    subst e
    rw [if_neg (by decide), if_pos rfl] at hQ
    exact w_knowers hV.1 ⟨by rw [i_le]; exact hT.1.1, by rw [i_le]; exact hT.1.2⟩ R hQ
  · have e : w = 3 := (nI_eq (b := 3) (by omega) (by decide)).mp e
    subst e
    rw [if_neg (by decide), if_neg (by decide)] at hQ
    exact hQ
  · have e : w = 4 := by
      rcases (show w = 0 ∨ w = 1 ∨ w = 2 ∨ w = 3 ∨ w = 4 by omega) with rfl | rfl | rfl | rfl | rfl
      · exact absurd rfl e0
      · exact absurd rfl e1
      · exact absurd rfl e2
      · exact absurd rfl e3
      · rfl
    subst e
    rw [if_neg (by decide), if_neg (by decide)] at hQ
    exact hQ
theorem m_toldTask {h : hp_T} {t w : Nat} {S : st_T} {D : Int} {Q : Int32 → Prop} (hV : Vl D S) (hS : hp_i h 106 = S) (ht : t < 4) (hw : w < 5) (hQ : Q (tv S t w)) : wp_X8_toldTask (nI t) (nI w) h Q := by
  have vt : vp_in (nI t) 4 := vp_in_nI ht (by decide)
  have tc : (nI t).toNatClampNeg = t := nI_clamp (by omega)
  unfold wp_X8_toldTask
  rw [x_ofTask 0 vt (show (0 : Int32) = nI 0 from rfl) (by decide), tc, hS]
  unfold tv at hQ
  refine ⟨fun g2 => ⟨fun e => ?_, fun e => ?_⟩, fun l2 => ?_⟩
  · have e : w = 2 := (nI_eq (b := 2) (by omega) (by decide)).mp e
    subst e
    rw [if_neg (by decide), if_pos rfl] at hQ
    exact m_knowers hV.1 hS hQ
  · have g2 : 2 ≤ w := (nI_leI (a := 2) (by decide) (by omega)).mp g2
    have e : w ≠ 2 := fun y => e (by rw [y]; rfl)
    rw [if_neg (by omega), if_neg e] at hQ
    rw [show nI w - 1 = nI (w - 1) from pk_sub (b := 1) (by omega), x_ofTask (w - 1) vt rfl (by omega), tc, hS]
    exact hQ
  · have l2 : w < 2 := by
      rcases Nat.lt_or_ge w 2 with g | g
      · exact g
      · exact absurd ((nI_leI (a := 2) (by decide) (by omega)).mpr g) l2
    rw [if_pos l2] at hQ
    rw [x_ofTask w vt rfl (by omega), tc, hS]
    exact hQ
theorem c_taskIs {x y : Int32} {h : hp_T} (I : Inv h) : wp_X7_taskIs x y h (fun r1 h1 => wp_X8_taskIs x y h1 (fun r2 h2 => r1 = r2 ∧ Inv h2)) := by
  have V := I.V
  unfold wp_X7_taskIs
  simp only [w_within, bi_0, er1]
  refine ⟨fun z => ?_, fun z => ⟨fun z2 => ?_, fun z2 => ?_⟩⟩
  · unfold wp_X8_taskIs
    simp only [in_0_3, in_0_4, bi_0]
    exact ⟨fun _ => f1 I, fun w => absurd z w⟩
  · unfold wp_X8_taskIs
    simp only [in_0_3, in_0_4, bi_0]
    exact ⟨fun w => absurd w z, fun _ => ⟨fun _ => f1 I, fun w => absurd z2 w⟩⟩
  · obtain ⟨t, ht, rfl⟩ := nat_of (n := 3) (Classical.not_not.mp z) rfl
    obtain ⟨w, hw, rfl⟩ := nat_of (n := 4) (Classical.not_not.mp z2) rfl
    refine w_ofTask V I.R.i (by omega) (by omega) ?_
    unfold wp_X8_taskIs
    simp only [in_0_3, in_0_4, bi_0]
    refine ⟨fun w => absurd w z, fun _ => ⟨fun w => absurd w z2, fun _ => ?_⟩⟩
    exact m_toldTask V rfl (by omega) (by omega) ⟨rfl, I⟩
/-- a text is untold -/
theorem Inv_un {h : hp_T} {u : Nat} (I : Inv h) (hu : u < 2) : Inv (hp_si (hp_sr h (1 + 6) u none) 106 (9 + u) 0) := by
  have V := I.V
  have hw := I.n
  have e : ex (fun a j => a = 106) RG h (hp_si (hp_sr h (1 + 6) u none) 106 (9 + u) 0) := (ex_sr (Or.inl rfl)).si rfl
  have er : hp_i (hp_si (hp_sr h (1 + 6) u none) 106 (9 + u) 0) 106 = ss (hp_i h 106) (9 + u) 0 := by rw [si_row]; rfl
  have ei : ∀ a j, a ≠ 106 → hp_i (hp_si (hp_sr h (1 + 6) u none) 106 (9 + u) 0) a j = hp_i h a j := fun a j ha => by rw [hp_i_si, if_neg (fun w => ha w.1)]; rfl
  have err : ∀ a j, hp_r (hp_si (hp_sr h (1 + 6) u none) 106 (9 + u) 0) a j = if a = 1 + 6 ∧ j = u then none else hp_r h a j := fun a j => rfl
  have o : ∀ j, j ≠ 9 + u → ss (hp_i h 106) (9 + u) 0 j = hp_i h 106 j := fun j hj => ss_n hj
  refine I.gen (e.mono (fun a j z => Or.inr (Or.inr (Or.inr (Or.inl z)))) (fun _ _ z => z)) I.2.1 ⟨?_, ⟨?_, ?_, ?_⟩, ?_⟩ (I.e.ex hw e (fun a j z => by omega)) (fun j hj => ?_)
  · rw [er]
    obtain ⟨a0, a1, a2, a3, a4, a7, a8, ab, ar, at', atp, ax⟩ := V
    have e0 : cr (ss (hp_i h 106) (9 + u) 0) = cr (hp_i h 106) := cr_eq (o 0 (by omega))
    have e1 : en (ss (hp_i h 106) (9 + u) 0) = en (hp_i h 106) := by unfold en; rw [o 1 (by omega)]
    have c6 := cr6 a0
    refine ⟨by rw [o 0 (by omega)]; exact a0, by rw [o 1 (by omega)]; exact a1, by rw [o 2 (by omega), o 1 (by omega)]; exact a2, by rw [o 3 (by omega)]; exact a3, by rw [o 4 (by omega)]; exact a4, by rw [o 7 (by omega)]; exact a7, by rw [o 8 (by omega)]; exact a8, ?_, ?_, ?_, ?_, ?_⟩
    · intro b hb
      rw [e0] at hb
      exact VB_ss (by omega) (by omega) (ab b hb)
    · intro r hr
      rw [e1] at hr
      rw [o _ (by omega), o _ (by omega)]
      exact ar r hr
    · intro t ht
      unfold VT
      rw [o _ (by omega), o _ (by omega), o _ (by omega), o _ (by omega)]
      exact at' t ht
    · intro q hq
      rw [o 7 (by omega)] at hq
      rw [o _ (by omega)]
      exact atp q hq
    · intro u' hu'
      by_cases g : u' = u
      · subst g; exact Or.inl ss_i
      · exact VX_eq (o _ (by omega)) (fun j hj => o j (by omega)) (ax u' hu')
  · rw [er]
    intro i k j hL hv
    rw [ei _ _ (by have := (Lc_k hL).1; omega)]
    have i9 : i ≠ 9 + u := by
      rcases hL with ⟨rfl, z⟩ | ⟨b', w, hb', hw, rfl, rfl, rfl⟩ | ⟨b', w, hb', hw, rfl, rfl, rfl⟩ | ⟨b', w, hb', hw, rfl, rfl, rfl⟩ | ⟨r, hr, rfl, rfl, rfl⟩ | ⟨r, hr, rfl, rfl, rfl⟩ | ⟨t, w, ht, hw, rfl, rfl, rfl⟩ | ⟨q, hq, rfl, rfl, rfl⟩ <;> omega
    rw [o i i9]
    refine I.R.i i k j hL ?_
    rw [Lv_ss (by omega)] at hv
    exact hv
  · intro j hj
    rw [er] at hj ⊢
    rw [o 7 (by omega)] at hj
    have s7 := V.2.2.2.2.2.1
    obtain ⟨c, hc, e7⟩ := rg_nI 60 s7 rfl (by decide)
    have hj' := hj
    rw [e7, nI_clamp (n := c) (by omega)] at hj'
    rw [ei _ _ (by omega), o _ (by omega)]
    exact I.R.t j hj
  · intro u' hu'
    rw [er, err]
    by_cases g : u' = u
    · subst g
      rw [if_pos ⟨rfl, rfl⟩]
      exact Or.inl ⟨rfl, ss_i⟩
    · rw [if_neg (fun w => g w.2), o (9 + u') (by omega)]
      have ec : cd (ss (hp_i h 106) (9 + u) 0) u' = cd (hp_i h 106) u' := by funext i; exact o _ (by omega)
      rw [ec]
      rcases I.R.x u' hu' with a | ⟨q, n, b1, b2, b3, b4, b5, b6, b7, b8, b9, b10, b11, b12, b13⟩
      · exact Or.inl a
      · refine Or.inr ⟨q, n, b1, b2, b3, ?_, ?_, b6, b7, b8, b9, b10, b11, b12, fun i hi => ?_⟩
        · rw [err, if_neg (fun w => by rw [w.1] at b2; exact absurd b2 (by decide))]; exact b4
        · rw [err, if_neg (fun w => by rw [w.1] at b2; exact absurd b2 (by decide))]; exact b5
        · rw [ei _ _ (fun w => by rw [w] at b6; exact absurd b6 (by decide))]; exact b13 i hi
  · intro b hb
    rw [ei _ _ (by omega)]
    exact I.K b hb
  · rw [er, o j (by omega), ei _ _ (by decide)]
    exact ⟨(I.zr j hj).1, (I.zr j hj).2.2⟩
theorem c_untell {x : Int32} {h : hp_T} (I : Inv h) : wp_X7_untell x h (fun r1 h1 => wp_X8_untell x h1 (fun r2 h2 => r1 = r2 ∧ Inv h2)) := by
  unfold wp_X7_untell
  simp only [w_within, bi_0, er1]
  refine ⟨fun z => ?_, fun z => ?_⟩
  · unfold wp_X8_untell
    simp only [in_0_1, bi_0]
    exact ⟨fun _ => f1 I, fun w => absurd z w⟩
  · obtain ⟨u, hu, rfl⟩ := nat_of (n := 1) (Classical.not_not.mp z) rfl
    have u2 : u < 2 := by omega
    have vu : vp_in (nI u) 2 := vp_in_nI u2 (by decide)
    have uc : (nI u).toNatClampNeg = u := nI_clamp (by omega)
    have i9 : (9 : Int32) + nI u = nI (9 + u) := nI_add 9 u
    have v9 : vp_in (nI (9 + u)) 357 := vp_in_nI (by omega) (by decide)
    rw [uc]
    have go : ∀ r : Int32, ((hp_i h 106 (9 + u) ≤ 0 → r = 0) ∧ (¬ hp_i h 106 (9 + u) ≤ 0 → r = 1)) → wp_X8_untell (nI u) (hp_sr h (1 + 6) u none) (fun r2 h2 => r = r2 ∧ Inv h2) := by
      intro r ⟨r0, r1⟩
      unfold wp_X8_untell
      simp only [in_0_1, bi_0]
      rw [i9, nI_clamp (n := 9 + u) (by omega)]
      refine ⟨fun w => absurd w z, fun _ => ⟨v9, fun w => ⟨v9, ?_⟩, fun w => ⟨v9, ?_⟩⟩⟩
      · rintro h2 rfl
        exact ⟨r0 w, Inv_un I u2⟩
      · rintro h2 rfl
        exact ⟨r1 w, Inv_un I u2⟩
    refine ⟨vu, fun n => ⟨vu, ?_⟩, fun q n => ⟨vu, ?_⟩⟩
    · rintro h1 rfl
      refine go 0 ⟨fun _ => rfl, fun w => absurd ?_ w⟩
      rcases I.R.x u u2 with ⟨a, a2⟩ | ⟨q, n', b1, b2⟩
      · rw [a2]; decide
      · exact absurd (n.symm.trans b1) (by simp)
    · rintro h1 rfl
      refine go 1 ⟨fun w => absurd w ?_, fun _ => rfl⟩
      rcases I.R.x u u2 with ⟨a, a2⟩ | ⟨q, n', b1, b2, b3, b4, b5, b6, b7, b8, b9, b10, b11, b12, b13⟩
      · exact absurd (n.symm.trans a) (by simp)
      · rw [b12]; exact nI_nle b10 (by omega)
