/-! ===== PURE: the calls: bunks, tasks ===== -/
theorem kb_z : (List.range 6).all (fun k => kb 0 (nI k) == false) = true := by decide +kernel
theorem kb_0k {k : Nat} (hk : k < 6) : kb 0 (nI k) = false := by
  have := List.all_eq_true.mp kb_z k (List.mem_range.mpr hk)
  simpa using this
/-- a bunk is added -/
def adb (S : st_T) (km : Int32) : st_T := ss (ss (cm S (cr S) km 0 0 (-1)) (11 + 17 * cr S + 4) (-1)) 0 (S 0 + 1)
theorem adb_o {S : st_T} {km : Int32} {j : Nat} (h0 : j ≠ 0) (h : j < 11 + 17 * cr S ∨ 11 + 17 * cr S + 17 ≤ j) : adb S km j = S j := by
  unfold adb
  rw [ss_n h0, ss_n (by omega), cm_out (by omega)]
theorem adb_0 {S : st_T} {km : Int32} (hc : rg (S 0) 0 6) : adb S km 0 = nI (cr S + 1) := by
  unfold adb
  rw [ss_i]
  conv => lhs; rw [(cr_nI hc).1]
  exact nI_1 _
theorem cr_adb {S : st_T} {km : Int32} (hc : rg (S 0) 0 6) : cr (adb S km) = cr S + 1 := by
  have := (cr_nI hc).2
  show (adb S km 0).toNatClampNeg = _
  rw [adb_0 hc, nI_clamp (by omega)]
theorem rg_lit {x : Int32} {a b : Int} (h1 : a ≤ x.toInt) (h2 : x.toInt ≤ b) : rg x a b := ⟨h1, h2⟩
theorem Vl_adb {D : Int} {S : st_T} {km : Int32} (hV : Vl D S) (h6 : cr S < 6) (hk : rg km 0 69) : Vl D (adb S km) := by
  obtain ⟨a0, a1, a2, a3, a4, a7, a8, ab, ar, at', atp, ax⟩ := hV
  have a12 := en12 a1
  have o : ∀ j, (j < 11 ∨ 113 ≤ j) → j ≠ 0 → adb S km j = S j := fun j h1 h2 => adb_o h2 (by omega)
  refine ⟨?_, by rw [o 1 (by omega) (by omega)]; exact a1, by rw [o 2 (by omega) (by omega), o 1 (by omega) (by omega)]; exact a2, by rw [o 3 (by omega) (by omega)]; exact a3, by rw [o 4 (by omega) (by omega)]; exact a4, by rw [o 7 (by omega) (by omega)]; exact a7, by rw [o 8 (by omega) (by omega)]; exact a8, ?_, ?_, ?_, ?_, ?_⟩
  · rw [adb_0 a0]
    unfold rg
    rw [i_nI (by omega)]
    omega
  · intro b hb
    rw [cr_adb a0] at hb
    by_cases g : b = cr S
    · subst g
      unfold VB adb
      rw [ss_n (by omega), ss_n (by omega), ss_n (by omega), ss_n (by omega), ss_n (by omega), ss_n (by omega), ss_n (by omega), ss_i, cm_0, cm_1, cm_3]
      refine ⟨(km_d hk).1, (km_d hk).2, ⟨by decide, by decide⟩, ⟨by decide, by decide⟩, fun k hk => ?_⟩
      rw [ss_n (by omega), ss_n (by omega), cm_l hk]
      exact ⟨by decide, by decide⟩
    · have B := ab b (by omega)
      unfold VB
      rw [adb_o (by omega) (by omega), adb_o (by omega) (by omega), adb_o (by omega) (by omega), adb_o (by omega) (by omega)]
      exact ⟨B.1, B.2.1, B.2.2.1, B.2.2.2.1, fun k hk => by rw [adb_o (by omega) (by omega)]; exact B.2.2.2.2 k hk⟩
  · intro r hr
    have e : en (adb S km) = en S := by unfold en; rw [o 1 (by omega) (by omega)]
    rw [e] at hr
    rw [o _ (by omega) (by omega), o _ (by omega) (by omega)]
    exact ar r hr
  · intro t ht
    unfold VT
    rw [o (137 + 4 * t) (by omega) (by omega), o (137 + 4 * t + 1) (by omega) (by omega), o (137 + 4 * t + 2) (by omega) (by omega), o (137 + 4 * t + 3) (by omega) (by omega)]
    exact at' t ht
  · intro q hq
    rw [o 7 (by omega) (by omega)] at hq
    rw [o (153 + q) (by omega) (by omega)]
    exact atp q hq
  · intro u hu
    exact VX_eq (o _ (by omega) (by omega)) (fun j hj => o j (by omega) (by omega)) (ax u hu)
theorem c_bunk {x : Int32} {h : hp_T} (I : Inv h) : wp_X7_bunk x h (fun r1 h1 => wp_X8_bunk x h1 (fun r2 h2 => r1 = r2 ∧ Inv h2)) := by
  have V := I.V
  have C := cr_nI V.1
  have R := I.R.i
  have e0 : hp_i h 1 1 = nI (cr (hp_i h 106)) := by rw [R.crew]; exact C.1
  unfold wp_X7_bunk
  simp only [w_within, bi_0, er1, er4]
  rw [e0]
  refine ⟨fun z => ?_, fun z => ⟨fun z2 => ?_, fun z2 => ?_⟩⟩
  · unfold wp_X8_bunk
    simp only [x_isMan, bi_0]
    exact ⟨fun _ => f1 I, fun y => absurd z y⟩
  · have hlt : cr (hp_i h 106) < 6 := (nI_ltI (b := 6) (by omega) (by decide)).mp z2
    have zk := rg_of (Classical.not_not.mp z) (A := 0) (B := 69) rfl rfl
    generalize hcq : cr (hp_i h 106) = c at *
    unfold wp_X2_addBunk
    rw [e0, nI_clamp (n := c) (by omega)]
    refine ⟨vp_in_nI hlt (by decide), ?_⟩
    refine w_settle (I.K c hlt) ?_
    intro h1 f1 s0 s1 s2 s3 s4 sv sl
    rw [f1.2 1 1 (by omega), e0, nI_clamp (n := c) (by omega)]
    refine ⟨vp_in_nI hlt (by decide), ?_⟩
    rintro h2 rfl
    rw [hp_i_si, if_neg (show ¬ (1 = 1 + 8 + 3 * c ∧ 1 = 4) by omega), f1.2 1 1 (by omega), e0, show nI c + 1 = nI (c + 1) from nI_1 c]
    rintro h3 rfl
    rw [hp_i_si, if_pos ⟨rfl, rfl⟩, show nI (c + 1) - 1 = nI c from nI_pred c]
    have f3 : fr (fun a j => FB (1 + 8 + 3 * c) a j ∨ (a = 1 ∧ j = 1)) h (hp_si (hp_si h1 (1 + 8 + 3 * c) 4 (-1)) 1 1 (nI (c + 1))) := ((f1.mono fun a j z => Or.inl z).si (Or.inl (Or.inl rfl))).si (Or.inr ⟨rfl, rfl⟩)
    have eadb : adb (hp_i h 106) x = ss (ss (cm (hp_i h 106) c x 0 0 (-1)) (11 + 17 * c + 4) (-1)) 0 (nI (c + 1)) := by
      have : hp_i h 106 0 + 1 = nI (c + 1) := by rw [C.1]; exact nI_1 c
      unfold adb
      rw [hcq, this]
    have R3 : RI (hp_si (hp_si h1 (1 + 8 + 3 * c) 4 (-1)) 1 1 (nI (c + 1))) 1 (adb (hp_i h 106) x) := by
      have o5 : ∀ w, hp_i (hp_si (hp_si h1 (1 + 8 + 3 * c) 4 (-1)) 1 1 (nI (c + 1))) (1 + 8 + 3 * c) w = if w = 4 then -1 else hp_i h1 (1 + 8 + 3 * c) w := fun w => by
        rw [hp_i_si, if_neg (by omega), hp_i_si]
        by_cases g : w = 4
        · rw [if_pos ⟨rfl, g⟩, if_pos g]
        · rw [if_neg (fun y => g y.2), if_neg g]
      refine RI_split hlt ?_ ?_ ?_ ?_
      · intro i k j hL hv hi
        have L0 : Lc 0 0 1 := Or.inl ⟨rfl, Or.inl ⟨rfl, rfl⟩⟩
        by_cases g : i = 0
        · subst g
          obtain ⟨rfl, rfl⟩ := Lc_fn hL L0
          rw [hp_i_si, if_pos ⟨rfl, rfl⟩, adb_0 V.1, hcq]
        · obtain ⟨a1, a2, a3⟩ := Lc_b hL hlt hi
          rw [f3.2 (1 + k) j (by
            intro y
            rcases y with y | y
            · omega
            · have : k = 0 := by omega
              subst this
              have e := y.2
              subst e
              exact g (Lc_in hL L0)), adb_o g (by rw [hcq]; omega)]
          refine R i k j hL ?_
          obtain ⟨v1, v2, v3⟩ := hv
          refine ⟨fun b hb h1 h2 => ?_, fun r hr h1 h2 => ?_, fun q hq h1 => ?_⟩
          · have := v1 b hb h1 h2
            rw [cr_adb V.1, hcq] at this
            rw [hcq]
            omega
          · have := v2 r hr h1 h2
            unfold en at this ⊢
            rw [adb_o (by omega) (by rw [hcq]; omega)] at this
            exact this
          · have := v3 q hq h1
            unfold wt at this ⊢
            rw [adb_o (by omega) (by rw [hcq]; omega)] at this
            exact this
      · intro w hw
        rw [o5, eadb, ss_n (by omega)]
        rcases (show w = 0 ∨ w = 1 ∨ w = 2 ∨ w = 3 ∨ w = 4 by omega) with rfl | rfl | rfl | rfl | rfl
        · rw [if_neg (by omega), s0, ss_n (by omega)]; exact cm_0.symm
        · rw [if_neg (by omega), s1, ss_n (by omega), cm_1]
        · rw [if_neg (by omega), s2, ss_n (by omega), cm_2]
        · rw [if_neg (by omega), s3, ss_n (by omega), cm_3]; rfl
        · rw [if_pos rfl, ss_i]
      · intro k hk
        rw [hp_i_si, if_neg (by omega), hp_i_si, if_neg (by omega), sv k hk, eadb, ss_n (by omega), ss_n (by omega), cm_v hk, kb_0k hk]
        rfl
      · intro k hk
        rw [hp_i_si, if_neg (by omega), hp_i_si, if_neg (by omega), sl k hk, eadb, ss_n (by omega), ss_n (by omega), cm_l hk]
    have K3 : RK (hp_si (hp_si h1 (1 + 8 + 3 * c) 4 (-1)) 1 1 (nI (c + 1))) := by
      intro b hb
      rw [hp_i_si, if_neg (by omega), hp_i_si, if_neg (by omega)]
      by_cases g : b = c
      · subst g; rw [s3]; exact ⟨by decide, by decide⟩
      · rw [f1.2 _ _ (by omega)]; exact I.K b hb
    generalize hp_si (hp_si h1 (1 + 8 + 3 * c) 4 (-1)) 1 1 (nI (c + 1)) = h3 at f3 R3 K3 ⊢
    have e106 : hp_i h3 106 = hp_i h 106 := by
      funext j
      exact f3.2 106 j (by omega)
    unfold wp_X8_bunk
    simp only [x_isMan, bi_0]
    rw [e106, C.1]
    refine ⟨fun y => absurd y z, fun _ => ⟨fun y => absurd y (by rw [show (6 : Int32) = nI 6 from rfl, nI_eq (by omega) (by omega)]; omega), fun _ => ?_⟩⟩
    refine m_comes hlt e106 ?_
    intro h4 f4 e4
    rw [x_at 4 (vp_in_nI hlt (by decide)) (show (4 : Int32) = nI 4 from rfl) (by decide), nI_clamp (n := c) (by omega), nI_clamp (n := 11 + 17 * c + 4) (by omega)]
    refine ⟨vp_in_nI (by omega) (by decide), ?_⟩
    rintro h5 rfl
    rw [hp_i_si, if_neg (by omega), e4, cm_out (by omega), C.1, show nI c + 1 = nI (c + 1) from nI_1 c]
    rintro h6 rfl
    have e : hp_i (hp_si (hp_si h4 106 (11 + 17 * c + 4) (-1)) 106 0 (nI (c + 1))) 106 = adb (hp_i h 106) x := by
      rw [si_row, si_row, e4, eadb]
    have f6 : fr P106 h3 (hp_si (hp_si h4 106 (11 + 17 * c + 4) (-1)) 106 0 (nI (c + 1))) := (f4.si rfl).si rfl
    refine ⟨rfl, Inv_w I ((f3.mono fun a j z => ?_).trans (f6.mono fun a j z => Or.inr z)) ?_ ?_ ?_ ?_⟩
    · rcases z with z | z
      · exact Or.inl (by omega)
      · exact Or.inl (by omega)
    · rw [e]; exact Vl_adb V (by rw [hcq]; exact hlt) zk
    · rw [e]; exact R3.fr f6 (fun a j h1 h2 z => by have z : a = 106 := z; omega)
    · intro j hj
      rw [e, adb_o (by omega) (by rw [hcq]; omega)]
    · exact RK_fr K3 f6 (fun b hb z => by have z : 1 + 8 + 3 * b = 106 := z; omega)
  · have hlt : cr (hp_i h 106) = 6 := by
      have : ¬ cr (hp_i h 106) < 6 := fun y => z2 ((nI_ltI (b := 6) (by omega) (by decide)).mpr y)
      omega
    unfold wp_X8_bunk
    simp only [x_isMan, bi_0]
    rw [er_i (by decide), C.1, hlt]
    exact ⟨fun w => absurd w z, fun _ => ⟨fun _ => f4 I, fun w => absurd rfl w⟩⟩
/-- what is told of a man -/
def mv (S : st_T) (b w : Nat) : Int32 := if w < 5 then S (11 + 17 * b + w) else if w = 5 then py S b else if w < 18 then S (11 + 17 * b + (w - 1)) else nd S b (nI (w - 18))
theorem w_ofMan {h : hp_T} {p b w : Nat} {S : st_T} {D : Int} {Q : Int32 → hp_T → Prop} (hV : Vl D S) (R : Rl h p S) (hb : b < cr S) (hw : w < 24) (hQ : ∀ h1, fr PK h h1 → Q (mv S b w) h1) : wp_X2_ofMan p (nI b) (nI w) h Q := by
  have h6 : b < 6 := Nat.lt_of_lt_of_le hb (cr6 hV.1)
  have hVb := hV.2.2.2.2.2.2.2.1 b hb
  have hX := hV.2.2.2.2.2.2.2.2.2.2.2
  unfold wp_X2_ofMan
  rw [nI_clamp (n := b) (by omega)]
  have q := hQ h fr.refl
  have neq : ∀ n : Nat, n < 24 → w ≠ n → ¬ nI w = nI n := fun n hn h => by rw [nI_eq (by omega) (by omega)]; exact h
  refine ⟨vp_in_nI h6 (by decide), fun e => ?_, fun e0 => ⟨fun e => ?_, fun e1 => ⟨fun e => ?_, fun e2 => ⟨fun e => ?_, fun e3 => ⟨fun e => ?_, fun e4 => ⟨fun e => ?_, fun e5 => ?_⟩⟩⟩⟩⟩⟩
  · have e : w = 0 := (nI_eq (b := 0) (by omega) (by decide)).mp e
    subst e
    rw [R.i.bk0 hb h6]; exact q
  · have e : w = 1 := (nI_eq (b := 1) (by omega) (by decide)).mp e
    subst e
    rw [R.i.bk 1 hb h6 (by decide)]; exact q
  · have e : w = 2 := (nI_eq (b := 2) (by omega) (by decide)).mp e
    subst e
    rw [R.i.bk 2 hb h6 (by decide)]; exact q
  · have e : w = 3 := (nI_eq (b := 3) (by omega) (by decide)).mp e
    subst e
    rw [R.i.bk 3 hb h6 (by decide)]; exact q
  · have e : w = 4 := (nI_eq (b := 4) (by omega) (by decide)).mp e
    subst e
    rw [R.i.bk 4 hb h6 (by decide)]; exact q
  · have e : w = 5 := (nI_eq (b := 5) (by omega) (by decide)).mp e
    subst e
    exact w_pay R.i R.x hb h6 hVb (hX 1 (by decide)) hQ
  · have w6 : 6 ≤ w := by
      rcases Nat.lt_or_ge w 6 with g | g
      · rcases (show w = 0 ∨ w = 1 ∨ w = 2 ∨ w = 3 ∨ w = 4 ∨ w = 5 by omega) with rfl | rfl | rfl | rfl | rfl | rfl
        · exact absurd rfl e0
        · exact absurd rfl e1
        · exact absurd rfl e2
        · exact absurd rfl e3
        · exact absurd rfl e4
        · exact absurd rfl e5
      · exact g
    have d6 : nI w / 6 = nI (w / 6) := pk_div (d := 6) (by omega) (by decide) (by decide)
    have r6 : nI w - nI w / 6 * 6 = nI (w % 6) := pk_rem (d := 6) (by omega) (by decide) (by decide)
    unfold wp_X2_ofKnack
    rw [d6] at r6 ⊢
    rw [r6, nI_clamp (n := w % 6) (by omega)]
    have v6 : vp_in (nI (w % 6)) 6 := vp_in_nI (by omega) (by decide)
    refine ⟨fun e => ⟨v6, ?_⟩, fun n1 => ⟨fun e => ⟨v6, ?_⟩, fun n2 => ?_⟩⟩
    · have e : w / 6 = 1 := (nI_eq (b := 1) (by omega) (by decide)).mp e
      rw [R.i.ver hb h6 (by omega)]
      unfold mv at q
      rw [if_neg (by omega), if_neg (by omega), if_pos (by omega), show 11 + 17 * b + (w - 1) = 11 + 17 * b + 5 + w % 6 by omega] at q
      exact q
    · have e : w / 6 = 2 := (nI_eq (b := 2) (by omega) (by decide)).mp e
      rw [R.i.les hb h6 (by omega)]
      unfold mv at q
      rw [if_neg (by omega), if_neg (by omega), if_pos (by omega), show 11 + 17 * b + (w - 1) = 11 + 17 * b + 11 + w % 6 by omega] at q
      exact q
    · have n1 : w / 6 ≠ 1 := fun y => n1 (by rw [y]; rfl)
      have n2 : w / 6 ≠ 2 := fun y => n2 (by rw [y]; rfl)
      have em : mv S b w = nd S b (nI (w % 6)) := by
        unfold mv
        rw [if_neg (by omega), if_neg (by omega), if_neg (by omega)]
        congr 2; omega
      rw [em] at hQ
      exact w_needs R.i R.x hb h6 hVb (hX 0 (by decide)) hQ
theorem m_ofMan {h : hp_T} {b w : Nat} {S : st_T} {D : Int} {Q : Int32 → hp_T → Prop} (hV : Vl D S) (hS : hp_i h 106 = S) (hb : b < cr S) (hw : w < 24) (hQ : ∀ h1, fr P110 h h1 → Q (mv S b w) h1) : wp_X8_ofMan (nI b) (nI w) h Q := by
  have h6 : b < 6 := Nat.lt_of_lt_of_le hb (cr6 hV.1)
  have hVb := hV.2.2.2.2.2.2.2.1 b hb
  have hX := hV.2.2.2.2.2.2.2.2.2.2.2
  have vb : vp_in (nI b) 6 := vp_in_nI h6 (by decide)
  have bc : (nI b).toNatClampNeg = b := nI_clamp (by omega)
  unfold wp_X8_ofMan
  have q := hQ h fr.refl
  refine ⟨fun g5 => ⟨fun e => ?_, fun e5 => ⟨fun g18 => ?_, fun l18 => ?_⟩⟩, fun l5 => ?_⟩
  · have e : w = 5 := (nI_eq (b := 5) (by omega) (by decide)).mp e
    subst e
    refine m_wagesOf vb hS (by rw [bc]; exact hVb.2.2.1) (hX 1 (by decide)) ?_
    rw [bc]; exact hQ
  · have g18 : 18 ≤ w := (nI_leI (a := 18) (by decide) (by omega)).mp g18
    rw [show nI w - 18 = nI (w - 18) from pk_sub (b := 18) g18]
    refine m_needs vb hS (by rw [bc]; exact hVb.2.2.1) (hX 0 (by decide)) ?_
    rw [bc]
    have em : mv S b w = nd S b (nI (w - 18)) := by unfold mv; rw [if_neg (by omega), if_neg (by omega), if_neg (by omega)]
    rw [em] at hQ
    exact hQ
  · have g5 : 5 ≤ w := (nI_leI (a := 5) (by decide) (by omega)).mp g5
    have l18 : w < 18 := by
      rcases Nat.lt_or_ge w 18 with g | g
      · exact g
      · exact absurd ((nI_leI (a := 18) (by decide) (by omega)).mpr g) l18
    have e5 : w ≠ 5 := fun y => e5 (by rw [y]; rfl)
    rw [show nI w - 1 = nI (w - 1) from pk_sub (b := 1) (by omega), x_its (w - 1) vb rfl (by omega), bc, hS]
    unfold mv at q
    rw [if_neg (by omega), if_neg e5, if_pos l18] at q
    exact q
  · have l5 : w < 5 := by
      rcases Nat.lt_or_ge w 5 with g | g
      · exact g
      · exact absurd ((nI_leI (a := 5) (by decide) (by omega)).mpr g) l5
    rw [x_its w vb rfl (by omega), bc, hS]
    unfold mv at q
    rw [if_pos l5] at q
    exact q
theorem bunk_of {x : Int32} {S : st_T} (hc : rg (S 0) 0 6) (h : 0 ≤ x ∧ x ≤ S 0 - 1) : ∃ b, b < cr S ∧ x = nI b := by
  have C := cr_nI hc
  rw [i_le, i_le, C.1, i_sub (by rw [i_nI (by omega)]; have : (1 : Int32).toInt = 1 := rfl; omega) (by rw [i_nI (by omega)]; have : (1 : Int32).toInt = 1 := rfl; omega), i_nI (by omega)] at h
  have e0 : (0 : Int32).toInt = 0 := rfl
  have e1 : (1 : Int32).toInt = 1 := rfl
  exact ⟨x.toInt.toNat, by omega, by rw [i_eq, i_nI (by omega)]; omega⟩
theorem nat_of {x hi : Int32} {n : Nat} (h : 0 ≤ x ∧ x ≤ hi) (hh : hi.toInt = n) : ∃ w, w ≤ n ∧ x = nI w := by
  rw [i_le, i_le] at h
  have e0 : (0 : Int32).toInt = 0 := rfl
  have := Int32.toInt_lt x
  exact ⟨x.toInt.toNat, by omega, by rw [i_eq, i_nI (by omega)]; omega⟩
/-- what is not the ship's -/
theorem Inv_k {h h2 : hp_T} (I : Inv h) (f : fr (fun a j => ab_k a = 17 ∨ a = 110) h h2) : Inv h2 := by
  have hw := I.n
  have e : ex (fun a j => ab_k a = 17 ∨ a = 110) RG h h2 := f.ex
  have o : ∀ (a j : Nat), (ab_k a = 17 ∨ a = 110) → (117 ≤ a ∨ a = 110) ∧ ab_k a ≠ 16 := fun a j z => by
    rcases z with z | rfl
    · exact ⟨Or.inl (k17 z), by rw [z]; decide⟩
    · exact ⟨Or.inr rfl, by decide⟩
  refine I.gen (e.mono (fun a j z => ?_) (fun _ _ z => z)) (by rw [f.n]; exact I.2.1) (I.2.2.1.ex (R := fun _ _ => False) hw f.ex (fun a j z => ⟨by have := (o a j z).1; omega, by have := (o a j z).1; omega, (o a j z).2⟩) (fun _ _ z => absurd z id)) (I.e.ex hw e (fun a j z => by have := (o a j z).1; omega)) (fun j hj => ?_)
  · rcases z with z | z
    · exact Or.inr (Or.inr (Or.inl z))
    · exact Or.inr (Or.inr (Or.inr (Or.inr (Or.inr (Or.inr (Or.inl z))))))
  · rw [f.2 106 j (fun z => by have := (o _ j z).1; omega), f.2 108 j (fun z => by have := (o _ j z).1; omega)]
    exact ⟨(I.zr j hj).1, (I.zr j hj).2.2⟩
theorem c_bunkIs {x y : Int32} {h : hp_T} (I : Inv h) : wp_X7_bunkIs x y h (fun r1 h1 => wp_X8_bunkIs x y h1 (fun r2 h2 => r1 = r2 ∧ Inv h2)) := by
  have V := I.V
  unfold wp_X7_bunkIs
  simp only [w_isBunk, w_within, bi_0, er1]
  rw [I.crew]
  refine ⟨fun z => ?_, fun z => ⟨fun z2 => ?_, fun z2 => ?_⟩⟩
  · unfold wp_X8_bunkIs
    simp only [x_isBunk, in_0_23, bi_0]
    rw [er_i (by decide)]
    exact ⟨fun _ => f1 I, fun w => absurd z w⟩
  · unfold wp_X8_bunkIs
    simp only [x_isBunk, in_0_23, bi_0]
    rw [er_i (by decide)]
    exact ⟨fun w => absurd w z, fun _ => ⟨fun _ => f1 I, fun w => absurd z2 w⟩⟩
  · obtain ⟨b, hb, rfl⟩ := bunk_of V.1 (Classical.not_not.mp z)
    obtain ⟨w, hw, rfl⟩ := nat_of (n := 23) (Classical.not_not.mp z2) rfl
    refine w_ofMan V I.R hb (by omega) ?_
    intro h1 f1
    have e106 : hp_i h1 106 = hp_i h 106 := by
      funext j
      exact f1.2 106 j (show ¬ ab_k 106 = 17 by decide)
    unfold wp_X8_bunkIs
    simp only [x_isBunk, in_0_23, bi_0]
    rw [e106]
    refine ⟨fun w => absurd w z, fun _ => ⟨fun w => absurd w z2, fun _ => ?_⟩⟩
    refine m_ofMan V e106 hb (by omega) ?_
    intro h2 f2
    exact ⟨rfl, Inv_k I ((f1.mono fun a j z => Or.inl z).trans (f2.mono fun a j z => Or.inr z))⟩
