/-! ===== PURE: the calls: counts, texts untold, the roster, tasks ===== -/
theorem w_known_L {S : st_T} {p : Nat} {h : hp_T} {Q : Int32 → Prop} (hc : rg (S 0) 0 6) (R : RI h p S) : ∀ (r i nn : Nat) (a : Int32), i + r = cr S → r < nn → Q (lp (fun b a => a ||| S (11 + 17 * b + 3)) i r a) → wp_X2_knownByAny_L4 p h Q nn a (nI i) := by
  intro r
  induction r with
  | zero =>
    intro i nn a hi hn hq
    obtain ⟨nn, rfl⟩ : ∃ m, nn = m + 1 := ⟨nn - 1, by omega⟩
    unfold wp_X2_knownByAny_L4
    rw [R.crew, (cr_nI hc).1]
    have := (cr_nI hc).2
    exact ⟨fun _ => hq, fun z => absurd (nI_le (by omega) (by omega)) z⟩
  | succ r ih =>
    intro i nn a hi hn hq
    obtain ⟨nn, rfl⟩ : ∃ m, nn = m + 1 := ⟨nn - 1, by omega⟩
    unfold wp_X2_knownByAny_L4
    have h6 := (cr_nI hc).2
    obtain ⟨v1, v2, v3⟩ := vp_nI hc (show i < cr S by omega)
    rw [R.crew, (cr_nI hc).1, v2, R.bk 3 (by omega) v3 (by decide), show nI i + 1 = nI (i + 1) from nI_1 i]
    exact ⟨fun z => absurd z (nI_ge (by omega) (by omega)), fun _ => ⟨v1, ih (i + 1) nn _ (by omega) (by omega) hq⟩⟩
theorem w_known {S : st_T} {p : Nat} {h : hp_T} {Q : Int32 → Prop} (hc : rg (S 0) 0 6) (R : RI h p S) (hq : Q (lp (fun b a => a ||| S (11 + 17 * b + 3)) 0 (cr S) 0)) : wp_X2_knownByAny p h Q :=
  ⟨cr S + 1, w_known_L hc R (cr S) 0 (cr S + 1) 0 (by omega) (by omega) hq⟩
theorem m_known_L {S : st_T} {h : hp_T} {Q : Int32 → Prop} (hc : rg (S 0) 0 6) (hS : hp_i h 106 = S) : ∀ (r i nn : Nat) (a : Int32), i + r = cr S → r < nn → Q (lp (fun b a => a ||| S (11 + 17 * b + 3)) i r a) → wp_X8_knownByAny_L4 h Q nn a (nI i) := by
  intro r
  induction r with
  | zero =>
    intro i nn a hi hn hq
    obtain ⟨nn, rfl⟩ : ∃ m, nn = m + 1 := ⟨nn - 1, by omega⟩
    unfold wp_X8_knownByAny_L4
    rw [hS, (cr_nI hc).1]
    have := (cr_nI hc).2
    exact ⟨fun _ => hq, fun z => absurd (nI_le (by omega) (by omega)) z⟩
  | succ r ih =>
    intro i nn a hi hn hq
    obtain ⟨nn, rfl⟩ : ∃ m, nn = m + 1 := ⟨nn - 1, by omega⟩
    unfold wp_X8_knownByAny_L4
    have h6 := (cr_nI hc).2
    obtain ⟨v1, v2, v3⟩ := vp_nI hc (show i < cr S by omega)
    rw [x_its3 v1, v2, hS, (cr_nI hc).1, show nI i + 1 = nI (i + 1) from nI_1 i]
    exact ⟨fun z => absurd z (nI_ge (by omega) (by omega)), fun _ => ih (i + 1) nn _ (by omega) (by omega) hq⟩
theorem m_known {S : st_T} {h : hp_T} {Q : Int32 → Prop} (hc : rg (S 0) 0 6) (hS : hp_i h 106 = S) (hq : Q (lp (fun b a => a ||| S (11 + 17 * b + 3)) 0 (cr S) 0)) : wp_X8_knownByAny h Q :=
  ⟨cr S + 1, m_known_L hc hS (cr S) 0 (cr S + 1) 0 (by omega) (by omega) hq⟩
theorem c_count {x : Int32} {h : hp_T} (I : Inv h) : wp_X7_count x h (fun r1 h1 => wp_X8_count x h1 (fun r2 h2 => r1 = r2 ∧ Inv h2)) := by
  obtain ⟨n, n1, n2, n3, n4⟩ := I.tr
  unfold wp_X7_count
  refine ⟨fun e0 => ?_, fun e0 => ⟨fun e1 => ?_, fun e1 => ⟨fun e2 => ?_, fun e2 => ⟨fun e3 => ?_, fun e3 => ⟨fun e4 => ?_, fun e4 => ⟨fun e5 => ?_, fun e5 => ⟨fun e6 => ?_, fun e6 => ⟨fun e7 => ?_, fun e7 => ⟨fun e8 => ?_, fun e8 => ⟨fun e9 => ?_, fun e9 => ⟨fun e10 => ?_, fun e10 => ?_⟩⟩⟩⟩⟩⟩⟩⟩⟩⟩⟩
  · subst e0
    unfold wp_X8_count
    exact ⟨fun _ => ⟨vp_in_nI (n := 0) (by decide) (by decide), I.R.i.crew, I⟩, fun z => absurd rfl z⟩
  · subst e1
    unfold wp_X8_count
    exact ⟨fun z => absurd z (by decide), fun _ => ⟨fun _ => ⟨vp_in_nI (n := 1) (by decide) (by decide), I.R.i.enl, I⟩, fun z => absurd rfl z⟩⟩
  · subst e2
    unfold wp_X8_count
    exact ⟨fun z => absurd z (by decide), fun _ => ⟨fun z => absurd z (by decide), fun _ => ⟨fun _ => ⟨vp_in_nI (n := 2) (by decide) (by decide), I.R.i.next, I⟩, fun z => absurd rfl z⟩⟩⟩
  · subst e3
    unfold wp_X8_count
    exact ⟨fun z => absurd z (by decide), fun _ => ⟨fun z => absurd z (by decide), fun _ => ⟨fun z => absurd z (by decide), fun _ => ⟨fun _ => ⟨vp_in_nI (n := 3) (by decide) (by decide), I.R.i.day, I⟩, fun z => absurd rfl z⟩⟩⟩⟩
  · subst e4
    refine w_known I.V.1 I.R.i ?_
    unfold wp_X8_count
    exact ⟨fun z => absurd z (by decide), fun _ => ⟨fun z => absurd z (by decide), fun _ => ⟨fun z => absurd z (by decide), fun _ => ⟨fun z => absurd z (by decide), fun _ => ⟨fun _ => m_known I.V.1 rfl ⟨rfl, I⟩, fun z => absurd rfl z⟩⟩⟩⟩⟩
  · subst e5
    unfold wp_X8_count
    exact ⟨fun z => absurd z (by decide), fun _ => ⟨fun z => absurd z (by decide), fun _ => ⟨fun z => absurd z (by decide), fun _ => ⟨fun z => absurd z (by decide), fun _ => ⟨fun z => absurd z (by decide), fun _ => ⟨fun _ => ⟨I.R.i.book, I⟩, fun z => absurd rfl z⟩⟩⟩⟩⟩⟩
  · subst e6
    unfold wp_X8_count
    exact ⟨fun z => absurd z (by decide), fun _ => ⟨fun z => absurd z (by decide), fun _ => ⟨fun z => absurd z (by decide), fun _ => ⟨fun z => absurd z (by decide), fun _ => ⟨fun z => absurd z (by decide), fun _ => ⟨fun z => absurd z (by decide), fun _ => ⟨fun _ => ⟨I.R.i.mis, I⟩, fun z => absurd rfl z⟩⟩⟩⟩⟩⟩⟩
  · subst e7
    unfold wp_X8_count
    exact ⟨fun z => absurd z (by decide), fun _ => ⟨fun z => absurd z (by decide), fun _ => ⟨fun z => absurd z (by decide), fun _ => ⟨fun z => absurd z (by decide), fun _ => ⟨fun z => absurd z (by decide), fun _ => ⟨fun z => absurd z (by decide), fun _ => ⟨fun z => absurd z (by decide), fun _ => ⟨fun _ => ⟨I.R.i.taped, I⟩, fun z => absurd rfl z⟩⟩⟩⟩⟩⟩⟩⟩
  · subst e8
    unfold wp_X8_count
    exact ⟨fun z => absurd z (by decide), fun _ => ⟨fun z => absurd z (by decide), fun _ => ⟨fun z => absurd z (by decide), fun _ => ⟨fun z => absurd z (by decide), fun _ => ⟨fun z => absurd z (by decide), fun _ => ⟨fun z => absurd z (by decide), fun _ => ⟨fun z => absurd z (by decide), fun _ => ⟨fun z => absurd z (by decide), fun _ => ⟨fun _ => ⟨I.R.i.wait, I⟩, fun z => absurd rfl z⟩⟩⟩⟩⟩⟩⟩⟩⟩
  · subst e9
    unfold wp_X8_count
    exact ⟨fun z => absurd z (by decide), fun _ => ⟨fun z => absurd z (by decide), fun _ => ⟨fun z => absurd z (by decide), fun _ => ⟨fun z => absurd z (by decide), fun _ => ⟨fun z => absurd z (by decide), fun _ => ⟨fun z => absurd z (by decide), fun _ => ⟨fun z => absurd z (by decide), fun _ => ⟨fun z => absurd z (by decide), fun _ => ⟨fun z => absurd z (by decide), fun _ => ⟨fun _ => ⟨n2.trans n3.symm, I⟩, fun z => absurd rfl z⟩⟩⟩⟩⟩⟩⟩⟩⟩⟩
  · subst e10
    unfold wp_X8_count
    exact ⟨fun z => absurd z (by decide), fun _ => ⟨fun z => absurd z (by decide), fun _ => ⟨fun z => absurd z (by decide), fun _ => ⟨fun z => absurd z (by decide), fun _ => ⟨fun z => absurd z (by decide), fun _ => ⟨fun z => absurd z (by decide), fun _ => ⟨fun z => absurd z (by decide), fun _ => ⟨fun z => absurd z (by decide), fun _ => ⟨fun z => absurd z (by decide), fun _ => ⟨fun z => absurd z (by decide), fun _ => ⟨fun _ => ⟨I.R.i.z, I⟩, fun z => absurd rfl z⟩⟩⟩⟩⟩⟩⟩⟩⟩⟩⟩
  · rw [er1]
    unfold wp_X8_count
    exact ⟨fun z => absurd z e0, fun _ => ⟨fun z => absurd z e1, fun _ => ⟨fun z => absurd z e2, fun _ => ⟨fun z => absurd z e3, fun _ => ⟨fun z => absurd z e4, fun _ => ⟨fun z => absurd z e5, fun _ => ⟨fun z => absurd z e6, fun _ => ⟨fun z => absurd z e7, fun _ => ⟨fun z => absurd z e8, fun _ => ⟨fun z => absurd z e9, fun _ => ⟨fun z => absurd z e10, fun _ => f1 I⟩⟩⟩⟩⟩⟩⟩⟩⟩⟩⟩
theorem c_tell {x : Int32} {h : hp_T} (I : Inv h) : wp_X7_tell x h (fun r1 h1 => wp_X8_tell x h1 (fun r2 h2 => r1 = r2 ∧ Inv h2)) := by
  have V8 := I.V.2.2.2.2.2.2.1
  obtain ⟨c, hc, e8⟩ := rg_nI 24 V8 rfl (by decide)
  have s8 : hp_i h 1 15 = nI c := by rw [I.R.i.wait, e8]
  unfold wp_X7_tell
  rw [s8, er4]
  refine ⟨fun z => ?_, fun z => ?_⟩
  · have hc24 : c < 24 := (nI_ltI (b := 24) (by omega) (by decide)).mp z
    refine ⟨vp_in_nI hc24 (by decide), ?_⟩
    rw [nI_clamp (n := c) (by omega)]
    rintro h1 rfl
    rw [hp_i_si, if_neg (show ¬ (1 = 1 + 7 ∧ 15 = c) by omega), s8, show nI c + 1 = nI (c + 1) from nI_1 c]
    rintro h2 rfl
    rw [hp_i_si, if_pos ⟨rfl, rfl⟩]
    have e106 : hp_i (hp_si (hp_si h (1 + 7) c x) 1 15 (nI (c + 1))) 106 = hp_i h 106 := by rw [si_row_ne (by decide), si_row_ne (by decide)]
    unfold wp_X8_tell
    rw [e106, e8]
    refine ⟨fun y => absurd y (by rw [show (24 : Int32) = nI 24 from rfl, nI_eq (by omega) (by omega)]; omega), fun _ => ?_⟩
    rw [show (213 : Int32) + nI c = nI (213 + c) from nI_add 213 c, nI_clamp (n := 213 + c) (by omega)]
    refine ⟨vp_in_nI (by omega) (by decide), ?_⟩
    rintro h3 rfl
    have e3 : hp_i (hp_si (hp_si (hp_si h (1 + 7) c x) 1 15 (nI (c + 1))) 106 (213 + c) x) 106 8 = nI c := by rw [hp_i_si, if_neg (by omega), e106, e8]
    rw [e3, show nI c + 1 = nI (c + 1) from nI_1 c]
    rintro h4 rfl
    have e : hp_i (hp_si (hp_si (hp_si (hp_si h (1 + 7) c x) 1 15 (nI (c + 1))) 106 (213 + c) x) 106 8 (nI (c + 1))) 106 = ss (ss (hp_i h 106) (213 + c) x) 8 (nI (c + 1)) := by rw [si_row, si_row, e106]
    refine ⟨by rw [hp_i_si, if_pos ⟨rfl, rfl⟩], Inv_w I ((((fr_si (P := Pw) (Or.inl (by decide))).si (Or.inl (by decide))).si (Or.inr rfl)).si (Or.inr rfl)) ?_ ?_ ?_ ?_⟩
    · rw [e]
      refine Vl_s (Vl_s I.V (by omega) (by omega) (by omega)) (by omega) (by omega) (fun _ => ?_)
      unfold rg
      rw [i_nI (by omega)]
      omega
    · rw [e]
      refine RI.far (RI.far ?_ (by decide)) (by decide)
      have R := I.R.i
      intro i k j hL hv
      rw [hp_i_si]
      by_cases g8 : i = 8
      · subst g8
        obtain ⟨rfl, rfl⟩ := Lc_fn hL (Or.inl ⟨rfl, Or.inr (Or.inr (Or.inr (Or.inr (Or.inr (Or.inr (Or.inr (Or.inr ⟨rfl, rfl⟩)))))))⟩ : Lc 8 0 15)
        rw [if_pos ⟨rfl, rfl⟩, ss_i]
      · have L15 : ¬ (1 + k = 1 ∧ j = 15) := fun y => by
          have : k = 0 := by omega
          subst this
          have e := y.2
          subst e
          exact g8 (Lc_in hL (Or.inl ⟨rfl, Or.inr (Or.inr (Or.inr (Or.inr (Or.inr (Or.inr (Or.inr (Or.inr ⟨rfl, rfl⟩)))))))⟩))
        rw [if_neg L15, hp_i_si, ss_n g8]
        have Lq : Lc (213 + c) 7 c := Or.inr (Or.inr (Or.inr (Or.inr (Or.inr (Or.inr (Or.inr ⟨c, by omega, rfl, rfl, rfl⟩))))))
        by_cases gq : i = 213 + c
        · subst gq
          obtain ⟨rfl, rfl⟩ := Lc_fn hL Lq
          rw [if_pos ⟨rfl, rfl⟩, ss_i]
        · have Lq' : ¬ (1 + k = 1 + 7 ∧ j = c) := fun y => by
            have : k = 7 := by omega
            subst this
            have e := y.2
            subst e
            exact gq (Lc_in hL Lq)
          rw [if_neg Lq', ss_n gq]
          refine R i k j hL ?_
          obtain ⟨v1, v2, v3⟩ := hv
          refine ⟨fun b hb h1 h2 => ?_, fun r hr h1 h2 => ?_, fun q hq h1 => ?_⟩
          · have := v1 b hb h1 h2
            unfold cr at this
            rw [ss_n (by decide), ss_n (by omega)] at this
            exact this
          · have := v2 r hr h1 h2
            unfold en at this
            rw [ss_n (by decide), ss_n (by omega)] at this
            exact this
          · have := v3 q hq h1
            unfold wt at this ⊢
            rw [ss_i, nI_clamp (n := c + 1) (by omega)] at this
            rw [e8, nI_clamp (n := c) (by omega)]
            omega
    · intro j hj
      rw [e, ss_n (by omega), ss_n (by omega)]
    · exact RK_si (RK_si (RK_si (RK_si I.K (by omega)) (by omega)) (by omega)) (by omega)
  · have hc24 : c = 24 := by
      have : ¬ c < 24 := fun y => z ((nI_ltI (b := 24) (by omega) (by decide)).mpr y)
      omega
    show wp_X8_tell x (er h 3) (fun r2 h2 => (-1000000004 : Int32) = r2 ∧ Inv h2)
    unfold wp_X8_tell
    rw [er_i (by decide), e8, hc24]
    exact ⟨fun _ => f4 I, fun y => absurd rfl y⟩
/-- a man is enlisted -/
def enl (S : st_T) (km br : Int32) : st_T := ss (ss (ss S (113 + 2 * en S) km) (114 + 2 * en S) br) 1 (S 1 + 1)
theorem enl_o {S : st_T} {km br : Int32} {j : Nat} (h : j ≠ 1 ∧ j ≠ 113 + 2 * en S ∧ j ≠ 114 + 2 * en S) : enl S km br j = S j := by
  unfold enl
  rw [ss_n h.1, ss_n h.2.2, ss_n h.2.1]
theorem enl_1 {S : st_T} {km br : Int32} (h1V : rg (S 1) 0 12) : enl S km br 1 = nI (en S + 1) := by
  unfold enl
  rw [ss_i]
  conv => lhs; rw [(en12 h1V).1]
  exact nI_1 _
theorem en_enl {S : st_T} {km br : Int32} (h1V : rg (S 1) 0 12) : en (enl S km br) = en S + 1 := by
  have := (en12 h1V).2
  show (enl S km br 1).toNatClampNeg = _
  rw [enl_1 h1V, nI_clamp (by omega)]
theorem Vl_enl {D : Int} {S : st_T} {km br : Int32} (hV : Vl D S) (h12 : en S < 12) (hk : rg km 0 69) (hb : rg br 0 63) : Vl D (enl S km br) := by
  obtain ⟨a0, a1, a2, a3, a4, a7, a8, ab, ar, at', atp, ax⟩ := hV
  have a12 := en12 a1
  have e1 : (S 1).toInt = (en S : Int) := by
    conv => lhs; rw [a12.1]
    rw [i_nI (by omega)]
  have o : ∀ j, (j < 113 ∨ 137 ≤ j) → j ≠ 1 → enl S km br j = S j := fun j h1 h2 => enl_o ⟨h2, by omega, by omega⟩
  refine ⟨by rw [o 0 (by omega) (by omega)]; exact a0, ?_, ?_, by rw [o 3 (by omega) (by omega)]; exact a3, by rw [o 4 (by omega) (by omega)]; exact a4, by rw [o 7 (by omega) (by omega)]; exact a7, by rw [o 8 (by omega) (by omega)]; exact a8, ?_, ?_, ?_, ?_, ?_⟩
  · rw [enl_1 a1]
    unfold rg
    rw [i_nI (by omega)]
    omega
  · rw [enl_1 a1, o 2 (by omega) (by omega), i_nI (by omega)]
    rw [e1] at a2
    refine ⟨a2.1, ?_⟩
    omega
  · intro b hb'
    have e : cr (enl S km br) = cr S := cr_eq (o 0 (by omega) (by omega))
    rw [e] at hb'
    have := cr6 a0
    have B := ab b hb'
    unfold VB
    rw [o (11 + 17 * b) (by omega) (by omega), o (11 + 17 * b + 1) (by omega) (by omega), o (11 + 17 * b + 3) (by omega) (by omega), o (11 + 17 * b + 4) (by omega) (by omega)]
    exact ⟨B.1, B.2.1, B.2.2.1, B.2.2.2.1, fun k hk => by rw [o (11 + 17 * b + 11 + k) (by omega) (by omega)]; exact B.2.2.2.2 k hk⟩
  · intro r hr
    rw [en_enl a1] at hr
    by_cases g : r = en S
    · subst g
      unfold enl
      rw [ss_n (by omega), ss_n (by omega), ss_i, ss_n (by omega), ss_i]
      exact ⟨hk, hb⟩
    · rw [enl_o (by omega), enl_o (by omega)]
      exact ar r (by omega)
  · intro t ht
    unfold VT
    rw [o (137 + 4 * t) (by omega) (by omega), o (137 + 4 * t + 1) (by omega) (by omega), o (137 + 4 * t + 2) (by omega) (by omega), o (137 + 4 * t + 3) (by omega) (by omega)]
    exact at' t ht
  · intro q hq
    rw [o 7 (by omega) (by omega)] at hq
    rw [o (153 + q) (by omega) (by omega)]
    exact atp q hq
  · intro u hu
    exact VX_eq (o _ (by omega) (by omega)) (fun j hj => o j (by omega) (by omega)) (ax u hu)
abbrev Pen : Nat → Nat → Prop := fun a j => (a = 1 ∧ j = 4) ∨ a = 3 ∨ a = 4
theorem w_enlist {h : hp_T} {S : st_T} {km br : Int32} {Q : Int32 → hp_T → Prop} (R : RI h 1 S) (h1V : rg (S 1) 0 12) (h12 : en S < 12) (hQ : ∀ h1, fr Pen h h1 → RI h1 1 (enl S km br) → Q (nI (en S + 1)) h1) : wp_X2_enlist 1 km br h Q := by
  unfold wp_X2_enlist
  have a12 := en12 h1V
  have e4 : hp_i h 1 4 = nI (en S) := by rw [R.enl]; exact a12.1
  rw [e4, nI_clamp (n := en S) (by omega)]
  refine ⟨vp_in_nI h12 (by decide), ?_⟩
  rintro h1 rfl
  rw [hp_i_si, if_neg (show ¬ (1 = 1 + 2 ∧ 4 = en S) by omega), e4, nI_clamp (n := en S) (by omega)]
  refine ⟨vp_in_nI h12 (by decide), ?_⟩
  rintro h2 rfl
  rw [hp_i_si, if_neg (show ¬ (1 = 1 + 3 ∧ 4 = en S) by omega), hp_i_si, if_neg (show ¬ (1 = 1 + 2 ∧ 4 = en S) by omega), e4, show nI (en S) + 1 = nI (en S + 1) from nI_1 _]
  rintro h3 rfl
  rw [hp_i_si, if_pos ⟨rfl, rfl⟩]
  refine hQ _ (((fr_si (P := Pen) (Or.inr (Or.inl rfl))).si (Or.inr (Or.inr rfl))).si (Or.inl ⟨rfl, rfl⟩)) ?_
  intro i k j hL hv
  have Le : Lc 1 0 4 := Or.inl ⟨rfl, Or.inr (Or.inl ⟨rfl, rfl⟩)⟩
  have Lk : Lc (113 + 2 * en S) 2 (en S) := Or.inr (Or.inr (Or.inr (Or.inr (Or.inl ⟨en S, h12, rfl, rfl, rfl⟩))))
  have Lb : Lc (114 + 2 * en S) 3 (en S) := Or.inr (Or.inr (Or.inr (Or.inr (Or.inr (Or.inl ⟨en S, h12, rfl, rfl, rfl⟩)))))
  rw [hp_i_si, hp_i_si, hp_i_si]
  by_cases g1 : i = 1
  · subst g1
    obtain ⟨rfl, rfl⟩ := Lc_fn hL Le
    rw [if_pos ⟨rfl, rfl⟩, enl_1 h1V]
  · rw [if_neg (fun y => g1 (by
      have : k = 0 := by omega
      subst this
      have e := y.2
      subst e
      exact Lc_in hL Le))]
    by_cases g2 : i = 114 + 2 * en S
    · subst g2
      obtain ⟨rfl, rfl⟩ := Lc_fn hL Lb
      rw [if_pos ⟨rfl, rfl⟩]
      unfold enl
      rw [ss_n g1, ss_i]
    · rw [if_neg (fun y => g2 (by
        have : k = 3 := by omega
        subst this
        have e := y.2
        subst e
        exact Lc_in hL Lb))]
      by_cases g3 : i = 113 + 2 * en S
      · subst g3
        obtain ⟨rfl, rfl⟩ := Lc_fn hL Lk
        rw [if_pos ⟨rfl, rfl⟩]
        unfold enl
        rw [ss_n g1, ss_n g2, ss_i]
      · rw [if_neg (fun y => g3 (by
          have : k = 2 := by omega
          subst this
          have e := y.2
          subst e
          exact Lc_in hL Lk)), enl_o ⟨g1, g3, g2⟩]
        refine R i k j hL ?_
        obtain ⟨v1, v2, v3⟩ := hv
        refine ⟨fun b hb h1 h2 => ?_, fun r hr h1 h2 => ?_, fun q hq h1 => ?_⟩
        · have := v1 b hb h1 h2
          rw [cr_eq (enl_o (by omega))] at this
          exact this
        · have := v2 r hr h1 h2
          rw [en_enl h1V] at this
          omega
        · have := v3 q hq h1
          unfold wt at this ⊢
          rw [enl_o (by omega)] at this
          exact this
theorem m_rostered {h : hp_T} {S : st_T} {km br : Int32} {Q : hp_T → Prop} (hS : hp_i h 106 = S) (h1V : rg (S 1) 0 12) (h12 : en S < 12) (hQ : ∀ h1, fr P106 h h1 → hp_i h1 106 = enl S km br → Q h1) : wp_X8_rostered km br h Q := by
  unfold wp_X8_rostered
  have a12 := en12 h1V
  have e1 : hp_i h 106 1 = nI (en S) := by rw [hS]; exact a12.1
  have i1 : (113 : Int32) + (2 : Int32) * nI (en S) = nI (113 + 2 * en S) := by rw [show (113 : Int32) = nI 113 from rfl, show (2 : Int32) = nI 2 from rfl, pk_mul, nI_add]
  have i2 : nI (113 + 2 * en S) + 1 = nI (114 + 2 * en S) := by rw [nI_1]; congr 1; omega
  rw [e1, i1, nI_clamp (n := 113 + 2 * en S) (by omega)]
  refine ⟨vp_in_nI (by omega) (by decide), ?_⟩
  rintro h1 rfl
  rw [hp_i_si, if_neg (by omega), e1, i1, i2, nI_clamp (n := 114 + 2 * en S) (by omega)]
  refine ⟨vp_in_nI (by omega) (by decide), ?_⟩
  rintro h2 rfl
  rw [hp_i_si, if_neg (by omega), hp_i_si, if_neg (by omega), hS]
  rintro h3 rfl
  refine hQ _ (((fr_si (P := P106) rfl).si rfl).si rfl) ?_
  rw [si_row, si_row, si_row, hS]
  rfl
theorem RK_fr {P : Nat → Nat → Prop} {h h1 : hp_T} (K : RK h) (f : fr P h h1) (hP : ∀ b, b < 6 → ¬ P (1 + 8 + 3 * b) 3) : RK h1 := fun b hb => by rw [f.2 _ _ (hP b hb)]; exact K b hb
theorem RI.fr {P : Nat → Nat → Prop} {h h1 : hp_T} {p : Nat} {S : st_T} (R : RI h p S) (f : fr P h h1) (hP : ∀ a j, p ≤ a → a < p + 30 → ¬ P a j) : RI h1 p S := R.keep fun k j hk _ => f.2 _ _ (hP _ _ (by omega) (by omega))
/-- after both have enlisted him -/
theorem Inv_enl {h h1 h2 : hp_T} {km br : Int32} (I : Inv h) (h12 : en (hp_i h 106) < 12) (hk : rg km 0 69) (hb : rg br 0 63) (f1 : fr Pen h h1) (R1 : RI h1 1 (enl (hp_i h 106) km br)) (f2 : fr P106 h1 h2) (e2 : hp_i h2 106 = enl (hp_i h 106) km br) : Inv h2 := by
  have f : fr Pw h h2 := (f1.mono fun a j z => by rcases z with ⟨rfl, -⟩ | rfl | rfl <;> exact Or.inl (by decide)).trans (f2.mono fun a j z => Or.inr z)
  refine Inv_w I f ?_ ?_ ?_ ?_
  · rw [e2]; exact Vl_enl I.V h12 hk hb
  · rw [e2]; exact R1.fr f2 (fun a j h1 h2 z => by have z : a = 106 := z; omega)
  · intro j hj
    rw [e2, enl_o (by omega)]
  · exact RK_fr (RK_fr I.K f1 (fun b hb z => by rcases z with z | z | z <;> omega)) f2 (fun b hb z => by have z : 1 + 8 + 3 * b = 106 := z; omega)
theorem rg_of {x a b : Int32} {A B : Int} (h : a ≤ x ∧ x ≤ b) (ha : a.toInt = A) (hb : b.toInt = B) : rg x A B := by
  rw [i_le, i_le] at h
  exact ⟨by omega, by omega⟩
theorem c_roster {x y : Int32} {h : hp_T} (I : Inv h) : wp_X7_roster x y h (fun r1 h1 => wp_X8_roster x y h1 (fun r2 h2 => r1 = r2 ∧ Inv h2)) := by
  have V1 := I.V.2.1
  have a12 := en12 V1
  unfold wp_X7_roster
  simp only [w_mayEnlist, bi_0, er1, er4]
  have rw0 : ∀ (h' : hp_T) (Q : Int32 → Prop), hp_i h' 106 = hp_i h 106 → (wp_X8_rosterWrong x y h' Q = ((¬ (0 ≤ x ∧ x ≤ 69) → Q (-1000000001)) ∧ (¬ ¬ (0 ≤ x ∧ x ≤ 69) → ((¬ (0 ≤ y ∧ y ≤ 63) → Q (-1000000001)) ∧ (¬ ¬ (0 ≤ y ∧ y ≤ 63) → ((nI (en (hp_i h 106)) = 12 → Q (-1000000004)) ∧ (¬ nI (en (hp_i h 106)) = 12 → Q 0))))))) := by
    intro h' Q e
    unfold wp_X8_rosterWrong
    simp only [x_isMan, x_isBits, bi_0, e]
    rw [← a12.1]
  have e4 : hp_i h 1 4 = nI (en (hp_i h 106)) := by rw [I.R.i.enl]; exact a12.1
  rw [e4]
  refine ⟨fun z => ?_, fun z => ⟨fun z2 => ?_, fun z2 => ?_⟩⟩
  · unfold wp_X8_roster
    rw [rw0 _ _ (er_row (by decide))]
    refine ⟨fun _ => ⟨fun w => absurd w (by decide), fun _ => f1 I⟩, fun z1 => ⟨fun _ => ⟨fun w => absurd w (by decide), fun _ => f1 I⟩, fun z2 => absurd ⟨Classical.not_not.mp z1, Classical.not_not.mp z2⟩ z⟩⟩
  · have hlt : en (hp_i h 106) < 12 := (nI_ltI (b := 12) (by omega) (by decide)).mp z2
    obtain ⟨zx, zy⟩ := Classical.not_not.mp z
    refine w_enlist I.R.i V1 hlt ?_
    intro h1 f1 R1
    unfold wp_X8_roster
    have e106 : hp_i h1 106 = hp_i h 106 := by
      funext j
      exact f1.2 106 j (by omega)
    rw [rw0 _ _ e106]
    refine ⟨fun w => absurd zx w, fun _ => ⟨fun w => absurd zy w, fun _ => ⟨fun w => absurd w (by rw [show (12 : Int32) = nI 12 from rfl, nI_eq (by omega) (by omega)]; omega), fun _ => ⟨fun _ => ?_, fun w => absurd rfl w⟩⟩⟩⟩
    refine m_rostered e106 V1 hlt ?_
    intro h2 f2 e2
    exact ⟨by rw [e2, enl_1 V1], Inv_enl I hlt (rg_of zx rfl rfl) (rg_of zy rfl rfl) f1 R1 f2 e2⟩
  · have hlt : en (hp_i h 106) = 12 := by
      have : ¬ en (hp_i h 106) < 12 := fun y => z2 ((nI_ltI (b := 12) (by omega) (by decide)).mpr y)
      omega
    obtain ⟨zx, zy⟩ := Classical.not_not.mp z
    unfold wp_X8_roster
    rw [rw0 _ _ (er_row (by decide)), hlt]
    exact ⟨fun w => absurd zx w, fun _ => ⟨fun w => absurd zy w, fun _ => ⟨fun _ => ⟨fun w => absurd w (by decide), fun _ => f4 I⟩, fun w => absurd rfl w⟩⟩⟩
