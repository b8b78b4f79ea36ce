/-! ===== PURE: the class: a lesson, the tasks, a day ===== -/
theorem Rl_of {h h1 : hp_T} {p c : Nat} {S S' : st_T} (R : Rl h p S) (hp : p ≤ 61) (hc : c ≤ 6) (F : fr (PS p c) h h1) (hI : RI h1 p S') (e : ∀ j, (j = 7 ∨ j = 9 ∨ j = 10 ∨ 153 ≤ j) → S' j = S j) : Rl h1 p S' := by
  refine ⟨hI, ?_, ?_⟩
  · intro j hj
    rw [e 7 (by omega)] at hj
    rw [F.2 (p + 5) j (by
      intro z
      rcases z with z | z | z
      · omega
      · omega
      · have := k17 z; omega), e (153 + j) (by omega)]
    exact R.t j hj
  · exact R.x.fr F (fun a _ z => PS16 hp hc z) (fun u hu => e _ (by omega)) (fun j hj => e j (by omega))
theorem fr.PK {p c : Nat} {h h1 : hp_T} (f : fr PK h h1) : fr (PS p c) h h1 := f.mono fun _ _ z => Or.inr (Or.inr z)
theorem RI.fK {h h1 : hp_T} {p : Nat} {S : st_T} (hp : p ≤ 61) (R : RI h p S) (f : fr PK h h1) : RI h1 p S := R.keep fun k j hk _ => f.2 _ _ fun z => by have := k17 z; omega
theorem w_learn {h : hp_T} {p : Nat} {T : st_T} {c k : Nat} {v : Int32} {Q : hp_T → Prop} (R : RI h p T) (hc : c < cr T) (h6 : c < 6) (hk : k < 6) (hQ : ∀ h1, fr (FB (p + 8 + 3 * c)) h h1 → RI h1 p (le T c (nI k) v) → Q h1) : wp_X0_learn (p + 8 + 3 * c) (nI k) v h Q := by
  unfold wp_X0_learn
  rintro h1 rfl
  refine ⟨vp_in_nI hk (by decide), ?_⟩
  rintro h2 rfl
  rw [nI_clamp (n := k) (by omega), R.bk 3 hc h6 (by decide)]
  refine hQ _ ((fr_si (P := FB (p + 8 + 3 * c)) (Or.inl rfl)).si (Or.inr (Or.inl rfl))) ?_
  unfold le
  rw [nI_clamp (n := k) (by omega)]
  exact (R.wbk 3 h6 (by decide)).wver h6 hk
theorem w_teach {h : hp_T} {p : Nat} {S : st_T} {D : Int} {b : Nat} {dr : Bool} {x3 : Int32} {Q : Int32 → hp_T → Prop} (hdr : (x3 = 0) = (dr = false)) (hp : p ≤ 61) (hV : Vl D S) (hb : b < cr S) (R : Rl h p S) (hQ : ∀ h1, fr (PS p (cr S)) h h1 → Rl h1 p (ls dr b S).1 → Q (ls dr b S).2 h1) : wp_X2_teach p (p + 8 + 3 * b) (p + 8 + 3 * nx S b) x3 h Q := by
  have h6c := cr6 hV.1
  have hc := (nx_nI hV.1 hb).2
  have hVb := hV.2.2.2.2.2.2.2.1 b hb
  have hVc := hV.2.2.2.2.2.2.2.1 _ hc
  have hX := hV.2.2.2.2.2.2.2.2.2.2.2 0 (by decide)
  unfold wp_X2_teach
  rw [R.i.bk 4 hb (by omega) (by decide)]
  simp only [w_knows, R.i.bk 3 hb (by omega) (by decide), R.i.bk 3 hc (by omega) (by decide), bi_0]
  have no : ¬ (0 ≤ S (11 + 17 * b + 4) ∧ kn S b (S (11 + 17 * b + 4)) = true ∧ ¬ (S (11 + 17 * b) = 2 ∨ S (11 + 17 * b) = 5) ∧ kn S (nx S b) (S (11 + 17 * b + 4)) = false) → Q 0 h := by
    intro z
    have e : ls dr b S = (S, 0) := by unfold ls; rw [if_neg z]
    have := hQ h fr.refl
    rw [e] at this
    exact this R
  refine ⟨fun z => no (fun y => z ⟨⟨y.1, ?_⟩, y.2.1⟩), fun z1 => ?_⟩
  · rw [i_le]; exact hVb.2.2.2.1.2
  have z1 := Classical.not_not.mp z1
  obtain ⟨k, hk, ek⟩ : ∃ k, k ≤ 5 ∧ S (11 + 17 * b + 4) = nI k := by
    have := z1.1.1
    rw [i_le] at this
    exact rg_nI (b := 5) 5 ⟨this, hVb.2.2.2.1.2⟩ rfl (by decide)
  rw [ek] at no z1 ⊢
  have hk6 : k < 6 := by omega
  have kcl : (nI k).toNatClampNeg = k := nI_clamp (by omega)
  have kin : vp_in (nI k) 6 := vp_in_nI hk6 (by decide)
  refine w_isMute (by rw [R.i.bk0 hb (by omega)]; exact hVb.1) ?_
  rw [R.i.bk0 hb (by omega)]
  simp only [bi_0]
  refine ⟨fun z2 => ⟨fun z3 => ?_, fun z => no (fun y => ?_)⟩, fun z => no (fun y => z y.2.2.1)⟩
  · have z3' : kn S (nx S b) (nI k) = false := by
      unfold kn
      cases g : kb (S (11 + 17 * nx S b + 3)) (nI k) with
      | false => rfl
      | true => exact absurd ⟨z1.1, g⟩ z3
    have yes : 0 ≤ S (11 + 17 * b + 4) ∧ kn S b (S (11 + 17 * b + 4)) = true ∧ ¬ (S (11 + 17 * b) = 2 ∨ S (11 + 17 * b) = 5) ∧ kn S (nx S b) (S (11 + 17 * b + 4)) = false := by rw [ek]; exact ⟨z1.1.1, z1.2, z2, z3'⟩
    refine ⟨kin, kin, ?_⟩
    rintro h1 rfl
    rw [kcl, R.i.les hc (by omega) hk6, mn_hl (by
      have h0 := hVc.2.2.2.2 k hk6
      have e1 : (1 : Int32).toInt = 1 := rfl
      unfold rg at h0
      rw [i_add (by omega) (by omega)]; omega)]
    generalize hL : hl (S (11 + 17 * nx S b + 11 + k) + 1) 0 99 = L
    have R1 : RI (hp_si h (p + 8 + 3 * nx S b + 2) k L) p (ss S (11 + 17 * nx S b + 11 + k) L) := R.i.wles (by omega) hk6
    have f1 : fr (PS p (cr S)) h (hp_si h (p + 8 + 3 * nx S b + 2) k L) := fr_si (Or.inl ⟨by omega, by omega, by omega⟩)
    have eL : hp_i (hp_si h (p + 8 + 3 * nx S b + 2) k L) (p + 8 + 3 * nx S b + 2) k = L := by rw [hp_i_si, if_pos ⟨rfl, rfl⟩]
    rw [eL]
    generalize hp_si h (p + 8 + 3 * nx S b + 2) k L = h1 at R1 f1 ⊢
    generalize hS1' : ss S (11 + 17 * nx S b + 11 + k) L = S1 at R1 ⊢
    have S1n : ∀ j, j ≠ 11 + 17 * nx S b + 11 + k → S1 j = S j := fun j hj => by rw [← hS1', ss_n hj]
    have hlsx : ls dr b S = if nd S1 (nx S b) (nI k) ≤ L then ls1 dr b (nx S b) (nI k) S1 else (S1, 0) := by
      unfold ls
      rw [if_pos yes, ek, kcl, hL, hS1']
    have hL9 : rg L 0 99 := by rw [← hL]; exact rg_hl rfl rfl (by decide)
    have hVc1 : VB S1 (nx S b) := by rw [← hS1']; exact VB_les hk6 hL9 hVc
    have hX1 : VX S1 0 := VX_eq (S1n _ (by omega)) (fun j hj => S1n _ (by omega)) hX
    have R1l : Rl h1 p S1 := Rl_of R hp h6c f1 R1 (fun j hj => S1n _ (by omega))
    have c1 : cr S1 = cr S := cr_eq (S1n 0 (by omega))
    refine ⟨kin, w_needs R1 R1l.x (by rw [c1]; exact hc) (by omega) hVc1 hX1 ?_⟩
    intro h2 hf2
    have f2 : fr (PS p (cr S)) h h2 := f1.trans hf2.PK
    have R2 : Rl h2 p S1 := Rl_of R1l hp h6c (c := cr S) hf2.PK (R1.fK hp hf2) (fun _ _ => rfl)
    have fin : ∀ (h3 h4 : hp_T) (T : st_T) (v w : Int32), fr (PS p (cr S)) h h3 → Rl h3 p T → fr (FB (p + 8 + 3 * nx S b)) h3 h4 → RI h4 p (le T (nx S b) (nI k) v) → ls dr b S = (le T (nx S b) (nI k) v, w) → Q w h4 := by
      intro h3 h4 T v w f3 R3 f4 R4 e
      rw [e] at hQ
      have f34 : fr (PS p (cr S)) h3 h4 := f4.mono fun a _ z => FB_PS hc z
      refine hQ h4 (f3.trans f34) (Rl_of R3 hp h6c f34 R4 (fun j hj => le_out (by omega) (by rw [kcl]; omega)))
    refine ⟨fun z => ?_, fun z => ?_⟩
    · have hhi : ls dr b S = ls1 dr b (nx S b) (nI k) S1 := by rw [hlsx, if_pos z]
      have tr0 : ∀ T, tl T b (nI k) + 0 = tl T b (nI k) := fun T => by simp
      have tlr : ∀ T, rg (tl T b (nI k)) 0 999 := fun T => by unfold tl; exact rg_hl rfl rfl (by decide)
      have e0 : (0 : Int32).toInt = 0 := rfl
      have e999 : (999 : Int32).toInt = 999 := rfl
      have mm : ∀ T, (if tl T b (nI k) + 0 < 999 then tl T b (nI k) + 0 else 999) = tl T b (nI k) := fun T => by
        rw [tr0, mn_hl (tlr T).1, hl_in (by rw [e0]; exact (tlr T).1) (by rw [e999]; exact (tlr T).2)]
      cases dr with
      | false =>
        rw [hdr]
        refine ⟨fun _ => ?_, fun z => absurd rfl z⟩
        rw [w_tellsOf R2.i (by rw [c1]; exact hb) (by omega) hk6, mm]
        refine w_learn R2.i (by rw [c1]; exact hc) (by omega) hk6 ?_
        intro h4 f4 R4
        exact fin h2 h4 S1 _ 0 f2 R2 f4 R4 (by rw [hhi]; rfl)
      | true =>
        rw [hdr]
        refine ⟨fun z => absurd z (by decide), fun _ => ?_⟩
        unfold wp_X2_draw
        rintro h3 rfl
        have R3i : RI (hp_si h2 p 10 ((hp_i h2 p 10) * (1103515245 : Int32) + (12345 : Int32))) p (ss S1 6 (zn S1)) := by
          rw [R2.i.z]
          exact R2.i.w0 6 10 (Or.inl ⟨rfl, by omega⟩) (by decide)
        have f23 : fr (PS p (cr S)) h2 (hp_si h2 p 10 ((hp_i h2 p 10) * (1103515245 : Int32) + (12345 : Int32))) := fr_si (Or.inl ⟨by omega, by omega, by omega⟩)
        generalize hp_si h2 p 10 ((hp_i h2 p 10) * (1103515245 : Int32) + (12345 : Int32)) = h3 at R3i f23 ⊢
        have R3 : Rl h3 p (ss S1 6 (zn S1)) := Rl_of R2 hp h6c f23 R3i (fun j hj => ss_n (by omega))
        have f3 := f2.trans f23
        have c3 : cr (ss S1 6 (zn S1)) = cr S := (cr_eq (ss_n (by decide))).trans c1
        have t3 : tl (ss S1 6 (zn S1)) b (nI k) = tl S1 b (nI k) := by
          unfold tl
          rw [kcl, ss_n (by omega), ss_n (by omega), ss_n (by omega)]
        rw [R3i.z, R3i.mis, ss_i, ss_n (show (5 : Nat) ≠ 6 by decide)]
        refine ⟨fun z => ?_, fun z => ?_⟩
        · rw [w_tellsOf R3i (by rw [c3]; exact hb) (by omega) hk6, mm, t3]
          refine w_learn R3i (by rw [c3]; exact hc) (by omega) hk6 ?_
          intro h4 f4 R4
          refine fin h3 h4 _ _ 0 f3 R3 f4 R4 ?_
          rw [hhi]
          unfold ls1
          rw [if_pos rfl, if_neg (Int32.not_lt.mpr z)]
        · rw [w_tellsOf R3i (by rw [c3]; exact hb) (by omega) hk6, t3, mn_hl (by
            have := tlr S1
            have e1 : (1 : Int32).toInt = 1 := rfl
            unfold rg at this
            rw [i_add (by omega) (by omega)]; omega)]
          refine w_learn R3i (by rw [c3]; exact hc) (by omega) hk6 ?_
          intro h4 f4 R4
          refine fin h3 h4 _ _ 1 f3 R3 f4 R4 ?_
          rw [hhi]
          unfold ls1
          rw [if_pos rfl, if_pos (Int32.not_le.mp z)]
    · have hlo : ls dr b S = (S1, 0) := by rw [hlsx, if_neg z]
      rw [hlo] at hQ
      exact hQ h2 f2 R2
  · have := y.2.2.2
    unfold kn at this
    exact z (fun g => by rw [this] at g; exact absurd g.2 (by decide))
theorem w_teachAll_L {D : Int} {S : st_T} {dr : Bool} {p : Nat} {x1 : Int32} {Q : Int32 → hp_T → Prop} (hdr : (x1 = 0) = (dr = false)) (hp : p ≤ 61) (h1c : ¬ cr S ≤ 1) (hc0 : rg (S 0) 0 6) : ∀ (r i nn : Nat) (x : st_T × Int32) (h : hp_T), i + r = cr S → r < nn → Vl D x.1 → x.1 0 = S 0 → Rl h p x.1 → (∀ h1, fr (PS p (cr S)) h h1 → Rl h1 p (lp (lsF dr) i r x).1 → Q (lp (lsF dr) i r x).2 h1) → wp_X2_teachAll_L4 p x1 Q nn x.2 (nI i) h := by
  intro r
  induction r with
  | zero =>
    intro i nn x h hi hn hV hx0 R hq
    obtain ⟨nn, rfl⟩ : ∃ m, nn = m + 1 := ⟨nn - 1, by omega⟩
    unfold wp_X2_teachAll_L4
    rw [R.i.crew, hx0, (cr_nI hc0).1]
    have := cr6 hc0
    exact ⟨fun _ => hq h fr.refl R, fun z => absurd (nI_le (by omega) (by omega)) z⟩
  | succ r ih =>
    intro i nn x h hi hn hV hx0 R hq
    obtain ⟨nn, rfl⟩ : ∃ m, nn = m + 1 := ⟨nn - 1, by omega⟩
    unfold wp_X2_teachAll_L4
    have h6 := cr6 hc0
    have ecr : cr x.1 = cr S := by unfold cr; rw [hx0]
    have hb : i < cr x.1 := by omega
    obtain ⟨n1, n2⟩ := nx_nI hV.1 hb
    rw [R.i.crew, n1, hx0, (cr_nI hc0).1]
    refine ⟨fun z => absurd z (nI_ge (by omega) (by omega)), fun _ => ⟨fun z => absurd z (nI_ge (a := 1) (by omega) (by omega)), fun _ => ⟨vp_in_nI (by omega) (by decide), nI_ne0 (by omega) (by omega), vp_in_nI (by omega) (by decide), ?_⟩⟩⟩
    rw [nI_clamp (n := i) (by omega), nI_clamp (n := nx x.1 i) (by omega)]
    refine w_teach hdr hp hV hb R ?_
    intro h1 f1 R1
    rw [show nI i + 1 = nI (i + 1) from nI_1 i]
    refine ih (i + 1) nn (lsF dr i x) h1 (by omega) (by omega) (Vl_ls dr hV hb) ?_ R1 ?_
    · show (ls dr i x.1).1 0 = _
      rw [ls_out hV hb (by decide) (by decide), hx0]
    · intro h2 f2 R2
      rw [ecr] at f1
      exact hq h2 (f1.trans f2) R2
theorem w_teachAll {D : Int} {S : st_T} {dr : Bool} {p : Nat} {x1 : Int32} {h : hp_T} {Q : Int32 → hp_T → Prop} (hdr : (x1 = 0) = (dr = false)) (hp : p ≤ 61) (hV : Vl D S) (R : Rl h p S) (hQ : ∀ h1, fr (PS p (cr S)) h h1 → Rl h1 p (lss dr S).1 → Q (lss dr S).2 h1) : wp_X2_teachAll p x1 h Q := by
  unfold wp_X2_teachAll
  by_cases h1c : cr S ≤ 1
  · have el : lss dr S = (S, 0) := by unfold lss; rw [if_pos h1c]; rfl
    refine ⟨1, ?_⟩
    unfold wp_X2_teachAll_L4
    have fin := hQ h fr.refl (by rw [el]; exact R)
    rw [el] at fin
    refine ⟨fun _ => fin, fun _ => ⟨fun _ => fin, fun z => absurd ?_ z⟩⟩
    rw [R.i.crew, (cr_nI hV.1).1]
    exact nI_le (b := 1) h1c (by omega)
  · have el : lss dr S = lp (lsF dr) 0 (cr S) (S, 0) := by unfold lss; rw [if_neg h1c]; rfl
    rw [el] at hQ
    exact ⟨cr S + 1, w_teachAll_L hdr hp h1c hV.1 (cr S) 0 (cr S + 1) (S, 0) h (by omega) (by omega) hV rfl R hQ⟩
theorem w_knowers_L {S : st_T} {p : Nat} {k : Int32} {h : hp_T} {Q : Int32 → Prop} (hc : rg (S 0) 0 6) (hk : 0 ≤ k ∧ k ≤ 5) (R : RI h p S) : ∀ (r i nn : Nat) (a : Int32), i + r = cr S → r < nn → Q (lp (fun b a => a + (if kn S b k = true then 1 else 0)) i r a) → wp_X2_knowers_L4 p k h Q nn a (nI i) := by
  intro r
  induction r with
  | zero =>
    intro i nn a hi hn hq
    obtain ⟨nn, rfl⟩ : ∃ m, nn = m + 1 := ⟨nn - 1, by omega⟩
    unfold wp_X2_knowers_L4
    rw [R.crew, (cr_nI hc).1]
    have := (cr_nI hc).2
    exact ⟨fun _ => hq, fun z => absurd (nI_le (by omega) (by omega)) z⟩
  | succ r ih =>
    intro i nn a hi hn hq
    obtain ⟨nn, rfl⟩ : ∃ m, nn = m + 1 := ⟨nn - 1, by omega⟩
    unfold wp_X2_knowers_L4
    have h6 := (cr_nI hc).2
    obtain ⟨v1, v2, v3⟩ := vp_nI hc (show i < cr S by omega)
    rw [R.crew, (cr_nI hc).1]
    refine ⟨fun z => absurd z (nI_ge (by omega) (by omega)), fun _ => ⟨v1, ?_⟩⟩
    rw [v2, w_knows, R.bk 3 (by omega) v3 (by decide)]
    simp only [bi_0, show nI i + 1 = nI (i + 1) from nI_1 i]
    have hq' : Q (lp (fun b a => a + (if kn S b k = true then 1 else 0)) (i + 1) r (a + (if kn S i k = true then 1 else 0))) := hq
    cases hkn : kn S i k with
    | true =>
      rw [hkn] at hq'
      refine ⟨fun z => absurd ⟨hk, hkn⟩ z, fun _ => ih (i + 1) nn _ (by omega) (by omega) hq'⟩
    | false =>
      rw [hkn] at hq'
      refine ⟨fun _ => ih (i + 1) nn _ (by omega) (by omega) hq', fun z => absurd (fun y => ?_) z⟩
      have g : kb (S (11 + 17 * i + 3)) k = false := hkn
      rw [g] at y; exact absurd y.2 (by decide)
theorem w_knowers {S : st_T} {p : Nat} {k : Int32} {h : hp_T} {Q : Int32 → Prop} (hc : rg (S 0) 0 6) (hk : 0 ≤ k ∧ k ≤ 5) (R : RI h p S) (hq : Q (kns S k)) : wp_X2_knowers p k h Q := by
  refine ⟨cr S + 1, ?_⟩
  exact w_knowers_L hc hk R (cr S) 0 (cr S + 1) 0 (by omega) (by omega) hq
theorem kns_nI {S : st_T} {k : Int32} : ∀ (n i a : Nat), ∃ c, c ≤ n ∧ lp (fun b a => a + (if kn S b k = true then 1 else 0)) i n (nI a) = nI (a + c) := by
  intro n
  induction n with
  | zero => intro i a; exact ⟨0, Nat.le_refl 0, rfl⟩
  | succ n ih =>
    intro i a
    show ∃ c, c ≤ n + 1 ∧ lp (fun b a => a + (if kn S b k = true then 1 else 0)) (i + 1) n (nI a + (if kn S i k = true then 1 else 0)) = nI (a + c)
    cases kn S i k with
    | true =>
      obtain ⟨c, hc, e⟩ := ih (i + 1) (a + 1)
      refine ⟨c + 1, by omega, ?_⟩
      rw [if_pos rfl, show nI a + 1 = nI (a + 1) from nI_1 a, e]
      congr 1; omega
    | false =>
      obtain ⟨c, hc, e⟩ := ih (i + 1) a
      refine ⟨c, by omega, ?_⟩
      rw [if_neg (by decide), Int32.add_zero, e]
theorem kns_le {S : st_T} {k : Int32} : ∃ c, c ≤ cr S ∧ kns S k = nI c := by
  obtain ⟨c, hc, e⟩ := kns_nI (S := S) (k := k) (cr S) 0 0
  exact ⟨c, hc, by rw [Nat.zero_add] at e; exact e⟩
theorem kns_0 {S : st_T} {k : Int32} (hc : rg (S 0) 0 6) : ¬ kns S k < 0 := by
  obtain ⟨c, h1, e⟩ := kns_le (S := S) (k := k)
  have := cr6 hc
  rw [e]
  exact nI_pos (by omega)
theorem ss_same {S : st_T} {i : Nat} : ss S i (S i) = S := by
  funext j
  unfold ss
  by_cases e : j = i
  · rw [if_pos e, e]
  · rw [if_neg e]
abbrev PT (p : Nat) : Nat → Nat → Prop := fun a _ => a = p ∨ (p + 26 ≤ a ∧ a < p + 30)
theorem PT_PS {p c a j : Nat} (h : PT p a j) : PS p c a j := by
  rcases h with h | h
  · exact Or.inl ⟨by omega, by omega, by omega⟩
  · exact Or.inr (Or.inl h)
theorem w_endDay_L {D : Int} {p : Nat} {Q : hp_T → Prop} : ∀ (r i nn : Nat) (S : st_T) (h : hp_T), i + r = 4 → r < nn → Vl D S → RI h p S → (∀ h1, fr (PT p) h h1 → RI h1 p (ss (lp tkF i r S) 3 (lp tkF i r S 3 + 1)) → Q h1) → wp_X2_endDay_L2 p Q nn (nI i) h := by
  intro r
  induction r with
  | zero =>
    intro i nn S h hi hn hV R hq
    obtain ⟨nn, rfl⟩ : ∃ m, nn = m + 1 := ⟨nn - 1, by omega⟩
    unfold wp_X2_endDay_L2
    have : i = 4 := by omega
    subst this
    refine ⟨fun _ => ?_, fun z => absurd (by decide) z⟩
    rintro h1 rfl
    refine hq _ (fr_si (Or.inl rfl)) ?_
    rw [R.day]
    exact R.w0 3 8 (Or.inl ⟨rfl, by omega⟩) (by decide)
  | succ r ih =>
    intro i nn S h hi hn hV R hq
    obtain ⟨nn, rfl⟩ : ∃ m, nn = m + 1 := ⟨nn - 1, by omega⟩
    unfold wp_X2_endDay_L2
    have v1 : vp_in (nI i) 4 := vp_in_nI (by omega) (by decide)
    refine ⟨fun z => absurd z (nI_ge (b := 4) (by omega) (by decide)), fun _ => ⟨v1, v1, ?_⟩⟩
    have hT := hV.2.2.2.2.2.2.2.2.2.1 i (by omega)
    rw [nI_clamp (n := i) (by omega), R.tk0 (by omega), show nI i + 1 = nI (i + 1) from nI_1 i]
    refine w_knowers hV.1 ⟨by rw [i_le]; exact hT.1.1, by rw [i_le]; exact hT.1.2⟩ R ?_
    unfold wp_X3_tryWith
    rw [R.tk 1 (by omega) (by decide), R.tk 2 (by omega) (by decide), R.tk 3 (by omega) (by decide)]
    have hV' := Vl_tkF (t := i) (by omega) hV
    have h2 := hT.2.2.1
    have h3 := hT.2.2.2
    have h1 := hT.2.1
    unfold rg at h1 h2 h3
    have e0 : (0 : Int32).toInt = 0 := rfl
    have e1 : (1 : Int32).toInt = 1 := rfl
    have e9 : (999999 : Int32).toInt = 999999 := rfl
    have step : ∀ h1, fr (PT p) h h1 → RI h1 p (tkF i S) → wp_X2_endDay_L2 p Q nn (nI (i + 1)) h1 := by
      intro h1 f1 R1
      exact ih (i + 1) nn (tkF i S) h1 (by omega) (by omega) hV' R1 (fun h2 f2 R2 => hq h2 (f1.trans f2) R2)
    refine ⟨fun z => step h fr.refl ?_, fun z => ⟨fun y => ?_, fun y => ?_⟩⟩
    · have e : tkF i S = S := by
        unfold tkF
        rw [z, if_neg (kns_0 hV.1), if_pos (by decide), Int32.add_zero, hl_in (by omega) (by omega), ss_same]
      rw [e]; exact R
    · rintro h1 rfl
      refine step _ (fr_si (Or.inr ⟨by omega, by omega⟩)) ?_
      have e : tkF i S = ss S (137 + 4 * i + 3) (if S (137 + 4 * i + 3) + 1 < 999999 then S (137 + 4 * i + 3) + 1 else 999999) := by
        unfold tkF
        rw [if_pos y, if_neg (by rw [i_le]; rw [i_eq] at z; omega), mn_hl (by rw [i_add (by omega) (by omega)]; omega)]
      rw [e]
      exact R.wtk 3 (by omega) (by decide)
    · rintro h1 rfl
      refine step _ (fr_si (Or.inr ⟨by omega, by omega⟩)) ?_
      have e : tkF i S = ss S (137 + 4 * i + 2) (if S (137 + 4 * i + 2) + 1 < 999999 then S (137 + 4 * i + 2) + 1 else 999999) := by
        unfold tkF
        rw [if_neg y, if_neg (by rw [i_le]; rw [i_eq] at z; omega), mn_hl (by rw [i_add (by omega) (by omega)]; omega)]
      rw [e]
      exact R.wtk 2 (by omega) (by decide)
theorem w_endDay {D : Int} {p : Nat} {S : st_T} {h : hp_T} {Q : hp_T → Prop} (hV : Vl D S) (R : RI h p S) (hQ : ∀ h1, fr (PT p) h h1 → RI h1 p (ss (tk S) 3 (tk S 3 + 1)) → Q h1) : wp_X2_endDay p h Q := by
  refine ⟨5, w_endDay_L 4 0 5 S h rfl (by decide) hV R ?_⟩
  rw [← tk_eq]
  exact hQ
theorem cr_rl {D : Int} {S : st_T} (hV : Vl D S) : cr (rl S).1 = cr S := cr_eq (rl_out hV (by omega) (by decide))
theorem cr_lss {D : Int} {S : st_T} {dr : Bool} (hV : Vl D S) : cr (lss dr S).1 = cr S := cr_eq ((lss_all hV).2 0 (by omega) (by decide))
theorem Rl_end {D : Int} {p : Nat} {S : st_T} {h h1 : hp_T} (hp : p ≤ 61) (hV : Vl D S) (R : Rl h p S) (f : fr (PT p) h h1) (R1 : RI h1 p (ss (tk S) 3 (tk S 3 + 1))) : Rl h1 p (ss (tk S) 3 (tk S 3 + 1)) :=
  Rl_of (c := cr S) R hp (cr6 hV.1) (f.mono fun _ _ z => PT_PS z) R1 fun j hj => by rw [ss_n (by omega), tk_out (by omega)]
/-- a day of the class's ship -/
theorem w_passDay {D : Int} {S : st_T} {p : Nat} {h : hp_T} {Q : Int32 → hp_T → Prop} (hp : p ≤ 61) (hV : Vl D S) (R : Rl h p S) (hQ : ∀ h1, fr (PS p (cr S)) h h1 → Rl h1 p (dy false S).1 → Q (dy false S).2.1 h1) : wp_X2_passDay p h Q := by
  unfold wp_X2_passDay
  refine w_relieve hp hV R ?_
  intro h1 f1 R1
  refine w_teachAll (dr := false) (by simp) hp (Vl_rl hV) R1 ?_
  intro h2 f2 R2
  have hV2 := (lss_all (dr := false) (Vl_rl hV)).1
  refine w_endDay hV2 R2.i ?_
  intro h3 f3 R3
  rw [cr_rl hV] at f2
  refine hQ h3 ((f1.trans f2).trans (f3.mono fun _ _ z => PT_PS z)) ?_
  rw [dy_1]
  exact Rl_end hp hV2 R2 f3 R3
theorem w_passDayByDraws {D : Int} {S : st_T} {p : Nat} {h : hp_T} {Q : Int32 → hp_T → Prop} (hp : p ≤ 61) (hV : Vl D S) (R : Rl h p S) (hQ : ∀ h1, fr (PS p (cr S)) h h1 → Rl h1 p (dy true S).1 → Q (dy true S).2.2 h1) : wp_X2_passDayByDraws p h Q := by
  unfold wp_X2_passDayByDraws
  refine w_relieve hp hV R ?_
  intro h1 f1 R1
  refine w_teachAll (dr := true) (by simp) hp (Vl_rl hV) R1 ?_
  intro h2 f2 R2
  have hV2 := (lss_all (dr := true) (Vl_rl hV)).1
  refine w_endDay hV2 R2.i ?_
  intro h3 f3 R3
  rw [cr_rl hV] at f2
  refine hQ h3 ((f1.trans f2).trans (f3.mono fun _ _ z => PT_PS z)) ?_
  rw [dy_1]
  exact Rl_end hp hV2 R2 f3 R3
