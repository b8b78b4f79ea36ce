/-! ===== PURE: the calls: as, set, know, tasks, texts untold ===== -/
def ofk (c x : Int32) : Prop := x = 0 ∨ c = x ∨ (x = 1 ∧ c = 4) ∨ (x = 2 ∧ c = 5)
def ofb (c x : Int32) : Int32 := if x = 0 then 1 else if c = x then 1 else if x = 1 ∧ c = 4 then 1 else if x = 2 ∧ c = 5 then 1 else 0
theorem isf_all : (List.range 7).all (fun c => (List.range 7).all fun x => isf (nI x) 9 (nI c) 0 == some (ofb (nI c) (nI x))) = true := by decide +kernel
theorem w_isOf {a x : Nat} {h : hp_T} {Q : Int32 → Prop} (hx : x < 7) (hk : rg (hp_i h a 0) 0 6) (hq : Q (ofb (hp_i h a 0) (nI x))) : wp_X0_isOf a (nI x) h Q := by
  obtain ⟨c, hc, e⟩ := rg_nI 6 hk rfl (by decide)
  refine ⟨9, w_isOf_L hq 9 _ 0 ?_⟩
  rw [e]
  have := List.all_eq_true.mp (List.all_eq_true.mp isf_all c (List.mem_range.mpr (by omega))) x (List.mem_range.mpr hx)
  simpa using this
theorem c_as {x y : Int32} {h : hp_T} (I : Inv h) : wp_X7_as x y h (fun r1 h1 => wp_X8_as x y h1 (fun r2 h2 => r1 = r2 ∧ Inv h2)) := by
  have V := I.V
  unfold wp_X7_as
  simp only [w_isBunk, w_within, bi_0, er1, er5]
  rw [I.crew]
  refine ⟨fun z => ?_, fun z => ⟨fun z2 => ?_, fun z2 => ?_⟩⟩
  · unfold wp_X8_as
    simp only [x_isBunk, in_0_6, bi_0]
    rw [er_i (by decide)]
    exact ⟨fun _ => f1 I, fun w => absurd z w⟩
  · unfold wp_X8_as
    simp only [x_isBunk, in_0_6, bi_0]
    rw [er_i (by decide)]
    exact ⟨fun w => absurd w z, fun _ => ⟨fun _ => f1 I, fun w => absurd z2 w⟩⟩
  · obtain ⟨b, hb, rfl⟩ := bunk_of V.1 (Classical.not_not.mp z)
    obtain ⟨k, hk, rfl⟩ := nat_of (n := 6) (Classical.not_not.mp z2) rfl
    have h6 : b < 6 := Nat.lt_of_lt_of_le hb (cr6 V.1)
    have vb : vp_in (nI b) 6 := vp_in_nI h6 (by decide)
    have bc : (nI b).toNatClampNeg = b := nI_clamp (by omega)
    rw [bc]
    refine ⟨vb, w_isOf (by omega) (by rw [I.R.i.bk0 hb h6]; exact (V.2.2.2.2.2.2.2.1 b hb).1) ?_⟩
    rw [I.R.i.bk0 hb h6, I.R.i.bk 3 hb h6 (by decide)]
    have ok : ∀ h' r, hp_i h' 106 = hp_i h 106 → ((ofb (hp_i h 106 (11 + 17 * b)) (nI k) = 1 → r = hp_i h 106 (11 + 17 * b + 3) ∧ Inv h') ∧ (ofb (hp_i h 106 (11 + 17 * b)) (nI k) = 0 → wp_X8_errs (-1000000005) h' (fun r2 h2 => r = r2 ∧ Inv h2))) → wp_X8_as (nI b) (nI k) h' (fun r2 h2 => r = r2 ∧ Inv h2) := by
      intro h' r e ⟨g1, g0⟩
      unfold wp_X8_as
      simp only [x_isBunk, in_0_6, bi_0, x_its0 vb, x_its3 vb, bc]
      rw [e]
      refine ⟨fun w => absurd w z, fun _ => ⟨fun w => absurd w z2, fun _ => ?_⟩⟩
      unfold ofb at g1 g0
      unfold wp_X8_as_b53
      simp only [x_its3 vb, bc, e]
      refine ⟨fun e0 => g1 (by rw [if_pos e0]), fun e0 => ⟨fun ek => g1 (by rw [if_neg e0, if_pos ek]), fun ek => ⟨fun k1 => ⟨fun c4 => g1 (by rw [if_neg e0, if_neg ek, if_pos ⟨k1, c4⟩]), fun c4 => ⟨fun k2 => absurd (k1.symm.trans k2) (by decide), fun k2 => g0 (by rw [if_neg e0, if_neg ek, if_neg (fun w => c4 w.2), if_neg (fun w => k2 w.1)])⟩⟩, fun k1 => ⟨fun k2 => ⟨fun c5 => g1 (by rw [if_neg e0, if_neg ek, if_neg (fun w => k1 w.1), if_pos ⟨k2, c5⟩]), fun c5 => g0 (by rw [if_neg e0, if_neg ek, if_neg (fun w => k1 w.1), if_neg (fun w => c5 w.2)])⟩, fun k2 => g0 (by rw [if_neg e0, if_neg ek, if_neg (fun w => k1 w.1), if_neg (fun w => k2 w.1)])⟩⟩⟩⟩
    refine ⟨fun e0 => ?_, fun e0 => ⟨vb, ?_⟩⟩
    · exact ok _ _ (er_row (by decide)) ⟨fun e => absurd (e0.symm.trans e) (by decide), fun _ => f5 I⟩
    · exact ok _ _ rfl ⟨fun _ => ⟨rfl, I⟩, fun e => absurd e e0⟩
theorem VB_bk {S : st_T} {b c w : Nat} {v : Int32} (h : VB S c) (hw : w < 5) (h0 : w = 0 → rg v 0 6) (h1 : w = 1 → rg v 0 9) (h3 : w = 3 → rg v 0 63) (h4 : w = 4 → rg v (-1) 5) : VB (ss S (11 + 17 * b + w) v) c := by
  have o : ∀ j, j ≠ 11 + 17 * b + w → ss S (11 + 17 * b + w) v j = S j := fun j hj => ss_n hj
  refine ⟨?_, ?_, ?_, ?_, fun k hk => by rw [o _ (by omega)]; exact h.2.2.2.2 k hk⟩
  · by_cases g : 11 + 17 * c = 11 + 17 * b + w
    · rw [g, ss_i]; exact h0 (by omega)
    · rw [o _ g]; exact h.1
  · by_cases g : 11 + 17 * c + 1 = 11 + 17 * b + w
    · rw [g, ss_i]; exact h1 (by omega)
    · rw [o _ g]; exact h.2.1
  · by_cases g : 11 + 17 * c + 3 = 11 + 17 * b + w
    · rw [g, ss_i]; exact h3 (by omega)
    · rw [o _ g]; exact h.2.2.1
  · by_cases g : 11 + 17 * c + 4 = 11 + 17 * b + w
    · rw [g, ss_i]; exact h4 (by omega)
    · rw [o _ g]; exact h.2.2.2.1
theorem VB_ver {S : st_T} {b c k : Nat} {v : Int32} (h : VB S c) (hk : k < 6) : VB (ss S (11 + 17 * b + 5 + k) v) c := by
  unfold VB
  rw [ss_n (by omega), ss_n (by omega), ss_n (by omega), ss_n (by omega)]
  exact ⟨h.1, h.2.1, h.2.2.1, h.2.2.2.1, fun k' hk' => by rw [ss_n (by omega)]; exact h.2.2.2.2 k' hk'⟩
/-- a bunk's place is set -/
theorem Inv_set {h : hp_T} {b w : Nat} {v : Int32} (I : Inv h) (hb : b < cr (hp_i h 106)) (hw : w = 0 ∨ w = 1 ∨ w = 4) (h0 : w = 0 → rg v 0 6) (h1 : w = 1 → rg v 0 9) (h4 : w = 4 → rg v (-1) 5) : Inv (hp_si (hp_si h (1 + 8 + 3 * b) w v) 106 (11 + 17 * b + w) v) := by
  have V := I.V
  have h6 : b < 6 := Nat.lt_of_lt_of_le hb (cr6 V.1)
  have e : hp_i (hp_si (hp_si h (1 + 8 + 3 * b) w v) 106 (11 + 17 * b + w) v) 106 = ss (hp_i h 106) (11 + 17 * b + w) v := by rw [si_row, si_row_ne (by omega)]
  refine Inv_w I ((fr_si (P := Pw) (Or.inl (by omega))).si (Or.inr rfl)) ?_ ?_ ?_ ?_
  · rw [e]
    exact Vl_bunks V (fun i hi _ _ => ss_n (by omega)) (fun c hc => VB_bk (V.2.2.2.2.2.2.2.1 c hc) (by omega) h0 h1 (by omega) h4)
  · rw [e]; exact (I.R.i.wbk w h6 (by omega)).far (by decide)
  · intro j hj; rw [e, ss_n (by omega)]
  · exact RK_si (RK_si I.K (by omega)) (by omega)
theorem c_set {x y v : Int32} {h : hp_T} (I : Inv h) : wp_X7_set x y v h (fun r1 h1 => wp_X8_set x y v h1 (fun r2 h2 => r1 = r2 ∧ Inv h2)) := by
  have V := I.V
  unfold wp_X7_set wp_X7_maySet
  simp only [w_isBunk, w_within, bi_0, bi_ok, er1, true_and]
  rw [I.crew]
  have noB : ∀ h', hp_i h' 106 = hp_i h 106 → ¬ (0 ≤ x ∧ x ≤ hp_i h 106 0 - 1) → wp_X8_errs (-1000000001) h' (fun r2 h2 => (-1000000001 : Int32) = r2 ∧ Inv h2) → wp_X8_set x y v h' (fun r2 h2 => (-1000000001 : Int32) = r2 ∧ Inv h2) := by
    intro h' e z f
    unfold wp_X8_set
    simp only [x_isBunk, in_0_6, in_0_9, in_m1_5, bi_0]
    rw [e]
    exact ⟨fun _ => ⟨fun _ => f, fun w => absurd z w⟩, fun _ => ⟨fun _ => ⟨fun _ => f, fun w => absurd z w⟩, fun _ => ⟨fun _ => ⟨fun _ => ⟨fun _ => f, fun w => absurd z w⟩, fun _ => ⟨fun _ => f, fun w => absurd z w⟩⟩, fun _ => ⟨fun _ => f, fun w => absurd z w⟩⟩⟩⟩
  refine ⟨fun z => noB _ (er_row (by decide)) z (f1 I), fun z => ?_⟩
  obtain ⟨b, hb, rfl⟩ := bunk_of V.1 (Classical.not_not.mp z)
  have h6 : b < 6 := Nat.lt_of_lt_of_le hb (cr6 V.1)
  have vb : vp_in (nI b) 6 := vp_in_nI h6 (by decide)
  have bc : (nI b).toNatClampNeg = b := nI_clamp (by omega)
  rw [bc]
  have go : ∀ w, w = 0 ∨ w = 1 ∨ w = 4 → (w = 0 → rg v 0 6) → (w = 1 → rg v 0 9) → (w = 4 → rg v (-1) 5) → (∀ h1 : hp_T, hp_i h1 106 = hp_i h 106 → wp_X8_set (nI b) (nI w) v h1 (fun r2 h2 => mv (hp_i h 106) b w = r2 ∧ Inv h2) = (mv (hp_i h 106) b w = hp_i h 106 (11 + 17 * b + w) ∧ Inv (hp_si h1 106 (11 + 17 * b + w) v))) → ∀ h0, fr PK h h0 → wp_X8_set (nI b) (nI w) v (hp_si h0 (1 + 8 + 3 * b) w v) (fun r2 h2 => mv (hp_i h 106) b w = r2 ∧ Inv h2) := by
    intro w hw g0 g1 g4 hX h0 f0
    have I0 : Inv h0 := Inv_k I (f0.mono fun a j z => Or.inl z)
    have e106 : hp_i h0 106 = hp_i h 106 := by
      funext j
      exact f0.2 106 j (show ¬ ab_k 106 = 17 by decide)
    rw [hX _ (by rw [si_row_ne (by omega), e106])]
    refine ⟨by unfold mv; rw [if_pos (by omega)], Inv_set I0 (by rw [e106]; exact hb) hw g0 g1 g4⟩
  have hX : ∀ w, w = 0 ∨ w = 1 ∨ w = 4 → (w = 0 → 0 ≤ v ∧ v ≤ 6) → (w = 1 → 0 ≤ v ∧ v ≤ 9) → (w = 4 → -1 ≤ v ∧ v ≤ 5) → ∀ h1 : hp_T, hp_i h1 106 = hp_i h 106 → wp_X8_set (nI b) (nI w) v h1 (fun r2 h2 => mv (hp_i h 106) b w = r2 ∧ Inv h2) = (mv (hp_i h 106) b w = hp_i h 106 (11 + 17 * b + w) ∧ Inv (hp_si h1 106 (11 + 17 * b + w) v)) := by
    intro w hw g0 g1 g4 h1 e
    unfold wp_X8_set
    simp only [x_isBunk, in_0_6, in_0_9, in_m1_5, bi_0]
    rw [e, x_its w vb rfl (by omega), x_at w vb rfl (by omega), bc, nI_clamp (n := 11 + 17 * b + w) (by omega), e]
    have vi : vp_in (nI (11 + 17 * b + w)) 357 := vp_in_nI (by omega) (by decide)
    have zz := Classical.not_not.mp z
    rcases hw with rfl | rfl | rfl
    · have := g0 rfl
      have vi' : vp_in (nI (11 + 17 * b)) 357 := vi
      simp [zz, this, vi', nI_0]
    · have := g1 rfl
      have n0 : ¬ nI 1 = 0 := by decide
      have n1 : nI 1 = 1 := rfl
      simp [zz, this, vi, n1]
    · have := g4 rfl
      have n1 : nI 4 = 4 := rfl
      simp [zz, this, vi, n1]
  have bad : ∀ h', hp_i h' 106 = hp_i h 106 → ¬ ((y = 0 ∧ 0 ≤ v ∧ v ≤ 6) ∨ (y = 1 ∧ 0 ≤ v ∧ v ≤ 9) ∨ (y = 4 ∧ -1 ≤ v ∧ v ≤ 5)) → wp_X8_errs (-1000000001) h' (fun r2 h2 => (-1000000001 : Int32) = r2 ∧ Inv h2) → wp_X8_set (nI b) y v h' (fun r2 h2 => (-1000000001 : Int32) = r2 ∧ Inv h2) := by
    intro h' e zb f
    unfold wp_X8_set
    simp only [x_isBunk, in_0_6, in_0_9, in_m1_5, bi_0]
    rw [e]
    refine ⟨fun e0 => ⟨fun w => absurd w z, fun _ => ⟨fun _ => f, fun w => absurd (Or.inl ⟨e0, Classical.not_not.mp w⟩) zb⟩⟩, fun _ => ⟨fun e1 => ⟨fun w => absurd w z, fun _ => ⟨fun _ => f, fun w => absurd (Or.inr (Or.inl ⟨e1, Classical.not_not.mp w⟩)) zb⟩⟩, fun _ => ⟨fun e4 => ⟨fun _ => ⟨fun _ => f, fun _ => f⟩, fun w => absurd (Or.inr (Or.inr ⟨e4, Classical.not_not.mp w⟩)) zb⟩, fun _ => ⟨fun _ => f, fun _ => f⟩⟩⟩⟩
  have ofm : ∀ w, w = 0 ∨ w = 1 ∨ w = 4 → (w = 0 → 0 ≤ v ∧ v ≤ 6) → (w = 1 → 0 ≤ v ∧ v ≤ 9) → (w = 4 → -1 ≤ v ∧ v ≤ 5) → ∀ h0, fr PK h h0 → wp_X8_set (nI b) (nI w) v (hp_si h0 (1 + 8 + 3 * b) w v) (fun r2 h2 => mv (hp_i h 106) b w = r2 ∧ Inv h2) := fun w hw g0 g1 g4 =>
    go w hw (fun e => rg_of (g0 e) rfl rfl) (fun e => rg_of (g1 e) rfl rfl) (fun e => rg_of (g4 e) rfl rfl) (hX w hw g0 g1 g4)
  refine ⟨fun e0 => ⟨fun w => bad _ (er_row (by decide)) (fun q => ?_) (f1 I), fun w => ⟨vb, ?_⟩⟩, fun e0 => ⟨fun e1 => ⟨fun w => bad _ (er_row (by decide)) (fun q => ?_) (f1 I), fun w => ⟨vb, ?_⟩⟩, fun e1 => ⟨fun e2 => ⟨fun _ => bad _ (er_row (by decide)) (fun q => ?_) (f1 I), fun w => absurd trivial w⟩, fun e2 => ⟨fun e3 => ⟨fun _ => bad _ (er_row (by decide)) (fun q => ?_) (f1 I), fun w => absurd trivial w⟩, fun e3 => ⟨fun e4 => ⟨fun w => bad _ (er_row (by decide)) (fun q => ?_) (f1 I), fun w => ⟨vb, ?_⟩⟩, fun e4 => ⟨fun _ => bad _ (er_row (by decide)) (fun q => ?_) (f1 I), fun w => absurd trivial w⟩⟩⟩⟩⟩⟩
  · rcases q with q | q | q
    · exact w q.2
    · rw [e0] at q; exact absurd q.1 (by decide)
    · rw [e0] at q; exact absurd q.1 (by decide)
  · subst e0
    refine w_ofMan (w := 0) V I.R hb (by decide) ?_
    intro h0 f0
    refine ⟨fun _ => ?_, fun n => absurd rfl n⟩
    rintro h1 rfl
    exact ofm 0 (by omega) (fun _ => Classical.not_not.mp w) (by omega) (by omega) h0 f0
  · rcases q with q | q | q
    · exact e0 q.1
    · exact w q.2
    · rw [e1] at q; exact absurd q.1 (by decide)
  · subst e1
    refine w_ofMan (w := 1) V I.R hb (by decide) ?_
    intro h0 f0
    refine ⟨fun n => absurd n (by decide), fun _ => ⟨fun _ => ?_, fun n => absurd rfl n⟩⟩
    rintro h1 rfl
    exact ofm 1 (by omega) (by omega) (fun _ => Classical.not_not.mp w) (by omega) h0 f0
  · rcases q with q | q | q
    · exact e0 q.1
    · exact e1 q.1
    · rw [e2] at q; exact absurd q.1 (by decide)
  · rcases q with q | q | q
    · exact e0 q.1
    · exact e1 q.1
    · rw [e3] at q; exact absurd q.1 (by decide)
  · rcases q with q | q | q
    · exact e0 q.1
    · exact e1 q.1
    · exact w q.2
  · subst e4
    refine w_ofMan (w := 4) V I.R hb (by decide) ?_
    intro h0 f0
    refine ⟨fun n => absurd n (by decide), fun _ => ⟨fun n => absurd n (by decide), fun _ => ?_⟩⟩
    rintro h1 rfl
    exact ofm 4 (by omega) (by omega) (by omega) (fun _ => Classical.not_not.mp w) h0 f0
  · rcases q with q | q | q
    · exact e0 q.1
    · exact e1 q.1
    · exact e4 q.1
/-- he forgets -/
def fg (S : st_T) (c k : Nat) : st_T := ss (ss (ss S (11 + 17 * c + 3) (S (11 + 17 * c + 3) &&& (((1 : Int32) <<< (nI k &&& 31)) ^^^ (-1 : Int32)))) (11 + 17 * c + 5 + k) 0) (11 + 17 * c + 11 + k) 0
theorem bt_fg : (List.range 64).all (fun x => (List.range 6).all fun k => decide (0 ≤ (nI x &&& (((1 : Int32) <<< (nI k &&& 31)) ^^^ (-1 : Int32))).toInt ∧ (nI x &&& (((1 : Int32) <<< (nI k &&& 31)) ^^^ (-1 : Int32))).toInt ≤ 63)) = true := by decide +kernel
theorem fg63 {x : Int32} {k : Nat} (hx : rg x 0 63) (hk : k < 6) : rg (x &&& (((1 : Int32) <<< (nI k &&& 31)) ^^^ (-1 : Int32))) 0 63 := by
  obtain ⟨a, ha, rfl⟩ := rg_nI 63 hx rfl (by decide)
  unfold rg
  exact of_decide_eq_true (List.all_eq_true.mp (List.all_eq_true.mp bt_fg a (List.mem_range.mpr (by omega))) k (List.mem_range.mpr hk))
theorem VB_fg {S : st_T} {b c k : Nat} (hk : k < 6) (h : VB S c) : VB (fg S b k) c := by
  unfold fg
  refine VB_les hk ⟨by decide, by decide⟩ (VB_ver ?_ hk)
  by_cases g : c = b
  · subst g
    exact VB_bk h (by decide) (fun w => absurd w (by decide)) (fun w => absurd w (by decide)) (fun _ => fg63 h.2.2.1 hk) (fun w => absurd w (by decide))
  · unfold VB
    rw [ss_n (by omega), ss_n (by omega), ss_n (by omega), ss_n (by omega)]
    exact ⟨h.1, h.2.1, h.2.2.1, h.2.2.2.1, fun k' hk' => by rw [ss_n (by omega)]; exact h.2.2.2.2 k' hk'⟩
theorem w_forget {h : hp_T} {p : Nat} {T : st_T} {c k : Nat} {Q : hp_T → Prop} (R : RI h p T) (hc : c < cr T) (h6 : c < 6) (hk : k < 6) (hQ : ∀ h1, fr (FB (p + 8 + 3 * c)) h h1 → RI h1 p (fg T c k) → Q h1) : wp_X0_forget (p + 8 + 3 * c) (nI k) h Q := by
  unfold wp_X0_forget
  rintro h1 rfl
  refine ⟨vp_in_nI hk (by decide), ?_⟩
  rintro h2 rfl
  refine ⟨vp_in_nI hk (by decide), ?_⟩
  rintro h3 rfl
  rw [nI_clamp (n := k) (by omega), R.bk 3 hc h6 (by decide)]
  refine hQ _ (((fr_si (P := FB (p + 8 + 3 * c)) (Or.inl rfl)).si (Or.inr (Or.inl rfl))).si (Or.inr (Or.inr rfl))) ?_
  unfold fg
  exact ((R.wbk 3 h6 (by decide)).wver h6 hk).wles h6 hk
theorem fg_o {S : st_T} {c k j : Nat} (h : j ≠ 11 + 17 * c + 3 ∧ j ≠ 11 + 17 * c + 5 + k ∧ j ≠ 11 + 17 * c + 11 + k) : fg S c k j = S j := by
  unfold fg
  rw [ss_n h.2.2, ss_n h.2.1, ss_n h.1]
/-- the known of a bunk has been changed on both sides -/
theorem Inv_kn {h h1 h2 : hp_T} {b k : Nat} {T : st_T} (I : Inv h) (hb : b < cr (hp_i h 106)) (hk : k < 6) (f1 : fr (FB (1 + 8 + 3 * b)) h h1) (R1 : RI h1 1 T) (f2 : fr P106 h1 h2) (e2 : hp_i h2 106 = T) (hT : T = fg (hp_i h 106) b k ∨ ∃ v, T = le (hp_i h 106) b (nI k) v) : Inv h2 := by
  have V := I.V
  have h6 : b < 6 := Nat.lt_of_lt_of_le hb (cr6 V.1)
  have kc : (nI k).toNatClampNeg = k := nI_clamp (by omega)
  have f : fr Pw h h2 := (f1.mono fun a j z => Or.inl (by omega)).trans (f2.mono fun a j z => Or.inr z)
  have o : ∀ j, (j < 11 ∨ 113 ≤ j) → T j = hp_i h 106 j := by
    intro j hj
    rcases hT with rfl | ⟨v, rfl⟩
    · exact fg_o (by omega)
    · exact le_out (by omega) (by rw [kc]; omega)
  have VT' : Vl 9999 T := by
    refine Vl_bunks V (fun i hi _ _ => o i hi) (fun c hc => ?_)
    rcases hT with rfl | ⟨v, rfl⟩
    · exact VB_fg hk (V.2.2.2.2.2.2.2.1 c hc)
    · exact VB_le hk (V.2.2.2.2.2.2.2.1 c hc)
  refine Inv_w I f (by rw [e2]; exact VT') (by rw [e2]; exact R1.fr f2 (fun a j h1 h2 z => by have z : a = 106 := z; omega)) (fun j hj => by rw [e2, o j (by omega)]) ?_
  refine RK_fr ?_ f2 (fun b hb z => by have z : 1 + 8 + 3 * b = 106 := z; omega)
  intro c hc
  by_cases g : c = b
  · subst g
    have hcT : c < cr T := by rw [cr_eq (o 0 (by omega))]; exact hb
    rw [R1.bk 3 hcT hc (by decide)]
    exact (VT'.2.2.2.2.2.2.2.1 c hcT).2.2.1
  · rw [f1.2 _ _ (by omega)]; exact I.K c hc
theorem c_know {x y v : Int32} {h : hp_T} (I : Inv h) : wp_X7_know x y v h (fun r1 h1 => wp_X8_know x y v h1 (fun r2 h2 => r1 = r2 ∧ Inv h2)) := by
  have V := I.V
  unfold wp_X7_know
  simp only [w_isBunk, w_isKnack, w_within, bi_0, er1]
  rw [I.crew]
  have bad : ∀ h', hp_i h' 106 = hp_i h 106 → ¬ ((0 ≤ x ∧ x ≤ hp_i h 106 0 - 1) ∧ (0 ≤ y ∧ y ≤ 5) ∧ -1 ≤ v ∧ v ≤ 999) → wp_X8_errs (-1000000001) h' (fun r2 h2 => (-1000000001 : Int32) = r2 ∧ Inv h2) → wp_X8_know x y v h' (fun r2 h2 => (-1000000001 : Int32) = r2 ∧ Inv h2) := by
    intro h' e z f
    unfold wp_X8_know
    simp only [x_isBunk, x_isKnack, in_m1_999, bi_0]
    rw [e]
    exact ⟨fun _ => f, fun w1 => ⟨fun _ => f, fun w2 => ⟨fun _ => f, fun w3 => absurd ⟨Classical.not_not.mp w1, Classical.not_not.mp w2, Classical.not_not.mp w3⟩ z⟩⟩⟩
  refine ⟨fun z => bad _ (er_row (by decide)) (fun q => z q.1) (f1 I), fun z => ⟨fun z2 => bad _ (er_row (by decide)) (fun q => z2 q.2.1) (f1 I), fun z2 => ⟨fun z3 => bad _ (er_row (by decide)) (fun q => z3 q.2.2) (f1 I), fun z3 => ?_⟩⟩⟩
  obtain ⟨b, hb, rfl⟩ := bunk_of V.1 (Classical.not_not.mp z)
  obtain ⟨k, hk, rfl⟩ := nat_of (n := 5) (Classical.not_not.mp z2) rfl
  have h6 : b < 6 := Nat.lt_of_lt_of_le hb (cr6 V.1)
  have k6 : k < 6 := by omega
  have vb : vp_in (nI b) 6 := vp_in_nI h6 (by decide)
  have vk : vp_in (nI k) 6 := vp_in_nI k6 (by decide)
  have bc : (nI b).toNatClampNeg = b := nI_clamp (by omega)
  have kc : (nI k).toNatClampNeg = k := nI_clamp (by omega)
  have good : ∀ h' Q, hp_i h' 106 = hp_i h 106 → wp_X8_know (nI b) (nI k) v h' Q = ((kn (hp_i h 106) b (nI k) = false → wp_X8_know_b57 (nI b) (nI k) v Q (-1) h') ∧ (¬ kn (hp_i h 106) b (nI k) = false → wp_X8_know_b57 (nI b) (nI k) v Q (hp_i h 106 (11 + 17 * b + 5 + k)) h')) := by
    intro h' Q e
    unfold wp_X8_know
    simp only [x_isBunk, x_isKnack, in_m1_999, bi_0, x_isKnowing vb, x_itsV vb vk, bc, kc]
    rw [e]
    have a1 := Classical.not_not.mp z
    have a2 := Classical.not_not.mp z2
    have a3 := Classical.not_not.mp z3
    unfold kn
    simp [a1, a2, a3]
  have mb : ∀ h' Q r, hp_i h' 106 = hp_i h 106 → ((0 ≤ v → ∀ h2, fr P106 h' h2 → hp_i h2 106 = le (hp_i h 106) b (nI k) v → Q r h2) ∧ (¬ 0 ≤ v → ∀ h2, fr P106 h' h2 → hp_i h2 106 = fg (hp_i h 106) b k → Q r h2)) → wp_X8_know_b57 (nI b) (nI k) v Q r h' := by
    intro h' Q r e ⟨g1, g2⟩
    unfold wp_X8_know_b57
    rw [x_at 3 vb (show (3 : Int32) = nI 3 from rfl) (by decide), x_at 3 vb (show (3 : Int32) = nI 3 from rfl) (by decide), bc, nI_clamp (n := 11 + 17 * b + 3) (by omega), e]
    have v3 : vp_in (nI (11 + 17 * b + 3)) 357 := vp_in_nI (by omega) (by decide)
    refine ⟨fun p => ⟨v3, v3, ?_⟩, fun p => ⟨v3, v3, ?_⟩⟩
    · rintro h2 rfl
      rw [x_at (5 + k) vb (show (5 : Int32) + nI k = nI (5 + k) from nI_add 5 k) (by omega), bc, nI_clamp (n := 11 + 17 * b + (5 + k)) (by omega)]
      refine ⟨vp_in_nI (by omega) (by decide), ?_⟩
      rintro h3 rfl
      refine g1 p _ ((fr_si (P := P106) rfl).si rfl) ?_
      rw [si_row, si_row, e]
      unfold le
      rw [kc, Nat.add_assoc (11 + 17 * b)]
    · rintro h2 rfl
      rw [x_at (5 + k) vb (show (5 : Int32) + nI k = nI (5 + k) from nI_add 5 k) (by omega), bc, nI_clamp (n := 11 + 17 * b + (5 + k)) (by omega)]
      refine ⟨vp_in_nI (by omega) (by decide), ?_⟩
      rintro h3 rfl
      rw [x_at (11 + k) vb (show (11 : Int32) + nI k = nI (11 + k) from nI_add 11 k) (by omega), bc, nI_clamp (n := 11 + 17 * b + (11 + k)) (by omega)]
      refine ⟨vp_in_nI (by omega) (by decide), ?_⟩
      rintro h4 rfl
      refine g2 p _ (((fr_si (P := P106) rfl).si rfl).si rfl) ?_
      rw [si_row, si_row, si_row, e]
      unfold fg
      rw [Nat.add_assoc (11 + 17 * b), Nat.add_assoc (11 + 17 * b)]
  rw [bc]
  simp only [w_knows, bi_0, kc]
  rw [I.R.i.bk 3 hb h6 (by decide), I.R.i.ver hb h6 k6]
  have row : ∀ h1, fr (FB (1 + 8 + 3 * b)) h h1 → hp_i h1 106 = hp_i h 106 := fun h1 f => by
    funext j
    exact f.2 106 j (by omega)
  have fin : ∀ (h1 : hp_T) (T : st_T) (r : Int32), fr (FB (1 + 8 + 3 * b)) h h1 → RI h1 1 T → (T = fg (hp_i h 106) b k ∨ ∃ v, T = le (hp_i h 106) b (nI k) v) → ∀ h2, fr P106 h1 h2 → hp_i h2 106 = T → (r = r ∧ Inv h2) := fun h1 T r f R hT h2 f2 e2 => ⟨rfl, Inv_kn I hb k6 f R f2 e2 hT⟩
  refine ⟨vb, fun n => ⟨fun p => ?_, fun p => ?_⟩, fun n => ⟨vk, fun p => ?_, fun p => ?_⟩⟩
  · refine w_learn I.R.i hb h6 k6 ?_
    intro h1 f1 R1
    rw [good _ _ (row h1 f1)]
    refine ⟨fun q => mb _ _ _ (row h1 f1) ⟨fun _ => fin h1 _ _ f1 R1 (Or.inr ⟨v, rfl⟩), fun q => absurd p q⟩, fun q => absurd ⟨Classical.not_not.mp z2, by simpa [kn] using q⟩ n⟩
  · refine w_forget I.R.i hb h6 k6 ?_
    intro h1 f1 R1
    rw [good _ _ (row h1 f1)]
    refine ⟨fun q => mb _ _ _ (row h1 f1) ⟨fun q => absurd q p, fun _ => fin h1 _ _ f1 R1 (Or.inl rfl)⟩, fun q => absurd ⟨Classical.not_not.mp z2, by simpa [kn] using q⟩ n⟩
  · have n := Classical.not_not.mp n
    refine w_learn I.R.i hb h6 k6 ?_
    intro h1 f1 R1
    rw [good _ _ (row h1 f1)]
    refine ⟨fun q => absurd (show kn (hp_i h 106) b (nI k) = true from n.2) (by rw [q]; decide), fun q => mb _ _ _ (row h1 f1) ⟨fun _ => fin h1 _ _ f1 R1 (Or.inr ⟨v, rfl⟩), fun q => absurd p q⟩⟩
  · have n := Classical.not_not.mp n
    refine w_forget I.R.i hb h6 k6 ?_
    intro h1 f1 R1
    rw [good _ _ (row h1 f1)]
    refine ⟨fun q => absurd (show kn (hp_i h 106) b (nI k) = true from n.2) (by rw [q]; decide), fun q => mb _ _ _ (row h1 f1) ⟨fun q => absurd q p, fun _ => fin h1 _ _ f1 R1 (Or.inl rfl)⟩⟩
