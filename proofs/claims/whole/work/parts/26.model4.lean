/-! ===== PURE: the reference: what holds of the row stays; days ===== -/
theorem lp_ind {α : Type} {f : Nat → α → α} (P : α → Prop) : ∀ (n i : Nat) (a : α), (∀ j x, i ≤ j → j < i + n → P x → P (f j x)) → P a → P (lp f i n a) := by
  intro n
  induction n with
  | zero => intro i a _ h; exact h
  | succ n ih => intro i a hf h; exact ih (i + 1) (f i a) (fun j x h1 h2 => hf j x (by omega) (by omega)) (hf i a (by omega) (by omega) h)
theorem rg_hl {x lo hi : Int32} {a b : Int} (ha : lo.toInt = a) (hb : hi.toInt = b) (h : a ≤ b) : rg (hl x lo hi) a b := by
  unfold hl rg
  split
  · rename_i h1
    rw [i_le] at h1
    split
    · rename_i h2
      rw [i_le] at h2
      omega
    · omega
  · omega
theorem bt_or : (List.range 64).all (fun x => (List.range 64).all fun y => decide (0 ≤ (nI x ||| nI y).toInt ∧ (nI x ||| nI y).toInt ≤ 63)) = true := by decide +kernel
theorem bt_or1 : (List.range 64).all (fun x => (List.range 6).all fun k => decide (0 ≤ (nI x ||| (1 <<< (nI k &&& 31))).toInt ∧ (nI x ||| (1 <<< (nI k &&& 31))).toInt ≤ 63)) = true := by decide +kernel
theorem bt_km : (List.range 70).all (fun x => decide ((0 ≤ (nI x / 10).toInt ∧ (nI x / 10).toInt ≤ 6) ∧ 0 ≤ (nI x - nI x / 10 * 10).toInt ∧ (nI x - nI x / 10 * 10).toInt ≤ 9)) = true := by decide +kernel
theorem or63 {x y : Int32} (hx : rg x 0 63) (hy : rg y 0 63) : rg (x ||| y) 0 63 := by
  obtain ⟨a, ha, rfl⟩ := rg_nI 63 hx rfl (by decide)
  obtain ⟨b, hb, rfl⟩ := rg_nI 63 hy rfl (by decide)
  unfold rg
  exact of_decide_eq_true (List.all_eq_true.mp (List.all_eq_true.mp bt_or a (List.mem_range.mpr (by omega))) b (List.mem_range.mpr (by omega)))
theorem or1 {x : Int32} {k : Nat} (hx : rg x 0 63) (hk : k < 6) : rg (x ||| (1 <<< (nI k &&& 31))) 0 63 := by
  obtain ⟨a, ha, rfl⟩ := rg_nI 63 hx rfl (by decide)
  unfold rg
  exact of_decide_eq_true (List.all_eq_true.mp (List.all_eq_true.mp bt_or1 a (List.mem_range.mpr (by omega))) k (List.mem_range.mpr hk))
theorem km_d {x : Int32} (hx : rg x 0 69) : rg (x / 10) 0 6 ∧ rg (x - x / 10 * 10) 0 9 := by
  obtain ⟨a, ha, rfl⟩ := rg_nI 69 hx rfl (by decide)
  unfold rg
  exact of_decide_eq_true (List.all_eq_true.mp bt_km a (List.mem_range.mpr (by omega)))
theorem cr6 {S : st_T} (hc : rg (S 0) 0 6) : cr S ≤ 6 := (cr_nI hc).2
theorem VX_eq {S S' : st_T} {u : Nat} (h9 : S' (9 + u) = S (9 + u)) (hc : ∀ j, 237 ≤ j → S' j = S j) (h : VX S u) : VX S' u := by
  have e : cd S' u = cd S u := by funext i; exact hc _ (by omega)
  unfold VX at h ⊢
  rw [h9, e]
  exact h
theorem Vl_bunks {D : Int} {S S' : st_T} (h : Vl D S) (e : ∀ i, (i < 11 ∨ 113 ≤ i) → i ≠ 5 → i ≠ 6 → S' i = S i) (hb : ∀ b, b < cr S → VB S' b) : Vl D S' := by
  obtain ⟨a0, a1, a2, a3, a4, a7, a8, ab, ar, at', atp, ax⟩ := h
  have e0 : S' 0 = S 0 := e 0 (by omega) (by omega) (by omega)
  have e1 : S' 1 = S 1 := e 1 (by omega) (by omega) (by omega)
  have e7 : S' 7 = S 7 := e 7 (by omega) (by omega) (by omega)
  refine ⟨by rw [e0]; exact a0, by rw [e1]; exact a1, by rw [e1, e 2 (by omega) (by omega) (by omega)]; exact a2, by rw [e 3 (by omega) (by omega) (by omega)]; exact a3, by rw [e 4 (by omega) (by omega) (by omega)]; exact a4, by rw [e7]; exact a7, by rw [e 8 (by omega) (by omega) (by omega)]; exact a8, ?_, ?_, ?_, ?_, ?_⟩
  · intro b hb'
    exact hb b (by unfold cr at hb' ⊢; rw [← e0]; exact hb')
  · intro r hr
    unfold en at hr
    rw [e1] at hr
    rw [e (113 + 2 * r) (by omega) (by omega) (by omega), e (114 + 2 * r) (by omega) (by omega) (by omega)]
    exact ar r hr
  · intro t ht
    unfold VT
    rw [e (137 + 4 * t) (by omega) (by omega) (by omega), e (137 + 4 * t + 1) (by omega) (by omega) (by omega), e (137 + 4 * t + 2) (by omega) (by omega) (by omega), e (137 + 4 * t + 3) (by omega) (by omega) (by omega)]
    exact at' t ht
  · intro q hq
    rw [e7] at hq
    rw [e (153 + q) (by omega) (by omega) (by omega)]
    exact atp q hq
  · intro u hu
    exact VX_eq (e _ (by omega) (by omega) (by omega)) (fun j hj => e j (by omega) (by omega) (by omega)) (ax u hu)
theorem Vl_tasks {D : Int} {S S' : st_T} (h : Vl D S) (e : ∀ i, (i < 137 ∨ 153 ≤ i) → S' i = S i) (ht : ∀ t, t < 4 → VT S' t) : Vl D S' := by
  obtain ⟨a0, a1, a2, a3, a4, a7, a8, ab, ar, at', atp, ax⟩ := h
  have e0 : S' 0 = S 0 := e 0 (by omega)
  have e1 : S' 1 = S 1 := e 1 (by omega)
  have e7 : S' 7 = S 7 := e 7 (by omega)
  refine ⟨by rw [e0]; exact a0, by rw [e1]; exact a1, by rw [e1, e 2 (by omega)]; exact a2, by rw [e 3 (by omega)]; exact a3, by rw [e 4 (by omega)]; exact a4, by rw [e7]; exact a7, by rw [e 8 (by omega)]; exact a8, ?_, ?_, ht, ?_, ?_⟩
  · intro b hb'
    unfold cr at hb'
    rw [e0] at hb'
    have h6 := cr6 a0
    have hb6 : b < 6 := Nat.lt_of_lt_of_le hb' h6
    unfold VB
    rw [e (11 + 17 * b) (by omega), e (11 + 17 * b + 1) (by omega), e (11 + 17 * b + 3) (by omega), e (11 + 17 * b + 4) (by omega)]
    refine ⟨(ab b hb').1, (ab b hb').2.1, (ab b hb').2.2.1, (ab b hb').2.2.2.1, fun k hk => ?_⟩
    rw [e (11 + 17 * b + 11 + k) (by omega)]
    exact (ab b hb').2.2.2.2 k hk
  · intro r hr
    unfold en at hr
    rw [e1] at hr
    have h12 : en S ≤ 12 := by
      obtain ⟨c, hc, e⟩ := rg_nI 12 a1 rfl (by decide)
      unfold en; rw [e, nI_clamp (by omega)]; omega
    have := Nat.lt_of_lt_of_le hr h12
    rw [e (113 + 2 * r) (by omega), e (114 + 2 * r) (by omega)]
    exact ar r hr
  · intro q hq
    rw [e7] at hq
    rw [e (153 + q) (by omega)]
    exact atp q hq
  · intro u hu
    exact VX_eq (e _ (by omega)) (fun j hj => e j (by omega)) (ax u hu)
/-- a write at 2 or 3 -/
theorem VB_ss {S : st_T} {i b : Nat} {v : Int32} (hi : i < 11 ∨ 113 ≤ i) (hb : b < 6) (h : VB S b) : VB (ss S i v) b := by
  unfold VB
  rw [ss_n (by omega), ss_n (by omega), ss_n (by omega), ss_n (by omega)]
  exact ⟨h.1, h.2.1, h.2.2.1, h.2.2.2.1, fun k hk => by rw [ss_n (by omega)]; exact h.2.2.2.2 k hk⟩
theorem Vl_lo {D D' : Int} {S S' : st_T} (h : Vl D S) (e : ∀ i, i ≠ 2 → i ≠ 3 → S' i = S i) (h2 : rg (S' 2) 0 11 ∧ ((S' 2).toInt < (S 1).toInt ∨ ((S 1).toInt = 0 ∧ (S' 2).toInt = 0))) (h3 : rg (S' 3) 0 D') : Vl D' S' := by
  obtain ⟨a0, a1, a2, a3, a4, a7, a8, ab, ar, at', atp, ax⟩ := h
  have e0 : S' 0 = S 0 := e 0 (by omega) (by omega)
  have e1 : S' 1 = S 1 := e 1 (by omega) (by omega)
  have e7 : S' 7 = S 7 := e 7 (by omega) (by omega)
  refine ⟨by rw [e0]; exact a0, by rw [e1]; exact a1, by rw [e1]; exact h2, h3, by rw [e 4 (by omega) (by omega)]; exact a4, by rw [e7]; exact a7, by rw [e 8 (by omega) (by omega)]; exact a8, ?_, ?_, ?_, ?_, ?_⟩
  · intro b hb'
    unfold cr at hb'
    rw [e0] at hb'
    unfold VB
    rw [e (11 + 17 * b) (by omega) (by omega), e (11 + 17 * b + 1) (by omega) (by omega), e (11 + 17 * b + 3) (by omega) (by omega), e (11 + 17 * b + 4) (by omega) (by omega)]
    refine ⟨(ab b hb').1, (ab b hb').2.1, (ab b hb').2.2.1, (ab b hb').2.2.2.1, fun k hk => ?_⟩
    rw [e (11 + 17 * b + 11 + k) (by omega) (by omega)]
    exact (ab b hb').2.2.2.2 k hk
  · intro r hr
    unfold en at hr
    rw [e1] at hr
    rw [e (113 + 2 * r) (by omega) (by omega), e (114 + 2 * r) (by omega) (by omega)]
    exact ar r hr
  · intro t ht
    unfold VT
    rw [e (137 + 4 * t) (by omega) (by omega), e (137 + 4 * t + 1) (by omega) (by omega), e (137 + 4 * t + 2) (by omega) (by omega), e (137 + 4 * t + 3) (by omega) (by omega)]
    exact at' t ht
  · intro q hq
    rw [e7] at hq
    rw [e (153 + q) (by omega) (by omega)]
    exact atp q hq
  · intro u hu
    exact VX_eq (e _ (by omega) (by omega)) (fun j hj => e j (by omega) (by omega)) (ax u hu)
theorem cm_out {S : st_T} {b j : Nat} {km br bk dy : Int32} (h : j < 11 + 17 * b ∨ 11 + 17 * b + 17 ≤ j ∨ j = 11 + 17 * b + 4) : cm S b km br bk dy j = S j := by
  unfold cm
  rw [if_neg (show ¬ j = 11 + 17 * b by omega), if_neg (show ¬ j = 11 + 17 * b + 1 by omega), if_neg (show ¬ j = 11 + 17 * b + 2 by omega), if_neg (show ¬ j = 11 + 17 * b + 3 by omega), if_neg (show ¬ (11 + 17 * b + 5 ≤ j ∧ j < 11 + 17 * b + 11) by omega), if_neg (show ¬ (11 + 17 * b + 11 ≤ j ∧ j < 11 + 17 * b + 17) by omega)]
theorem cm_0 {S : st_T} {b : Nat} {km br bk dy : Int32} : cm S b km br bk dy (11 + 17 * b) = km / 10 := by unfold cm; rw [if_pos rfl]
theorem cm_1 {S : st_T} {b : Nat} {km br bk dy : Int32} : cm S b km br bk dy (11 + 17 * b + 1) = km - km / 10 * 10 := by unfold cm; rw [if_neg (by omega), if_pos rfl]
theorem cm_2 {S : st_T} {b : Nat} {km br bk dy : Int32} : cm S b km br bk dy (11 + 17 * b + 2) = dy := by unfold cm; rw [if_neg (by omega), if_neg (by omega), if_pos rfl]
theorem cm_3 {S : st_T} {b : Nat} {km br bk dy : Int32} : cm S b km br bk dy (11 + 17 * b + 3) = br ||| bk := by unfold cm; rw [if_neg (by omega), if_neg (by omega), if_neg (by omega), if_pos rfl]
theorem cm_v {S : st_T} {b k : Nat} {km br bk dy : Int32} (hk : k < 6) : cm S b km br bk dy (11 + 17 * b + 5 + k) = if kb br (nI k) = true then 1 else 0 := by
  unfold cm
  rw [if_neg (show ¬ 11 + 17 * b + 5 + k = 11 + 17 * b by omega), if_neg (show ¬ 11 + 17 * b + 5 + k = 11 + 17 * b + 1 by omega), if_neg (show ¬ 11 + 17 * b + 5 + k = 11 + 17 * b + 2 by omega), if_neg (show ¬ 11 + 17 * b + 5 + k = 11 + 17 * b + 3 by omega), if_pos (show 11 + 17 * b + 5 ≤ 11 + 17 * b + 5 + k ∧ 11 + 17 * b + 5 + k < 11 + 17 * b + 11 by omega), show 11 + 17 * b + 5 + k - (11 + 17 * b + 5) = k by omega]
theorem cm_l {S : st_T} {b k : Nat} {km br bk dy : Int32} (hk : k < 6) : cm S b km br bk dy (11 + 17 * b + 11 + k) = 0 := by
  unfold cm
  rw [if_neg (show ¬ 11 + 17 * b + 11 + k = 11 + 17 * b by omega), if_neg (show ¬ 11 + 17 * b + 11 + k = 11 + 17 * b + 1 by omega), if_neg (show ¬ 11 + 17 * b + 11 + k = 11 + 17 * b + 2 by omega), if_neg (show ¬ 11 + 17 * b + 11 + k = 11 + 17 * b + 3 by omega), if_neg (show ¬ (11 + 17 * b + 5 ≤ 11 + 17 * b + 11 + k ∧ 11 + 17 * b + 11 + k < 11 + 17 * b + 11) by omega), if_pos (show 11 + 17 * b + 11 ≤ 11 + 17 * b + 11 + k ∧ 11 + 17 * b + 11 + k < 11 + 17 * b + 17 by omega)]
theorem VB_cm {S : st_T} {b c : Nat} {km br bk dy : Int32} (hkm : rg km 0 69) (hbr : rg br 0 63) (hbk : rg bk 0 63) (h4 : rg (S (11 + 17 * b + 4)) (-1) 5) (h : c ≠ b → VB S c) : VB (cm S b km br bk dy) c := by
  by_cases e : c = b
  · subst e
    unfold VB
    rw [cm_0, cm_1, cm_3, cm_out (by omega)]
    refine ⟨(km_d hkm).1, (km_d hkm).2, or63 hbr hbk, h4, fun k hk => ?_⟩
    rw [cm_l hk]
    exact ⟨by decide, by decide⟩
  · have h := h e
    unfold VB
    rw [cm_out (by omega), cm_out (by omega), cm_out (by omega), cm_out (by omega)]
    refine ⟨h.1, h.2.1, h.2.2.1, h.2.2.2.1, fun k hk => ?_⟩
    rw [cm_out (by omega)]
    exact h.2.2.2.2 k hk
theorem en12 {S : st_T} (h : rg (S 1) 0 12) : S 1 = nI (en S) ∧ en S ≤ 12 := by
  obtain ⟨c, hc, e⟩ := rg_nI 12 h rfl (by decide)
  have e2 : en S = c := by unfold en; rw [e, nI_clamp (by omega)]
  rw [e2]; exact ⟨e, hc⟩
theorem rl1_out {S : st_T} {j : Nat} (hj : j < 11 ∨ 113 ≤ j) (h2 : j ≠ 2) (h6 : rb S < 6) : rl1 S j = S j := by
  unfold rl1
  rw [ss_n h2, cm_out (by omega)]
theorem rl_pos {S : st_T} {D : Int} (hV : Vl D S) (h0 : ¬ S 0 ≤ 0) : 0 < cr S ∧ rb S < cr S ∧ cr S ≤ 6 := by
  obtain ⟨p0, q0, r0⟩ := pos_nI hV.1 (n := 6) rfl (by decide) h0
  exact ⟨p0, (rb_nI hV.1 p0 hV.2.2.2.1).2, r0⟩
theorem Vl_rl {D : Int} {S : st_T} (hV : Vl D S) : Vl D (rl S).1 := by
  by_cases z : S 0 ≤ 0 ∨ S 1 ≤ 0 ∨ ry S (rb S)
  · have e : rl S = (S, 0) := by unfold rl; rw [if_pos z]
    rw [e]; exact hV
  · have e : rl S = (rl1 S, 1) := by unfold rl; rw [if_neg z]
    rw [e]
    show Vl D (rl1 S)
    obtain ⟨p0, p1, p2⟩ := rl_pos hV (fun x => z (Or.inl x))
    obtain ⟨q0, q1, q2⟩ := pos_nI hV.2.1 (n := 12) rfl (by decide) (fun x => z (Or.inr (Or.inl x)))
    obtain ⟨n, hn, e2⟩ := rg_nI 11 hV.2.2.1.1 rfl (by decide)
    have hne : n < en S := by
      have := hV.2.2.1.2
      rw [e2, i_nI (by omega)] at this
      have h1 : (S 1).toInt = (en S : Int) := by conv => lhs; rw [q1]
                                                 rw [i_nI (by omega)]
      rw [h1] at this
      have h0 : 0 < en S := q0
      omega
    obtain ⟨r1, r2⟩ := hV.2.2.2.2.2.2.2.2.1 n hne
    unfold rl1
    have hb : Vl D (cm S (rb S) (S (113 + 2 * (S 2).toNatClampNeg)) (S (114 + 2 * (S 2).toNatClampNeg)) (S 4) (S 3)) := by
      refine Vl_bunks hV (fun i hi _ _ => cm_out (by omega)) (fun b hb => ?_)
      rw [e2, nI_clamp (by omega)]
      exact VB_cm r1 r2 hV.2.2.2.2.1 (hV.2.2.2.2.2.2.2.1 _ p1).2.2.2.1 (fun _ => hV.2.2.2.2.2.2.2.1 _ hb)
    have c1 : cm S (rb S) (S (113 + 2 * (S 2).toNatClampNeg)) (S (114 + 2 * (S 2).toNatClampNeg)) (S 4) (S 3) 1 = S 1 := cm_out (by omega)
    have c3 : cm S (rb S) (S (113 + 2 * (S 2).toNatClampNeg)) (S (114 + 2 * (S 2).toNatClampNeg)) (S 4) (S 3) 3 = S 3 := cm_out (by omega)
    refine Vl_lo hb (fun i h2 _ => ss_n h2) ?_ ?_
    · rw [c1, ss_i, e2]
      have h0 : 0 < en S := q0
      have h12 : en S ≤ 12 := q2
      have ev : (nI n + 1) - (nI n + 1) / S 1 * S 1 = nI ((n + 1) % en S) := by
        conv => lhs; rw [(en12 hV.2.1).1]
        rw [show nI n + 1 = nI (n + 1) from nI_1 n]
        exact pk_rem (by omega) h0 (by omega)
      have hm := Nat.mod_lt (n + 1) h0
      have h12 : en S ≤ 12 := q2
      have e1 : (S 1).toInt = (en S : Int) := by
        conv => lhs; rw [(en12 hV.2.1).1]
        rw [i_nI (by omega)]
      rw [ev, i_nI (by omega), e1]
      unfold rg
      rw [i_nI (by omega)]
      omega
    · rw [ss_n (by decide), c3]
      exact hV.2.2.2.1
theorem rl_out {S : st_T} {D : Int} {j : Nat} (hV : Vl D S) (hj : j < 11 ∨ 113 ≤ j) (h2 : j ≠ 2) : (rl S).1 j = S j := by
  by_cases z : S 0 ≤ 0 ∨ S 1 ≤ 0 ∨ ry S (rb S)
  · have e : rl S = (S, 0) := by unfold rl; rw [if_pos z]
    rw [e]
  · have e : rl S = (rl1 S, 1) := by unfold rl; rw [if_neg z]
    rw [e]
    obtain ⟨p0, p1, p2⟩ := rl_pos hV (fun x => z (Or.inl x))
    exact rl1_out hj h2 (by omega)
theorem le_out {S : st_T} {c j : Nat} {k v : Int32} (h : j ≠ 11 + 17 * c + 3) (h2 : j ≠ 11 + 17 * c + 5 + k.toNatClampNeg) : le S c k v j = S j := by
  unfold le
  rw [ss_n h2, ss_n h]
theorem VB_le {S : st_T} {c b k : Nat} {v : Int32} (hk : k < 6) (h : VB S b) : VB (le S c (nI k) v) b := by
  have ek : (nI k).toNatClampNeg = k := nI_clamp (by omega)
  unfold VB
  rw [le_out (by omega) (by rw [ek]; omega), le_out (by omega) (by rw [ek]; omega), le_out (j := 11 + 17 * b + 4) (by omega) (by rw [ek]; omega)]
  refine ⟨h.1, h.2.1, ?_, h.2.2.2.1, fun k' hk' => ?_⟩
  · unfold le
    rw [ss_n (by rw [ek]; omega)]
    by_cases e : b = c
    · subst e
      rw [ss_i]
      exact or1 h.2.2.1 hk
    · rw [ss_n (by omega)]
      exact h.2.2.1
  · rw [le_out (by omega) (by rw [ek]; omega)]
    exact h.2.2.2.2 k' hk'
/-- what a lesson can make of the row -/
theorem ls_case (dr : Bool) (b : Nat) (S : st_T) (h4 : (S (11 + 17 * b + 4)).toInt ≤ 5) : (ls dr b S).1 = S ∨ ∃ k L, k < 6 ∧ rg L 0 99 ∧ ((ls dr b S).1 = ss S (11 + 17 * nx S b + 11 + k) L ∨ (∃ v, (ls dr b S).1 = le (ss S (11 + 17 * nx S b + 11 + k) L) (nx S b) (nI k) v) ∨ ∃ z v, (ls dr b S).1 = le (ss (ss S (11 + 17 * nx S b + 11 + k) L) 6 z) (nx S b) (nI k) v) := by
  unfold ls
  split
  · rename_i z
    refine Or.inr ?_
    have z1 := z.1
    rw [i_le] at z1
    obtain ⟨k, hk, ek⟩ : ∃ k, k ≤ 5 ∧ S (11 + 17 * b + 4) = nI k := rg_nI (b := 5) 5 ⟨z1, h4⟩ rfl (by decide)
    rw [ek, nI_clamp (show k < 2 ^ 31 by omega)]
    refine ⟨k, hl (S (11 + 17 * nx S b + 11 + k) + 1) 0 99, by omega, rg_hl rfl rfl (by decide), ?_⟩
    generalize hl (S (11 + 17 * nx S b + 11 + k) + 1) 0 99 = L
    split
    · refine Or.inr ?_
      unfold ls1
      split
      · split
        · exact Or.inr ⟨_, _, rfl⟩
        · exact Or.inr ⟨_, _, rfl⟩
      · exact Or.inl ⟨_, rfl⟩
    · exact Or.inl rfl
  · exact Or.inl rfl
theorem VB_les {S : st_T} {c b k : Nat} {L : Int32} (hk : k < 6) (hL : rg L 0 99) (h : VB S b) : VB (ss S (11 + 17 * c + 11 + k) L) b := by
  unfold VB
  rw [ss_n (by omega), ss_n (by omega), ss_n (by omega), ss_n (by omega)]
  refine ⟨h.1, h.2.1, h.2.2.1, h.2.2.2.1, fun k' hk' => ?_⟩
  by_cases e : 11 + 17 * b + 11 + k' = 11 + 17 * c + 11 + k
  · rw [e, ss_i]; exact hL
  · rw [ss_n e]; exact h.2.2.2.2 k' hk'
theorem ls_out {D : Int} {S : st_T} {dr : Bool} {b j : Nat} (hV : Vl D S) (hb : b < cr S) (hj : j < 11 ∨ 113 ≤ j) (h6 : j ≠ 6) : (ls dr b S).1 j = S j := by
  have hc := cr6 hV.1
  have hn := (nx_nI hV.1 hb).2
  rcases ls_case dr b S (hV.2.2.2.2.2.2.2.1 b hb).2.2.2.1.2 with e | ⟨k, L, hk, hL, e | ⟨v, e⟩ | ⟨z, v, e⟩⟩
  · rw [e]
  · rw [e, ss_n (by omega)]
  · rw [e, le_out (by omega) (by rw [nI_clamp (by omega)]; omega), ss_n (by omega)]
  · rw [e, le_out (by omega) (by rw [nI_clamp (by omega)]; omega), ss_n h6, ss_n (by omega)]
theorem Vl_ls {D : Int} {S : st_T} (dr : Bool) {b : Nat} (hV : Vl D S) (hb : b < cr S) : Vl D (ls dr b S).1 := by
  have hc := cr6 hV.1
  refine Vl_bunks hV (fun i hi _ h6 => ls_out hV hb hi h6) (fun c hc' => ?_)
  have hB := hV.2.2.2.2.2.2.2.1 c hc'
  rcases ls_case dr b S (hV.2.2.2.2.2.2.2.1 b hb).2.2.2.1.2 with e | ⟨k, L, hk, hL, e | ⟨v, e⟩ | ⟨z, v, e⟩⟩
  · rw [e]; exact hB
  · rw [e]; exact VB_les hk hL hB
  · rw [e]; exact VB_le hk (VB_les hk hL hB)
  · rw [e]; exact VB_le hk (VB_ss (by omega) (by omega) (VB_les hk hL hB))
/-- the lessons: what holds on the way -/
def lsF (dr : Bool) (b : Nat) (x : st_T × Int32) : st_T × Int32 := ((ls dr b x.1).1, x.2 + (ls dr b x.1).2)
theorem lss_ind {D : Int} {S : st_T} {dr : Bool} : ∀ (r i : Nat) (x : st_T × Int32), i + r = cr S → Vl D x.1 → (∀ j, (j < 11 ∨ 113 ≤ j) → j ≠ 6 → x.1 j = S j) → Vl D (lp (lsF dr) i r x).1 ∧ ∀ j, (j < 11 ∨ 113 ≤ j) → j ≠ 6 → (lp (lsF dr) i r x).1 j = S j := by
  intro r
  induction r with
  | zero => intro i x _ h1 h2; exact ⟨h1, h2⟩
  | succ r ih =>
    intro i x hi h1 h2
    have hb : i < cr x.1 := by
      have e : cr x.1 = cr S := by unfold cr; rw [h2 0 (by decide) (by decide)]
      omega
    refine ih (i + 1) (lsF dr i x) (by omega) (Vl_ls dr h1 hb) (fun j hj h6 => ?_)
    show (ls dr i x.1).1 j = _
    rw [ls_out h1 hb hj h6, h2 j hj h6]
theorem lss_all {D : Int} {S : st_T} {dr : Bool} (hV : Vl D S) : Vl D (lss dr S).1 ∧ ∀ j, (j < 11 ∨ 113 ≤ j) → j ≠ 6 → (lss dr S).1 j = S j := by
  unfold lss
  by_cases h : cr S ≤ 1
  · rw [if_pos h]; exact ⟨hV, fun _ _ _ => rfl⟩
  · rw [if_neg h]; exact lss_ind (cr S) 0 (S, 0) (by omega) hV (fun _ _ _ => rfl)
theorem tkF_out {t : Nat} {S : st_T} {j : Nat} (hj : j ≠ 137 + 4 * t + 2 ∧ j ≠ 137 + 4 * t + 3) : tkF t S j = S j := by
  unfold tkF
  split
  · exact ss_n hj.2
  · exact ss_n hj.1
theorem Vl_tkF {D : Int} {S : st_T} {t : Nat} (ht : t < 4) (hV : Vl D S) : Vl D (tkF t S) := by
  have hT := hV.2.2.2.2.2.2.2.2.2.1
  refine Vl_tasks hV (fun i hi => tkF_out (by omega)) (fun t' ht' => ?_)
  have h := hT t' ht'
  unfold VT
  rw [tkF_out (by omega), tkF_out (by omega)]
  refine ⟨h.1, h.2.1, ?_⟩
  unfold tkF
  by_cases e : t' = t
  · subst e
    split
    · rw [ss_i, ss_n (by omega)]
      exact ⟨h.2.2.1, rg_hl rfl rfl (by decide)⟩
    · rw [ss_i, ss_n (by omega)]
      exact ⟨rg_hl rfl rfl (by decide), h.2.2.2⟩
  · split
    · rw [ss_n (by omega), ss_n (by omega)]
      exact h.2.2
    · rw [ss_n (by omega), ss_n (by omega)]
      exact h.2.2
theorem tk_eq {S : st_T} : tk S = lp tkF 0 4 S := rfl
theorem Vl_tk {D : Int} {S : st_T} (hV : Vl D S) : Vl D (tk S) := by
  rw [tk_eq]
  exact lp_ind (Vl D) 4 0 S (fun j x _ h2 h => Vl_tkF (by omega) h) hV
theorem tk_out {S : st_T} {j : Nat} (hj : j < 137 ∨ 153 ≤ j) : tk S j = S j := by
  rw [tk_eq]
  exact lp_ind (f := tkF) (fun x => x j = S j) 4 0 S (fun t x _ h2 h => (tkF_out (t := t) (S := x) (j := j) (by omega)).trans h) rfl
theorem dy_1 {dr : Bool} {S : st_T} : (dy dr S).1 = ss (tk (lss dr (rl S).1).1) 3 (tk (lss dr (rl S).1).1 3 + 1) := by unfold dy; rfl
theorem dy_out {D : Int} {S : st_T} {dr : Bool} {j : Nat} (hV : Vl D S) (hj : j < 11 ∨ 153 ≤ j) (h2 : j ≠ 2 ∧ j ≠ 3 ∧ j ≠ 6) : (dy dr S).1 j = S j := by
  rw [dy_1, ss_n h2.2.1, tk_out (by omega), (lss_all (Vl_rl hV)).2 j (by omega) h2.2.2, rl_out hV (by omega) h2.1]
theorem Vl_dy {D : Int} {S : st_T} (dr : Bool) (hV : Vl D S) (hD : D ≤ 100000) : Vl (D + 1) (dy dr S).1 := by
  have h1 := Vl_tk (lss_all (dr := dr) (Vl_rl hV)).1
  rw [dy_1]
  generalize tk (lss dr (rl S).1).1 = T at h1 ⊢
  refine Vl_lo h1 (fun i _ h3 => ss_n h3) ?_ ?_
  · rw [ss_n (show (2 : Nat) ≠ 3 by decide)]
    exact h1.2.2.1
  · rw [ss_i]
    have h3 := h1.2.2.2.1
    have e1 : (1 : Int32).toInt = 1 := rfl
    unfold rg at h3 ⊢
    rw [i_add (by omega) (by omega)]
    omega
abbrev PD : Nat → Nat → Prop := fun a j => a = 106 ∨ a = 110 ∨ (a = 105 ∧ (j = 12 ∨ j = 13))
theorem m_lss_L {D : Int} {S : st_T} {dr : Bool} {x2 c0 : Int32} (hdr : (x2 = 0) = (dr = false)) {Q : hp_T → Prop} (h1c : ¬ cr S ≤ 1) (hc0 : rg (S 0) 0 6) : ∀ (r i nn : Nat) (x : st_T × Int32) (h : hp_T), i + r = cr S → r < nn → Vl D x.1 → x.1 0 = S 0 → hp_i h 106 = x.1 → hp_i h 105 13 = c0 + x.2 → (∀ h1, fr PL h h1 → hp_i h1 106 = (lp (lsF dr) i r x).1 → hp_i h1 105 13 = c0 + (lp (lsF dr) i r x).2 → ∃ n0, wp_X8_day_L40 x2 Q n0 0 h1) → wp_X8_day_L6 x2 Q nn (nI i) h := by
  intro r
  induction r with
  | zero =>
    intro i nn x h hi hn hV hx0 hS h13 hq
    obtain ⟨nn, rfl⟩ : ∃ m, nn = m + 1 := ⟨nn - 1, by omega⟩
    unfold wp_X8_day_L6
    rw [hS, hx0, (cr_nI hc0).1]
    have := cr6 hc0
    exact ⟨fun _ => hq h fr.refl hS h13, fun z => absurd (nI_le (by omega) (by omega)) z⟩
  | succ r ih =>
    intro i nn x h hi hn hV hx0 hS h13 hq
    obtain ⟨nn, rfl⟩ : ∃ m, nn = m + 1 := ⟨nn - 1, by omega⟩
    unfold wp_X8_day_L6
    rw [hS, hx0, (cr_nI hc0).1]
    have h6 := cr6 hc0
    have ecr : cr x.1 = cr S := by unfold cr; rw [hx0]
    have hb : i < cr x.1 := by omega
    refine ⟨fun z => absurd z (nI_ge (by omega) (by omega)), fun _ => ⟨fun z => absurd z (nI_ge (a := 1) (by omega) (by omega)), fun _ => ?_⟩⟩
    refine m_lesson dr hdr hV.1 hb (hV.2.2.2.2.2.2.2.1 i hb) (hV.2.2.2.2.2.2.2.1 _ (nx_nI hV.1 hb).2) (hV.2.2.2.2.2.2.2.2.2.2.2 0 (by decide)) hS ?_
    intro h1 f1 e1 e13
    rw [show nI i + 1 = nI (i + 1) from nI_1 i]
    refine ih (i + 1) nn (lsF dr i x) h1 (by omega) (by omega) (Vl_ls dr hV hb) ?_ e1 ?_ ?_
    · show (ls dr i x.1).1 0 = _
      rw [ls_out hV hb (by decide) (by decide), hx0]
    · rw [e13, h13, Int32.add_assoc]; rfl
    · intro h2 f2 a b
      exact hq h2 (f1.trans f2) a b
theorem m_day {D : Int} {S : st_T} {dr : Bool} {x2 : Int32} {h : hp_T} {Q : hp_T → Prop} (hdr : (x2 = 0) = (dr = false)) (hV : Vl D S) (hS : hp_i h 106 = S) (hQ : ∀ h1, fr PD h h1 → hp_i h1 106 = (dy dr S).1 → hp_i h1 105 12 = hp_i h 105 12 + (dy dr S).2.1 → hp_i h1 105 13 = hp_i h 105 13 + (dy dr S).2.2 → Q h1) : wp_X8_day x2 h Q := by
  unfold wp_X8_day
  refine m_relieves hV hS ?_
  intro h1 f1 e1 e12
  have hV1 := Vl_rl hV
  have e13 : hp_i h1 105 13 = hp_i h 105 13 := f1.2 105 13 (by omega)
  generalize hT : (rl S).1 = T at e1 hV1
  have fin : ∀ h2, fr PL h1 h2 → hp_i h2 106 = (lss dr T).1 → hp_i h2 105 13 = hp_i h1 105 13 + (lss dr T).2 → ∃ n0, wp_X8_day_L40 x2 Q n0 0 h2 := by
    intro h2 f2 e2 e213
    have hVl := (lss_all (dr := dr) hV1).1
    refine ⟨5, m_tasks_L 4 0 5 h2 rfl (by decide) (by rw [e2]; exact hVl.1) ?_⟩
    intro h3 f3 e3
    refine hQ h3 ?_ ?_ ?_ ?_
    · exact ((f1.mono fun a j q => by omega).trans (f2.mono fun a j q => by omega)).trans (f3.mono fun a j q => Or.inl q)
    · rw [e3, e2, ← tk_eq]
      show _ = ss (tk (lss dr (rl S).1).1) 3 _
      rw [hT]
    · rw [f3.2 105 12 (show ¬ (105 : Nat) = 106 by decide), f2.2 105 12 (by omega), e12]; rfl
    · rw [f3.2 105 13 (show ¬ (105 : Nat) = 106 by decide), e213, e13]
      show _ = _ + (lss dr (rl S).1).2
      rw [hT]
  by_cases h1c : cr T ≤ 1
  · have el : lss dr T = (T, 0) := by unfold lss; rw [if_pos h1c]; rfl
    refine ⟨1, ?_⟩
    unfold wp_X8_day_L6
    have fin' := fin h1 fr.refl (by rw [el]; exact e1) (by rw [el]; simp)
    refine ⟨fun _ => fin', fun _ => ⟨fun _ => fin', fun z => absurd ?_ z⟩⟩
    rw [e1, (cr_nI hV1.1).1]
    exact nI_le (b := 1) h1c (by omega)
  · have el : lss dr T = lp (lsF dr) 0 (cr T) (T, 0) := by unfold lss; rw [if_neg h1c]; rfl
    rw [el] at fin
    exact ⟨cr T + 1, m_lss_L (c0 := hp_i h1 105 13) hdr h1c hV1.1 (cr T) 0 (cr T + 1) (T, 0) h1 (by omega) (by omega) hV1 rfl e1 (by simp) fin⟩
