/-! ===== PURE: the calls: voices, the reference's; both ===== -/
def ev4 (c x B m : Int32) : Int32 := if c = 1 then x / (m - B) + ev2 c 1 B m else if c = 4 then x / (m - B) + ev2 c 1 B m else x / (m - B)
def et5 (c : Int32) : List Int32 := if c = 1 then [21, 13] ++ et2 c else if c = 4 then [21, 13] ++ et2 c else [13]
theorem ow' {h : hp_T} {kd : Int32} {Q : Int32 → hp_T → Prop} {x : Int32} {e d v : Nat} {b : Int32} (V : hp_i h 93 0 = kd) (hf : fbo v 7 kd = some b) (hv' : v < 4) (hq : wp_X6_run (wr_X6 d) b x (nI (e + 1)) h Q) : (wr_X6 (d + 3)).2.2.1 (nI v) x (nI e) h Q := by
  show wp_X6_own (wr_X6 (d + 2)) (nI v) x (nI e) h Q
  unfold wp_X6_own
  rw [V]
  exact sf hf hv' hq
theorem rn_p {rc : rt_X6} {b x y : Int32} {h : hp_T} {Q : Int32 → hp_T → Prop} (g : ¬ hp_i h 93 5 = 0) (hq : Q 0 h) : wp_X6_run rc b x y h Q := by
  unfold wp_X6_run
  exact br_n g hq
theorem PP {h0 h : hp_T} {kd B m : Int32} {bs : List Int32} {Q : Int32 → hp_T → Prop} {x : Int32} {e : Nat} {c d : Nat} (hc : c ≤ 6) (hkd : kd = nI c) (V : VC h0 kd B m bs h) (hl : bs.length < 10) (he : e < 10) (q1 : m - B = 0 → ∀ h1 v, VC h0 kd B m (bs ++ et4 kd) h1 → Q v (hp_si h1 93 5 1)) (q2 : ¬ m - B = 0 → ∀ h1, VC h0 kd B m (bs ++ et5 kd) h1 → Q (ev4 kd x B m) h1) : ∃ b, fbo 3 7 kd = some b ∧ wp_X6_run (wr_X6 (d + 28)) b x (nI (e + 1)) h Q := by
  have l1 : ∀ (b : Int32), (bs ++ [b]).length < 11 := fun b => by rw [List.length_append]; exact Nat.add_lt_add_right hl 1
  have l2 : ∀ (b b' : Int32), ((bs ++ [b]) ++ [b']).length < 12 := fun b b' => by rw [List.length_append, List.length_append]; exact Nat.add_lt_add_right (Nat.add_lt_add_right hl 1) 1
  have pl : (c = 0 ∨ c = 2 ∨ c = 3 ∨ c = 5 ∨ c = 6) → et4 kd = [13] → et5 kd = [13] → ev4 kd x B m = x / (m - B) → wp_X6_run (wr_X6 (d + 28)) 13 x (nI (e + 1)) h Q := by
    intro _ a1 a2 a3
    rw [a1] at q1
    rw [a2, a3] at q2
    exact rn_13 V (by omega) (by omega) (fun h1 V1 => ⟨fun g => q1 g h1 0 V1, fun g => q2 g h1 V1⟩)
  have tw : fbo 3 7 (ab_abv 1) = some 13 → et4 kd = [21, 13] → et5 kd = [21, 13] ++ et2 kd → ev4 kd x B m = x / (m - B) + ev2 kd 1 B m → wp_X6_run (wr_X6 (d + 28)) 21 x (nI (e + 1)) h Q := by
    intro a0 a1 a2 a3
    rw [a1] at q1
    rw [a2, a3] at q2
    refine rn_21 V (by omega) (by omega) (fun h1 V1 => abo (d := d + 25) (v := 3) (b := 13) 1 (by decide +kernel) (by decide) a0 (by decide) (rn_13 V1 (Nat.lt_trans (l1 _) (by decide)) (by omega) (fun h2 V2 => ⟨fun g => ?_, fun g => ?_⟩)))
    · obtain ⟨b, hb, -⟩ := TT (d := d) (x := 1) (e := e + 1) (Q := fun _ _ => True) hc hkd V2 (Nat.lt_trans (l2 _ _) (by decide)) (by omega) (fun _ _ => trivial)
      refine ow' (d := d + 25) (v := 1) (by rw [hp_i_si, if_neg (by omega)]; exact V2.2.1) hb (by decide) (rn_p (by rw [hp_i_si, if_pos ⟨rfl, rfl⟩]; decide) ?_)
      rw [List.append_assoc] at V2
      exact q1 g h2 _ V2
    · obtain ⟨b, hb, hr⟩ := TT (d := d + 3) (x := 1) (e := e + 1) (Q := fun w h3 => Q (x / (m - B) + w) h3) hc hkd V2 (Nat.lt_trans (l2 _ _) (by decide)) (by omega) (fun h3 V3 => q2 g h3 (by rw [List.append_assoc bs, List.append_assoc bs] at V3; exact V3))
      exact ow' (d := d + 25) (v := 1) V2.2.1 hb (by decide) hr
  have g : c = 0 ∨ c = 1 ∨ c = 2 ∨ c = 3 ∨ c = 4 ∨ c = 5 ∨ c = 6 := by omega
  rcases g with rfl | rfl | rfl | rfl | rfl | rfl | rfl
  · exact ⟨13, by subst hkd; decide +kernel, pl (by omega) (by subst hkd; rfl) (by subst hkd; rfl) (by subst hkd; rfl)⟩
  · exact ⟨21, by subst hkd; decide +kernel, tw (by decide +kernel) (by subst hkd; rfl) (by subst hkd; rfl) (by subst hkd; rfl)⟩
  · exact ⟨13, by subst hkd; decide +kernel, pl (by omega) (by subst hkd; rfl) (by subst hkd; rfl) (by subst hkd; rfl)⟩
  · exact ⟨13, by subst hkd; decide +kernel, pl (by omega) (by subst hkd; rfl) (by subst hkd; rfl) (by subst hkd; rfl)⟩
  · exact ⟨21, by subst hkd; decide +kernel, tw (by decide +kernel) (by subst hkd; rfl) (by subst hkd; rfl) (by subst hkd; rfl)⟩
  · exact ⟨13, by subst hkd; decide +kernel, pl (by omega) (by subst hkd; rfl) (by subst hkd; rfl) (by subst hkd; rfl)⟩
  · exact ⟨13, by subst hkd; decide +kernel, pl (by omega) (by subst hkd; rfl) (by subst hkd; rfl) (by subst hkd; rfl)⟩
abbrev Pvm : Nat → Nat → Prop := fun a j => a = 112 ∨ (a = 105 ∧ (j = 15 ∨ j = 16 ∨ j = 17))
def VM (h0 : hp_T) (B : Int32) (bs : List Int32) (h : hp_T) : Prop := fr Pvm h0 h ∧ hp_i h 105 16 = B ∧ hp_i h 105 15 = nI bs.length ∧ (∀ i, i < bs.length → hp_i h 112 i = bs.getD i 0) ∧ hp_i h 105 17 = 0
section VN
variable {h0 h : hp_T} {B m x : Int32} {bs : List Int32} {Q : Int32 → hp_T → Prop} {b c : Nat}
theorem m_runs {y : Int32} {Q : hp_T → Prop} (V : VM h0 B bs h) (hl : bs.length < 30) (hq : ∀ h1, VM h0 B (bs ++ [y]) h1 → Q h1) : wp_X8_runs y h Q := by
  obtain ⟨f, v6, v5, vt, v7⟩ := V
  unfold wp_X8_runs
  rw [v5, nI_clamp (n := bs.length) (by omega)]
  refine br_n (nI_ge (b := 30) hl (by decide)) ⟨vp_in_nI hl (by decide), ?_⟩
  rintro h1 rfl
  rw [hp_i_si, if_neg (show ¬ (105 = 112 ∧ _) by omega), v5]
  rintro h2 rfl
  have o : ∀ j, j ≠ 15 → hp_i (hp_si (hp_si h 112 bs.length y) 105 15 (nI bs.length + 1)) 105 j = hp_i h 105 j := fun j hj => by rw [hp_i_si, if_neg (by omega), hp_i_si, if_neg (by omega)]
  refine hq _ ⟨(f.si (Or.inl rfl)).si (Or.inr ⟨rfl, Or.inl rfl⟩), by rw [o 16 (by decide)]; exact v6, ?_, ?_, by rw [o 17 (by decide)]; exact v7⟩
  · rw [hp_i_si, if_pos ⟨rfl, rfl⟩, List.length_append]
    exact nI_1 _
  · intro i hi
    rw [List.length_append] at hi
    have hi : i < bs.length + 1 := hi
    rw [hp_i_si, if_neg (by omega), hp_i_si, getD_app]
    by_cases g : i = bs.length
    · rw [if_pos ⟨rfl, g⟩, if_neg (by omega), if_pos g]
    · rw [if_neg (by omega), if_pos (by omega)]
      exact vt i (by omega)
theorem m_row {S : st_T} (V : VM h0 B bs h) (hS : hp_i h0 106 = S) : hp_i h 106 = S := by
  rw [V.1.row (fun j z => by have z : Pvm 106 j := z; omega)]
  exact hS
theorem m_hear {S : st_T} (hS : hp_i h0 106 = S) (hb : b < 6) (hB : B = nI b) (hc : c ≤ 6) (hk : S (11 + 17 * b) = nI c) (V : VM h0 B bs h) (hl : bs.length < 20) (hq : ∀ h1, VM h0 B (bs ++ ht (nI c)) h1 → Q (hv (nI c) x B) h1) : wp_X8_hearing x h Q := by
  have vb : vp_in B 6 := by subst hB; exact vp_in_nI hb (by decide)
  have cb : B.toNatClampNeg = b := by subst hB; exact nI_clamp (by omega)
  have l1 : ∀ (b : Int32), (bs ++ [b]).length < 30 := fun b => by rw [List.length_append]; exact Nat.lt_of_lt_of_le (Nat.add_lt_add_right hl 1) (by decide)
  have l2 : ∀ (b b' : Int32), ((bs ++ [b]) ++ [b']).length < 30 := fun b b' => by rw [List.length_append, List.length_append]; exact Nat.lt_of_lt_of_le (Nat.add_lt_add_right (Nat.add_lt_add_right hl 1) 1) (by decide)
  unfold wp_X8_hearing
  rw [V.2.1, x_its0 vb, cb, m_row V hS, hk]
  have g : c = 0 ∨ c = 1 ∨ c = 2 ∨ c = 3 ∨ c = 4 ∨ c = 5 ∨ c = 6 := by omega
  rcases g with rfl | rfl | rfl | rfl | rfl | rfl | rfl
  · refine br_n (by decide) (br_n (by decide) ?_)
    unfold wp_X8_hearing_b35
    refine br_n (by decide) (br_n (by decide) (m_runs V (by omega) (fun h1 V1 => br_n (by decide) (br_n (by decide) ?_))))
    rw [V1.2.1]; exact hq h1 V1
  · refine br_n (by decide) (br_n (by decide) ?_)
    unfold wp_X8_hearing_b35
    refine br_y (by decide) (m_runs V (by omega) (fun h1 V1 => m_runs V1 (l1 _) (fun h2 V2 => br_y (by decide) ?_)))
    rw [V2.2.1]; rw [List.append_assoc] at V2; exact hq h2 V2
  · refine br_n (by decide) (br_n (by decide) ?_)
    unfold wp_X8_hearing_b35
    refine br_n (by decide) (br_n (by decide) (m_runs V (by omega) (fun h1 V1 => br_n (by decide) (br_n (by decide) ?_))))
    rw [V1.2.1]; exact hq h1 V1
  · refine br_n (by decide) (br_n (by decide) ?_)
    unfold wp_X8_hearing_b35
    refine br_n (by decide) (br_n (by decide) (m_runs V (by omega) (fun h1 V1 => br_n (by decide) (br_n (by decide) ?_))))
    rw [V1.2.1]; exact hq h1 V1
  · refine br_n (by decide) (br_y (by decide) (m_runs V (by omega) (fun h1 V1 => ?_)))
    unfold wp_X8_hearing_b35
    refine br_n (by decide) (br_y (by decide) (m_runs V1 (l1 _) (fun h2 V2 => m_runs V2 (l2 _ _) (fun h3 V3 => br_n (by decide) (br_y (by decide) ?_)))))
    rw [V3.2.1]; rw [List.append_assoc, List.append_assoc] at V3; exact hq h3 V3
  · refine br_n (by decide) (br_n (by decide) ?_)
    unfold wp_X8_hearing_b35
    refine br_n (by decide) (br_n (by decide) (m_runs V (by omega) (fun h1 V1 => br_n (by decide) (br_n (by decide) ?_))))
    rw [V1.2.1]; exact hq h1 V1
  · exact br_y (by decide) (m_runs V (by omega) (fun h1 V1 => hq h1 V1))
theorem m_tell {S : st_T} (hS : hp_i h0 106 = S) (hb : b < 6) (hB : B = nI b) (hc : c ≤ 6) (hk : S (11 + 17 * b) = nI c) (hm : S (11 + 17 * b + 1) = m) (V : VM h0 B bs h) (hl : bs.length < 15) (hq : ∀ h1, VM h0 B (bs ++ et2 (nI c)) h1 → Q (ev2 (nI c) x B m) h1) : wp_X8_telling x h Q := by
  have vb : vp_in B 6 := by subst hB; exact vp_in_nI hb (by decide)
  have cb : B.toNatClampNeg = b := by subst hB; exact nI_clamp (by omega)
  have l1 : ∀ (b : Int32), (bs ++ [b]).length < 16 := fun b => by rw [List.length_append]; exact Nat.add_lt_add_right hl 1
  have l2 : ∀ (b b' : Int32), ((bs ++ [b]) ++ [b']).length < 17 := fun b b' => by rw [List.length_append, List.length_append]; exact Nat.add_lt_add_right (Nat.add_lt_add_right hl 1) 1
  have l3 : ∀ (b b' b'' : Int32), (((bs ++ [b]) ++ [b']) ++ [b'']).length < 18 := fun b b' b'' => by rw [List.length_append, List.length_append, List.length_append]; exact Nat.add_lt_add_right (Nat.add_lt_add_right (Nat.add_lt_add_right hl 1) 1) 1
  unfold wp_X8_telling
  rw [V.2.1, x_its0 vb, cb, m_row V hS, hk]
  have g : c = 0 ∨ c = 1 ∨ c = 2 ∨ c = 3 ∨ c = 4 ∨ c = 5 ∨ c = 6 := by omega
  rcases g with rfl | rfl | rfl | rfl | rfl | rfl | rfl
  · refine br_n (by decide) (br_n (by decide) (br_n (by decide) (br_n (by decide) ?_)))
    unfold wp_X8_telling_b49
    refine m_runs V (by omega) (fun h1 V1 => br_n (by decide) (m_hear hS hb hB hc hk V1 (Nat.lt_trans (l1 _) (by decide)) (fun h2 V2 => br_n (by decide) (br_n (by decide) (br_n (by decide) ?_)))))
    rw [List.append_assoc] at V2; exact hq h2 V2
  · refine br_n (by decide) (br_n (by decide) (br_n (by decide) (br_n (by decide) ?_)))
    unfold wp_X8_telling_b49
    refine m_runs V (by omega) (fun h1 V1 => br_n (by decide) (m_hear hS hb hB hc hk V1 (Nat.lt_trans (l1 _) (by decide)) (fun h2 V2 => br_n (by decide) (br_n (by decide) (br_n (by decide) ?_)))))
    rw [List.append_assoc] at V2; exact hq h2 V2
  · refine br_n (by decide) (br_n (by decide) (br_y (by decide) (m_runs V (by omega) (fun h1 V1 => ?_))))
    unfold wp_X8_telling_b49
    refine m_runs V1 (Nat.lt_trans (l1 _) (by decide)) (fun h2 V2 => br_n (by decide) (m_hear hS hb hB hc hk V2 (Nat.lt_trans (l2 _ _) (by decide)) (fun h3 V3 => br_n (by decide) (br_y (by decide) ?_))))
    rw [List.append_assoc, List.append_assoc] at V3; exact hq h3 V3
  · refine br_n (by decide) (br_n (by decide) (br_n (by decide) (br_n (by decide) ?_)))
    unfold wp_X8_telling_b49
    refine m_runs V (by omega) (fun h1 V1 => br_n (by decide) (m_hear hS hb hB hc hk V1 (Nat.lt_trans (l1 _) (by decide)) (fun h2 V2 => br_n (by decide) (br_n (by decide) (br_n (by decide) ?_)))))
    rw [List.append_assoc] at V2; exact hq h2 V2
  · refine br_n (by decide) (br_n (by decide) (br_n (by decide) (br_n (by decide) ?_)))
    unfold wp_X8_telling_b49
    refine m_runs V (by omega) (fun h1 V1 => br_n (by decide) (m_hear hS hb hB hc hk V1 (Nat.lt_trans (l1 _) (by decide)) (fun h2 V2 => br_n (by decide) (br_n (by decide) (br_n (by decide) ?_)))))
    rw [List.append_assoc] at V2; exact hq h2 V2
  · refine br_n (by decide) (br_y (by decide) (m_runs V (by omega) (fun h1 V1 => br_n (by decide) (br_y (by decide) (m_runs V1 (Nat.lt_trans (l1 _) (by decide)) (fun h2 V2 => ?_))))))
    unfold wp_X8_telling_b49
    refine m_runs V2 (Nat.lt_trans (l2 _ _) (by decide)) (fun h3 V3 => br_y (by decide) (m_hear hS hb hB hc hk V3 (Nat.lt_trans (l3 _ _ _) (by decide)) (fun h4 V4 => br_n (by decide) (br_n (by decide) (br_y (by decide) ?_)))))
    rw [List.append_assoc, List.append_assoc, List.append_assoc] at V4; exact hq h4 V4
  · refine br_y (by decide) (m_runs V (by omega) (fun h1 V1 => br_n (by decide) (br_n (by decide) (br_n (by decide) ?_))))
    unfold wp_X8_telling_b49
    refine m_runs V1 (Nat.lt_trans (l1 _) (by decide)) (fun h2 V2 => br_n (by decide) (m_hear hS hb hB hc hk V2 (Nat.lt_trans (l2 _ _) (by decide)) (fun h3 V3 => br_y (by decide) ?_)))
    rw [V3.2.1, x_its1 vb, cb, m_row V3 hS, hm]
    rw [List.append_assoc, List.append_assoc] at V3; exact hq h3 V3
theorem m_bunking {S : st_T} (hS : hp_i h0 106 = S) (hb : b < 6) (hB : B = nI b) (hc : c ≤ 6) (hk : S (11 + 17 * b) = nI c) (hm : S (11 + 17 * b + 1) = m) (V : VM h0 B bs h) (hl : bs.length < 10) (hq : ∀ h1, VM h0 B (bs ++ et3 (nI c)) h1 → Q (ev3 (nI c) x B m) h1) : wp_X8_bunking x h Q := by
  have vb : vp_in B 6 := by subst hB; exact vp_in_nI hb (by decide)
  have cb : B.toNatClampNeg = b := by subst hB; exact nI_clamp (by omega)
  have l1 : ∀ (b : Int32), (bs ++ [b]).length < 11 := fun b => by rw [List.length_append]; exact Nat.add_lt_add_right hl 1
  have l2 : ∀ (b b' : Int32), ((bs ++ [b]) ++ [b']).length < 12 := fun b b' => by rw [List.length_append, List.length_append]; exact Nat.add_lt_add_right (Nat.add_lt_add_right hl 1) 1
  unfold wp_X8_bunking
  rw [V.2.1, x_its0 vb, cb, m_row V hS, hk]
  have pl : ¬ nI c = 3 → ¬ nI c = 4 → et3 (nI c) = [12] ++ et2 (nI c) → ev3 (nI c) x B m = ev2 (nI c) x B m - m → wp_X8_bunking_b32 x Q (nI c) h := by
    intro n3 n4 a1 a2
    rw [a1, a2] at hq
    unfold wp_X8_bunking_b32
    refine m_runs V (by omega) (fun h1 V1 => br_n n3 (m_tell hS hb hB hc hk hm V1 (Nat.lt_trans (l1 _) (by decide)) (fun h2 V2 => ?_)))
    rw [V2.2.1, x_its1 vb, cb, m_row V2 hS, hm]
    rw [List.append_assoc] at V2
    exact br_n n4 (hq h2 V2)
  have g : c = 0 ∨ c = 1 ∨ c = 2 ∨ c = 3 ∨ c = 4 ∨ c = 5 ∨ c = 6 := by omega
  rcases g with rfl | rfl | rfl | rfl | rfl | rfl | rfl
  · exact br_n (by decide) (br_n (by decide) (pl (by decide) (by decide) rfl rfl))
  · exact br_n (by decide) (br_n (by decide) (pl (by decide) (by decide) rfl rfl))
  · exact br_n (by decide) (br_n (by decide) (pl (by decide) (by decide) rfl rfl))
  · refine br_y (by decide) (m_runs V (by omega) (fun h1 V1 => br_n (by decide) ?_))
    unfold wp_X8_bunking_b32
    refine m_runs V1 (Nat.lt_trans (l1 _) (by decide)) (fun h2 V2 => br_y (by decide) (m_tell hS hb hB hc hk hm V2 (Nat.lt_trans (l2 _ _) (by decide)) (fun h3 V3 => ?_)))
    rw [V3.2.1, x_its1 vb, cb, m_row V3 hS, hm]
    rw [List.append_assoc, List.append_assoc] at V3
    exact br_n (by decide) (hq h3 V3)
  · refine br_n (by decide) (br_y (by decide) (m_runs V (by omega) (fun h1 V1 => ?_)))
    unfold wp_X8_bunking_b32
    refine m_runs V1 (Nat.lt_trans (l1 _) (by decide)) (fun h2 V2 => br_n (by decide) (m_tell hS hb hB hc hk hm V2 (Nat.lt_trans (l2 _ _) (by decide)) (fun h3 V3 => ?_)))
    rw [V3.2.1, x_its1 vb, cb, m_row V3 hS, hm]
    rw [List.append_assoc, List.append_assoc] at V3
    exact br_y (by decide) (hq h3 V3)
  · exact br_n (by decide) (br_n (by decide) (pl (by decide) (by decide) rfl rfl))
  · exact br_n (by decide) (br_n (by decide) (pl (by decide) (by decide) rfl rfl))
theorem VM_17 (V : VM h0 B bs h) : VM h0 B bs (hp_si h 105 17 0) := by
  obtain ⟨f, v6, v5, vt, v7⟩ := V
  exact ⟨f.si (Or.inr ⟨rfl, Or.inr (Or.inr rfl)⟩), by rw [hp_i_si, if_neg (by omega)]; exact v6, by rw [hp_i_si, if_neg (by omega)]; exact v5, fun i hi => by rw [hp_i_si, if_neg (by omega)]; exact vt i hi, by rw [hp_i_si, if_pos ⟨rfl, rfl⟩]⟩
theorem m_parting {S : st_T} (hS : hp_i h0 106 = S) (hb : b < 6) (hB : B = nI b) (hc : c ≤ 6) (hk : S (11 + 17 * b) = nI c) (hm : S (11 + 17 * b + 1) = m) (V : VM h0 B bs h) (hl : bs.length < 10) (q1 : m - B = 0 → ∀ h1 v, VM h0 B (bs ++ et4 (nI c)) h1 → Q v (hp_si h1 105 17 1)) (q2 : ¬ m - B = 0 → ∀ h1, VM h0 B (bs ++ et5 (nI c)) h1 → Q (ev4 (nI c) x B m) h1) : wp_X8_parting x h Q := by
  have vb : vp_in B 6 := by subst hB; exact vp_in_nI hb (by decide)
  have cb : B.toNatClampNeg = b := by subst hB; exact nI_clamp (by omega)
  have l1 : ∀ (b : Int32), (bs ++ [b]).length < 11 := fun b => by rw [List.length_append]; exact Nat.add_lt_add_right hl 1
  have l2 : ∀ (b b' : Int32), ((bs ++ [b]) ++ [b']).length < 12 := fun b b' => by rw [List.length_append, List.length_append]; exact Nat.add_lt_add_right (Nat.add_lt_add_right hl 1) 1
  unfold wp_X8_parting
  rw [V.2.1, x_its0 vb, cb, m_row V hS, hk]
  have dv : m - B = -1 → x / (m - B) = 0 - x := fun g => by rw [g, div_m1]; exact (Int32.zero_sub x).symm
  have z17 : ∀ (h1 : hp_T) (v : Int32), hp_i (hp_si h1 105 17 v) 105 17 = v := fun h1 v => by rw [hp_i_si, if_pos ⟨rfl, rfl⟩]
  have tw : ¬ m - B = 0 → ∀ h1, VM h0 B (bs ++ [21] ++ [13]) h1 → et5 (nI c) = [21, 13] ++ et2 (nI c) → ev4 (nI c) x B m = x / (m - B) + ev2 (nI c) 1 B m → wp_X8_telling 1 (hp_si h1 105 17 0) (fun w h3 => Q (x / (m - B) + w) h3) := by
    intro g h1 V1 a1 a2
    refine m_tell hS hb hB hc hk hm (VM_17 V1) (Nat.lt_trans (l2 _ _) (by decide)) (fun h3 V3 => ?_)
    rw [List.append_assoc bs, List.append_assoc bs] at V3
    have := q2 g h3 (by rw [a1]; exact V3)
    rw [a2] at this
    exact this
  have two : (nI c = 1 ∨ (¬ nI c = 1 ∧ nI c = 4)) → et4 (nI c) = [21, 13] → et5 (nI c) = [21, 13] ++ et2 (nI c) → ev4 (nI c) x B m = x / (m - B) + ev2 (nI c) 1 B m → wp_X8_runs 21 h (fun h_3 => wp_X8_runs 13 h_3 (fun h_5 => wp_X8_its (hp_i h_5 105 16) 1 h_5 (fun v_7 => (v_7 - hp_i h_5 105 16 = 0 → wp_X8_parting_b57 x Q (nI c) (v_7 - hp_i h_5 105 16) 1 h_5) ∧ (¬ v_7 - hp_i h_5 105 16 = 0 → wp_X8_parting_b57 x Q (nI c) (v_7 - hp_i h_5 105 16) 0 h_5)))) := by
    intro hk14 a1 a2 a3
    refine m_runs V (by omega) (fun h1 V1 => m_runs V1 (Nat.lt_trans (l1 _) (by decide)) (fun h2 V2 => ?_))
    rw [V2.2.1, x_its1 vb, cb, m_row V2 hS, hm]
    refine ⟨fun g => ?_, fun g => ?_⟩
    · unfold wp_X8_parting_b57
      refine ⟨Or.inr rfl, ?_⟩
      rintro h3 rfl
      rw [z17]
      refine br_n (by decide) (br_n (by decide) (q1 g h2 _ ?_))
      rw [a1]; rw [List.append_assoc bs] at V2; exact V2
    · unfold wp_X8_parting_b57
      refine ⟨Or.inl rfl, ?_⟩
      rintro h3 rfl
      rw [z17]
      have T := tw g h2 V2 a2 a3
      refine br_y rfl ⟨fun g1 => br_y rfl ?_, fun g1 => ⟨g, br_y rfl ?_⟩⟩
      · rw [dv g1] at T
        rcases hk14 with k1 | ⟨k1, k4⟩
        · exact br_y k1 T
        · exact br_n k1 (br_y k4 T)
      · rcases hk14 with k1 | ⟨k1, k4⟩
        · exact br_y k1 T
        · exact br_n k1 (br_y k4 T)
  have one : ¬ nI c = 1 → ¬ nI c = 4 → et4 (nI c) = [13] → et5 (nI c) = [13] → ev4 (nI c) x B m = x / (m - B) → wp_X8_runs 13 h (fun h_5 => wp_X8_its (hp_i h_5 105 16) 1 h_5 (fun v_7 => (v_7 - hp_i h_5 105 16 = 0 → wp_X8_parting_b57 x Q (nI c) (v_7 - hp_i h_5 105 16) 1 h_5) ∧ (¬ v_7 - hp_i h_5 105 16 = 0 → wp_X8_parting_b57 x Q (nI c) (v_7 - hp_i h_5 105 16) 0 h_5))) := by
    intro n1 n4 a1 a2 a3
    rw [a1] at q1
    rw [a2, a3] at q2
    refine m_runs V (by omega) (fun h1 V1 => ?_)
    rw [V1.2.1, x_its1 vb, cb, m_row V1 hS, hm]
    refine ⟨fun g => ?_, fun g => ?_⟩
    · unfold wp_X8_parting_b57
      refine ⟨Or.inr rfl, ?_⟩
      rintro h3 rfl
      rw [z17]
      exact br_n (by decide) (br_n (by decide) (q1 g h1 _ V1))
    · unfold wp_X8_parting_b57
      refine ⟨Or.inl rfl, ?_⟩
      rintro h3 rfl
      rw [z17]
      have T := q2 g _ (VM_17 V1)
      refine br_y rfl ⟨fun g1 => br_y rfl (br_n n1 (br_n n4 ?_)), fun g1 => ⟨g, br_y rfl (br_n n1 (br_n n4 T))⟩⟩
      rw [dv g1] at T
      exact T
  have g : c = 0 ∨ c = 1 ∨ c = 2 ∨ c = 3 ∨ c = 4 ∨ c = 5 ∨ c = 6 := by omega
  rcases g with rfl | rfl | rfl | rfl | rfl | rfl | rfl
  · exact br_n (by decide) (br_n (by decide) (one (by decide) (by decide) rfl rfl rfl))
  · exact br_y (by decide) (two (Or.inl (by decide)) rfl rfl rfl)
  · exact br_n (by decide) (br_n (by decide) (one (by decide) (by decide) rfl rfl rfl))
  · exact br_n (by decide) (br_n (by decide) (one (by decide) (by decide) rfl rfl rfl))
  · exact br_n (by decide) (br_y (by decide) (two (Or.inr ⟨by decide, by decide⟩) rfl rfl rfl))
  · exact br_n (by decide) (br_n (by decide) (one (by decide) (by decide) rfl rfl rfl))
  · exact br_n (by decide) (br_n (by decide) (one (by decide) (by decide) rfl rfl rfl))
end VN
abbrev Pvo : Nat → Nat → Prop := fun a j => a = 93 ∨ a = 94 ∨ a = 112 ∨ a = 96 ∨ a = 109 ∨ (a = 105 ∧ (j = 15 ∨ j = 16 ∨ j = 17))
theorem Inv_vo {h h2 : hp_T} (I : Inv h) (f : fr Pvo h h2) (hE : Ieq h h2) (hT : Itr h2) : Inv h2 := by
  have hw := I.n
  have e : ex Pvo (fun _ _ => False) h h2 := f.ex
  obtain ⟨i1, i2, i3, i4, i5, i6, i7, i8⟩ := I
  exact ⟨f.wf i1, by rw [f.n]; exact i2, i3.ex hw e (fun a j z => ⟨by omega, by omega, lt117_16 (by omega)⟩) (fun _ _ z => absurd z id), i4.ex hw e (fun a j z => ⟨by omega, by omega, lt117_16 (by omega), by omega, by omega⟩) (fun _ _ z => absurd z id), Ier_eq i5 hE, hT, i7.ex hw e (fun a j z => by omega), i8.ex hw e (fun a j z => by omega)⟩
