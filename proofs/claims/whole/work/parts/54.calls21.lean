/-! ===== PURE: the calls: voice ===== -/
def vv (v : Nat) (c x B m : Int32) : Int32 := if v = 0 then hv c x B else if v = 1 then ev2 c x B m else if v = 2 then ev3 c x B m else ev4 c x B m
def vt (v : Nat) (c : Int32) : List Int32 := if v = 0 then ht c else if v = 1 then et2 c else if v = 2 then et3 c else et5 c
theorem vt_len : ((List.range 7).all fun c => (List.range 4).all fun v => decide ((vt v (nI c)).length ≤ 30) && decide ((et4 (nI c)).length ≤ 30)) = true := by decide +kernel
theorem vt_le {v c : Nat} (hc : c ≤ 6) (hv' : v ≤ 3) : (vt v (nI c)).length ≤ 30 ∧ (et4 (nI c)).length ≤ 30 := by
  have h := List.all_eq_true.mp (List.all_eq_true.mp vt_len c (List.mem_range.mpr (by omega))) v (List.mem_range.mpr (by omega))
  rw [Bool.and_eq_true] at h
  exact ⟨of_decide_eq_true h.1, of_decide_eq_true h.2⟩
theorem VC_0 {h : hp_T} {kd B m : Int32} : VC h kd B m [] (hp_si (hp_si (hp_si (hp_si (hp_si h 93 0 kd) 93 1 B) 93 2 m) 93 4 0) 93 5 0) := by
  refine ⟨((((fr_si (P := fun a _ => a = 93 ∨ a = 94) (Or.inl rfl)).si (Or.inl rfl)).si (Or.inl rfl)).si (Or.inl rfl)).si (Or.inl rfl), ?_, ?_, ?_, ?_, ?_, fun i hi => absurd hi (Nat.not_lt_zero _)⟩
  · rw [hp_i_si, if_neg (by decide), hp_i_si, if_neg (by decide), hp_i_si, if_neg (by decide), hp_i_si, if_neg (by decide), hp_i_si, if_pos ⟨rfl, rfl⟩]
  · rw [hp_i_si, if_neg (by decide), hp_i_si, if_neg (by decide), hp_i_si, if_neg (by decide), hp_i_si, if_pos ⟨rfl, rfl⟩]
  · rw [hp_i_si, if_neg (by decide), hp_i_si, if_neg (by decide), hp_i_si, if_pos ⟨rfl, rfl⟩]
  · rw [hp_i_si, if_pos ⟨rfl, rfl⟩]
  · rw [hp_i_si, if_neg (by decide), hp_i_si, if_pos ⟨rfl, rfl⟩]; rfl
theorem w_speak {h : hp_T} {kd B m x : Int32} {c v : Nat} {Q : Int32 → hp_T → Prop} (hc : c ≤ 6) (hkd : kd = nI c) (hv3 : v ≤ 3) (q1 : ¬ (v = 3 ∧ m - B = 0) → ∀ h1, VC h kd B m (vt v kd) h1 → Q (vv v kd x B m) h1) (q2 : v = 3 ∧ m - B = 0 → ∀ h1 r, VC h kd B m (et4 kd) h1 → Q r (hp_si h1 93 5 1)) : wp_X6_speak kd B m (nI v) x h Q := by
  unfold wp_X6_speak
  rintro h1 rfl
  rintro h2 rfl
  rintro h3 rfl
  rintro h4 rfl
  rintro h5 rfl
  have V0 : VC h kd B m [] (hp_si (hp_si (hp_si (hp_si (hp_si h 93 0 kd) 93 1 B) 93 2 m) 93 4 0) 93 5 0) := VC_0
  rw [V0.2.1]
  show (wr_X6 (38 + 2)).1 kd (nI v) x (nI 0) _ Q
  have g : v = 0 ∨ v = 1 ∨ v = 2 ∨ v = 3 := by omega
  rcases g with rfl | rfl | rfl | rfl
  · obtain ⟨b, hb, hr⟩ := HT (d := 28) (x := x) (e := 0) (Q := Q) hc hkd V0 (by decide) (by decide) (fun h1 V1 => q1 (by omega) h1 V1)
    exact sf hb (by decide) hr
  · obtain ⟨b, hb, hr⟩ := TT (d := 16) (x := x) (e := 0) (Q := Q) hc hkd V0 (by decide) (by decide) (fun h1 V1 => q1 (by omega) h1 V1)
    exact sf hb (by decide) hr
  · obtain ⟨b, hb, hr⟩ := BB (d := 10) (x := x) (e := 0) (Q := Q) hc hkd V0 (by decide) (by decide) (fun h1 V1 => q1 (by omega) h1 V1)
    exact sf hb (by decide) hr
  · obtain ⟨b, hb, hr⟩ := PP (d := 10) (x := x) (e := 0) (Q := Q) hc hkd V0 (by decide) (by decide) (fun g h1 r V1 => q2 ⟨rfl, g⟩ h1 r V1) (fun g h1 V1 => q1 (fun w => g w.2) h1 V1)
    exact sf hb (by decide) hr
theorem VM_0 {h : hp_T} {B : Int32} : VM h B [] (hp_si (hp_si (hp_si h 105 16 B) 105 15 0) 105 17 0) := by
  refine ⟨((fr_si (P := Pvm) (Or.inr ⟨rfl, Or.inr (Or.inl rfl)⟩)).si (Or.inr ⟨rfl, Or.inl rfl⟩)).si (Or.inr ⟨rfl, Or.inr (Or.inr rfl)⟩), ?_, ?_, fun i hi => absurd hi (Nat.not_lt_zero _), ?_⟩
  · rw [hp_i_si, if_neg (by decide), hp_i_si, if_neg (by decide), hp_i_si, if_pos ⟨rfl, rfl⟩]
  · rw [hp_i_si, if_neg (by decide), hp_i_si, if_pos ⟨rfl, rfl⟩]; rfl
  · rw [hp_i_si, if_pos ⟨rfl, rfl⟩]
theorem Itr_vo {h h' h3 : hp_T} {kd B m : Int32} {bs : List Int32} (hl : bs.length ≤ 30) (V1 : VC h kd B m bs h') {h2 : hp_T} (a4 : hp_i h2 93 4 = hp_i h' 93 4) (at' : hp_i h2 94 = hp_i h' 94) (V2 : VM h2 B bs h3) : Itr h3 := by
  refine ⟨bs.length, hl, ?_, V2.2.2.1, fun i hi => ?_⟩
  · rw [V2.1.2 93 4 (by omega), a4]; exact V1.2.2.2.2.2.1
  · rw [V2.1.row (fun j z => by have z : Pvm 94 j := z; omega), at', V1.2.2.2.2.2.2 i hi, V2.2.2.2.1 i hi]
theorem c_voice {x y z : Int32} {h : hp_T} (I : Inv h) : wp_X7_voice x y z h (fun r1 h1 => wp_X8_voice x y z h1 (fun r2 h2 => r1 = r2 ∧ Inv h2)) := by
  have V := I.V
  unfold wp_X7_voice
  simp only [w_isBunk, w_within, bi_0, er1, er6]
  rw [I.crew]
  have bad : ∀ h', hp_i h' 106 = hp_i h 106 → ¬ ((0 ≤ x ∧ x ≤ hp_i h 106 0 - 1) ∧ 0 ≤ y ∧ y ≤ 3) → wp_X8_errs (-1000000001) h' (fun r2 h2 => (-1000000001 : Int32) = r2 ∧ Inv h2) → wp_X8_voice x y z h' (fun r2 h2 => (-1000000001 : Int32) = r2 ∧ Inv h2) := by
    intro h' e w f
    unfold wp_X8_voice
    simp only [x_isBunk, in_0_3, bi_0]
    rw [e]
    exact ⟨fun _ => f, fun w1 => ⟨fun _ => f, fun w2 => absurd ⟨Classical.not_not.mp w1, Classical.not_not.mp w2⟩ w⟩⟩
  refine ⟨fun w => bad _ (er_row (by decide)) (fun q => w q.1) (f1 I), fun z1 => ⟨fun w => bad _ (er_row (by decide)) (fun q => w q.2) (f1 I), fun z2 => ?_⟩⟩
  obtain ⟨b, hb, rfl⟩ := bunk_of V.1 (Classical.not_not.mp z1)
  obtain ⟨v, hv3, rfl⟩ := nat_of (n := 3) (Classical.not_not.mp z2) rfl
  have c6 := cr6 V.1
  have hVB := V.2.2.2.2.2.2.2.1 b hb
  obtain ⟨c, hc, ec⟩ := rg_nI 6 hVB.1 rfl (by decide)
  obtain ⟨l1, l2⟩ := vt_le (v := v) hc hv3
  have ref : ∀ (h' : hp_T) (Q : Int32 → hp_T → Prop), hp_i h' 106 = hp_i h 106 → (¬ (v = 3 ∧ hp_i h 106 (11 + 17 * b + 1) - nI b = 0) → ∀ h1, VM h' (nI b) (vt v (nI c)) h1 → Q (vv v (nI c) z (nI b) (hp_i h 106 (11 + 17 * b + 1))) h1) → (v = 3 ∧ hp_i h 106 (11 + 17 * b + 1) - nI b = 0 → ∀ h1, VM h' (nI b) (et4 (nI c)) h1 → wp_X8_errs (-1000000006) (hp_si h1 105 17 1) Q) → wp_X8_voice (nI b) (nI v) z h' Q := by
    intro h' Q e q1 q2
    have b6 : b < 6 := by omega
    unfold wp_X8_voice
    simp only [x_isBunk, in_0_3, bi_0]
    rw [e]
    refine ⟨fun w => absurd w z1, fun _ => ⟨fun w => absurd w z2, fun _ => ?_⟩⟩
    rintro h1 rfl
    rintro h2 rfl
    rintro h3 rfl
    have V0 : VM h' (nI b) [] (hp_si (hp_si (hp_si h' 105 16 (nI b)) 105 15 0) 105 17 0) := VM_0
    have g : v = 0 ∨ v = 1 ∨ v = 2 ∨ v = 3 := by omega
    rcases g with rfl | rfl | rfl | rfl
    · exact br_y (by decide) (m_hear e b6 rfl hc ec V0 (by decide) (fun h1 V1 => br_y V1.2.2.2.2 (q1 (by omega) h1 V1)))
    · exact br_n (by decide) (br_y (by decide) (m_tell e b6 rfl hc ec rfl V0 (by decide) (fun h1 V1 => br_y V1.2.2.2.2 (q1 (by omega) h1 V1))))
    · exact br_n (by decide) (br_n (by decide) (br_y (by decide) (m_bunking e b6 rfl hc ec rfl V0 (by decide) (fun h1 V1 => br_y V1.2.2.2.2 (q1 (by omega) h1 V1)))))
    · exact br_n (by decide) (br_n (by decide) (br_n (by decide) (m_parting e b6 rfl hc ec rfl V0 (by decide) (fun g h1 r V1 => br_n (by rw [hp_i_si, if_pos ⟨rfl, rfl⟩]; decide) (q2 ⟨rfl, g⟩ h1 V1)) (fun g h1 V1 => br_y V1.2.2.2.2 (q1 (fun w => g w.2) h1 V1)))))
  rw [nI_clamp (n := b) (by omega), I.R.i.bk0 hb (by omega), I.R.i.bk 1 hb (by omega) (by decide), ec]
  refine ⟨vp_in_nI (by omega) (by decide), w_speak hc rfl hv3 (fun np h1 V1 => ?_) (fun pa h1 r V1 => ?_)⟩
  · have e6 : hp_i h1 106 = hp_i h 106 := V1.1.row (fun j z => by omega)
    refine br_y V1.2.2.2.2.1 (ref h1 _ e6 (fun _ h3 V3 => ⟨rfl, ?_⟩) (fun w => absurd w np))
    refine Inv_vo I ((V1.1.mono fun a j z => by rcases z with z | z <;> omega).trans (V3.1.mono fun a j z => by omega)) (Or.inl ⟨?_, ?_⟩) (Itr_vo l1 V1 rfl rfl V3)
    · rw [V3.1.row (fun j z => by have z : Pvm 96 j := z; omega), V1.1.row (fun j z => by omega)]
    · rw [V3.1.row (fun j z => by have z : Pvm 109 j := z; omega), V1.1.row (fun j z => by omega)]
  · have e6 : hp_i (er (hp_si h1 93 5 1) 5) 106 = hp_i h 106 := by
      rw [er_row (by decide), si_row_ne (by decide)]
      exact V1.1.row (fun j z => by omega)
    refine br_n (by rw [hp_i_si, if_pos ⟨rfl, rfl⟩]; decide) (ref _ _ e6 (fun w => absurd pa w) (fun _ h3 V3 => ?_))
    refine e_errs (k := 5) (by decide) rfl ⟨rfl, ?_⟩
    have f0 : fr Pvo h (er (hp_si h1 93 5 1) 5) := ((V1.1.mono (P' := Pvo) fun a j z => by rcases z with z | z <;> omega).si (Or.inl rfl)).si (Or.inr (Or.inr (Or.inr (Or.inl rfl))))
    have f1' : fr Pvo h h3 := f0.trans (V3.1.mono fun a j z => by omega)
    have r96 : hp_i h3 96 = ss (hp_i h 96) (5 + 1) (hp_i h 96 (5 + 1) + 1) := by
      rw [V3.1.row (fun j z => by have z : Pvm 96 j := z; omega)]
      unfold er
      rw [si_row, si_row_ne (by decide), V1.1.row (fun j z => by omega)]
    have r109 : hp_i h3 109 = hp_i h 109 := by
      rw [V3.1.row (fun j z => by have z : Pvm 109 j := z; omega), er_row (by decide), si_row_ne (by decide), V1.1.row (fun j z => by omega)]
    refine Inv_vo I ((f1'.si (Or.inr (Or.inr (Or.inr (Or.inr (Or.inr ⟨rfl, Or.inr (Or.inr rfl)⟩)))))).si (Or.inr (Or.inr (Or.inr (Or.inr (Or.inl rfl)))))) (Or.inr ⟨5, by decide, ?_, ?_⟩) ?_
    · rw [si_row_ne (by decide), si_row_ne (by decide)]; exact r96
    · rw [si_row, si_row_ne (by decide), r109]
    · obtain ⟨n, t1, t2, t3, t4⟩ := Itr_vo l2 V1 (by rw [er_i (by decide), hp_i_si, if_neg (by decide)]) (by rw [er_row (by decide), si_row_ne (by decide)]) V3
      exact ⟨n, t1, by rw [hp_i_si, if_neg (by omega), hp_i_si, if_neg (by omega)]; exact t2, by rw [hp_i_si, if_neg (by omega), hp_i_si, if_neg (by omega)]; exact t3, fun i hi => by rw [hp_i_si, if_neg (by omega), hp_i_si, if_neg (by omega), hp_i_si, if_neg (by omega), hp_i_si, if_neg (by omega)]; exact t4 i hi⟩
