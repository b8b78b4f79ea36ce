/-! ===== PURE: the calls: voices ===== -/
theorem br_y {c A B : Prop} (h : c) (a : A) : (c → A) ∧ (¬ c → B) := ⟨fun _ => a, fun n => absurd h n⟩
theorem br_n {c A B : Prop} (h : ¬ c) (b : B) : (c → A) ∧ (¬ c → B) := ⟨fun w => absurd w h, fun _ => b⟩
/-- what is heard, told, said of bunks; which bodies began -/
def hv (c x B : Int32) : Int32 := if c = 6 then 5 else if c = 4 then (x + B - 6) * 3 else if c = 1 then x + B - 6 else x + B
def ht (c : Int32) : List Int32 := if c = 6 then [70] else if c = 4 then [50, 20, 10] else if c = 1 then [20, 10] else [10]
def ev2 (c x B m : Int32) : Int32 := if c = 6 then hv c x B * 2 + m else if c = 5 then 0 - hv c (x + 1) B * 2 else if c = 2 then 0 - hv c x B * 2 else hv c x B * 2
def et2 (c : Int32) : List Int32 := if c = 6 then [71, 11, 70] else if c = 5 then [60, 30, 11, 10] else if c = 2 then [30, 11, 10] else if c = 4 then [11, 50, 20, 10] else if c = 1 then [11, 20, 10] else [11, 10]
def ev3 (c x B m : Int32) : Int32 := if c = 4 then (ev2 c x B m - m) ^^^ B else if c = 3 then ev2 c (x / 2) B m - m else ev2 c x B m - m
def et3 (c : Int32) : List Int32 := (if c = 3 then [40, 12] else if c = 4 then [51, 12] else [12]) ++ et2 c
def et4 (c : Int32) : List Int32 := if c = 1 then [21, 13] else if c = 4 then [21, 13] else [13]
/-- the class's voices: what stands there -/
def VC (h0 : hp_T) (kd B m : Int32) (bs : List Int32) (h : hp_T) : Prop := fr (fun a _ => a = 93 ∨ a = 94) h0 h ∧ hp_i h 93 0 = kd ∧ hp_i h 93 1 = B ∧ hp_i h 93 2 = m ∧ hp_i h 93 5 = 0 ∧ hp_i h 93 4 = nI bs.length ∧ ∀ i, i < bs.length → hp_i h 94 i = bs.getD i 0
theorem getD_app {bs : List Int32} {b : Int32} {i : Nat} : (bs ++ [b]).getD i 0 = if i < bs.length then bs.getD i 0 else if i = bs.length then b else 0 := by
  rw [List.getD_eq_getElem?_getD, List.getD_eq_getElem?_getD, List.getElem?_append]
  by_cases g : i < bs.length
  · rw [if_pos g, if_pos g]
  · rw [if_neg g, if_neg g]
    by_cases g2 : i = bs.length
    · rw [if_pos g2, g2, Nat.sub_self]; rfl
    · rw [if_neg g2]
      obtain ⟨k, hk⟩ : ∃ k, i - bs.length = k + 1 := ⟨i - bs.length - 1, by omega⟩
      rw [hk]; rfl
section VO
variable {h0 h : hp_T} {kd B m : Int32} {bs : List Int32} {Q : Int32 → hp_T → Prop} {rc : rt_X6} {x : Int32} {e : Nat}
theorem w_begin {b : Int32} {Q : hp_T → Prop} (V : VC h0 kd B m bs h) (hl : bs.length < 30) (hq : ∀ h1, VC h0 kd B m (bs ++ [b]) h1 → Q h1) : wp_X6_begin b h Q := by
  obtain ⟨f, v0, v1, v2, v5, v4, vt⟩ := V
  unfold wp_X6_begin
  rw [v4, nI_clamp (n := bs.length) (by omega)]
  refine br_n (nI_ge (b := 30) hl (by decide)) ⟨vp_in_nI hl (by decide), ?_⟩
  rintro h1 rfl
  rw [hp_i_si, if_neg (show ¬ (93 = 94 ∧ _) by omega), v4]
  rintro h2 rfl
  have o : ∀ j, j ≠ 4 → hp_i (hp_si (hp_si h 94 bs.length b) 93 4 (nI bs.length + 1)) 93 j = hp_i h 93 j := fun j hj => by rw [hp_i_si, if_neg (by omega), hp_i_si, if_neg (by omega)]
  refine hq _ ⟨(f.si (Or.inr rfl)).si (Or.inl rfl), by rw [o 0 (by decide)]; exact v0, by rw [o 1 (by decide)]; exact v1, by rw [o 2 (by decide)]; exact v2, by rw [o 5 (by decide)]; exact v5, ?_, ?_⟩
  · rw [hp_i_si, if_pos ⟨rfl, rfl⟩, List.length_append]
    exact nI_1 _
  · intro i hi
    rw [List.length_append] at hi
    have hi : i < bs.length + 1 := hi
    rw [hp_i_si, if_neg (by omega), hp_i_si, getD_app]
    by_cases g : i = bs.length
    · rw [if_pos ⟨rfl, g⟩, if_neg (by omega), if_pos g]
    · rw [if_neg (by omega), if_pos (by omega)]
      exact vt i (by omega)
theorem dp30 (he : e ≤ 30) : nI e ≤ 30 := nI_le (b := 30) he (by decide)
theorem rn_10 (V : VC h0 kd B m bs h) (hl : bs.length < 30) (he : e ≤ 30) (hq : ∀ h1, VC h0 kd B m (bs ++ [10]) h1 → Q (x + B) h1) : wp_X6_run rc 10 x (nI e) h Q := by
  unfold wp_X6_run
  refine br_y V.2.2.2.2.1 (br_y (dp30 he) (w_begin V hl (fun h1 V1 => ?_)))
  rw [V1.2.2.1]
  exact br_y rfl (hq h1 V1)
theorem rn_11 (V : VC h0 kd B m bs h) (hl : bs.length < 30) (he : e ≤ 30) (hq : ∀ h1, VC h0 kd B m (bs ++ [11]) h1 → rc.2.2.1 0 x (nI e) h1 (fun v h2 => Q (v * 2) h2)) : wp_X6_run rc 11 x (nI e) h Q := by
  unfold wp_X6_run
  exact br_y V.2.2.2.2.1 (br_y (dp30 he) (w_begin V hl (fun h1 V1 => br_n (by decide) (br_y rfl (hq h1 V1)))))
theorem rn_12 (V : VC h0 kd B m bs h) (hl : bs.length < 30) (he : e ≤ 30) (hq : ∀ h1, VC h0 kd B m (bs ++ [12]) h1 → rc.2.2.1 1 x (nI e) h1 (fun v h2 => Q (v - hp_i h2 93 2) h2)) : wp_X6_run rc 12 x (nI e) h Q := by
  unfold wp_X6_run
  exact br_y V.2.2.2.2.1 (br_y (dp30 he) (w_begin V hl (fun h1 V1 => br_n (by decide) (br_n (by decide) (br_y rfl (hq h1 V1))))))
theorem rn_13 (V : VC h0 kd B m bs h) (hl : bs.length < 30) (he : e ≤ 30) (hq : ∀ h1, VC h0 kd B m (bs ++ [13]) h1 → (m - B = 0 → Q 0 (hp_si h1 93 5 1)) ∧ (¬ m - B = 0 → Q (x / (m - B)) h1)) : wp_X6_run rc 13 x (nI e) h Q := by
  unfold wp_X6_run
  refine br_y V.2.2.2.2.1 (br_y (dp30 he) (w_begin V hl (fun h1 V1 => br_n (by decide) (br_n (by decide) (br_n (by decide) (br_y rfl ?_))))))
  rw [V1.2.2.1, V1.2.2.2.1]
  obtain ⟨q1, q2⟩ := hq h1 V1
  unfold wp_X6_part
  exact ⟨fun g h3 e3 => by subst e3; exact q1 g, fun g => ⟨g, q2 g⟩⟩
theorem rn_20 (V : VC h0 kd B m bs h) (hl : bs.length < 30) (he : e ≤ 30) (hq : ∀ h1, VC h0 kd B m (bs ++ [20]) h1 → rc.2.2.2 20 0 x (nI e) h1 (fun v h2 => Q (v - 6) h2)) : wp_X6_run rc 20 x (nI e) h Q := by
  unfold wp_X6_run
  exact br_y V.2.2.2.2.1 (br_y (dp30 he) (w_begin V hl (fun h1 V1 => br_n (by decide) (br_n (by decide) (br_n (by decide) (br_n (by decide) (br_y rfl (hq h1 V1))))))))
theorem rn_21 (V : VC h0 kd B m bs h) (hl : bs.length < 30) (he : e ≤ 30) (hq : ∀ h1, VC h0 kd B m (bs ++ [21]) h1 → rc.2.2.2 21 3 x (nI e) h1 (fun v h2 => rc.2.2.1 1 1 (nI e) h2 (fun w h3 => Q (v + w) h3))) : wp_X6_run rc 21 x (nI e) h Q := by
  unfold wp_X6_run
  exact br_y V.2.2.2.2.1 (br_y (dp30 he) (w_begin V hl (fun h1 V1 => br_n (by decide) (br_n (by decide) (br_n (by decide) (br_n (by decide) (br_n (by decide) (br_y rfl (hq h1 V1)))))))))
theorem rn_30 (V : VC h0 kd B m bs h) (hl : bs.length < 30) (he : e ≤ 30) (hq : ∀ h1, VC h0 kd B m (bs ++ [30]) h1 → rc.2.2.2 30 1 x (nI e) h1 (fun v h2 => Q (0 - v) h2)) : wp_X6_run rc 30 x (nI e) h Q := by
  unfold wp_X6_run
  exact br_y V.2.2.2.2.1 (br_y (dp30 he) (w_begin V hl (fun h1 V1 => br_n (by decide) (br_n (by decide) (br_n (by decide) (br_n (by decide) (br_n (by decide) (br_n (by decide) (br_y rfl (hq h1 V1))))))))))
theorem rn_40 (V : VC h0 kd B m bs h) (hl : bs.length < 30) (he : e ≤ 30) (hq : ∀ h1, VC h0 kd B m (bs ++ [40]) h1 → rc.2.2.2 40 2 (x / 2) (nI e) h1 (fun v h2 => Q v h2)) : wp_X6_run rc 40 x (nI e) h Q := by
  unfold wp_X6_run
  exact br_y V.2.2.2.2.1 (br_y (dp30 he) (w_begin V hl (fun h1 V1 => br_n (by decide) (br_n (by decide) (br_n (by decide) (br_n (by decide) (br_n (by decide) (br_n (by decide) (br_n (by decide) (br_y rfl (hq h1 V1)))))))))))
theorem rn_50 (V : VC h0 kd B m bs h) (hl : bs.length < 30) (he : e ≤ 30) (hq : ∀ h1, VC h0 kd B m (bs ++ [50]) h1 → rc.2.2.2 50 0 x (nI e) h1 (fun v h2 => Q (v * 3) h2)) : wp_X6_run rc 50 x (nI e) h Q := by
  unfold wp_X6_run
  exact br_y V.2.2.2.2.1 (br_y (dp30 he) (w_begin V hl (fun h1 V1 => br_n (by decide) (br_n (by decide) (br_n (by decide) (br_n (by decide) (br_n (by decide) (br_n (by decide) (br_n (by decide) (br_n (by decide) (br_y rfl (hq h1 V1))))))))))))
theorem rn_51 (V : VC h0 kd B m bs h) (hl : bs.length < 30) (he : e ≤ 30) (hq : ∀ h1, VC h0 kd B m (bs ++ [51]) h1 → rc.2.2.2 51 2 x (nI e) h1 (fun v h2 => Q (v ^^^ hp_i h2 93 1) h2)) : wp_X6_run rc 51 x (nI e) h Q := by
  unfold wp_X6_run
  exact br_y V.2.2.2.2.1 (br_y (dp30 he) (w_begin V hl (fun h1 V1 => br_n (by decide) (br_n (by decide) (br_n (by decide) (br_n (by decide) (br_n (by decide) (br_n (by decide) (br_n (by decide) (br_n (by decide) (br_n (by decide) (br_y rfl (hq h1 V1)))))))))))))
theorem rn_60 (V : VC h0 kd B m bs h) (hl : bs.length < 30) (he : e ≤ 30) (hq : ∀ h1, VC h0 kd B m (bs ++ [60]) h1 → rc.2.2.2 60 1 (x + 1) (nI e) h1 (fun v h2 => Q v h2)) : wp_X6_run rc 60 x (nI e) h Q := by
  unfold wp_X6_run
  exact br_y V.2.2.2.2.1 (br_y (dp30 he) (w_begin V hl (fun h1 V1 => br_n (by decide) (br_n (by decide) (br_n (by decide) (br_n (by decide) (br_n (by decide) (br_n (by decide) (br_n (by decide) (br_n (by decide) (br_n (by decide) (br_n (by decide) (br_y rfl (hq h1 V1))))))))))))))
theorem rn_70 (V : VC h0 kd B m bs h) (hl : bs.length < 30) (he : e ≤ 30) (hq : ∀ h1, VC h0 kd B m (bs ++ [70]) h1 → Q 5 h1) : wp_X6_run rc 70 x (nI e) h Q := by
  unfold wp_X6_run
  exact br_y V.2.2.2.2.1 (br_y (dp30 he) (w_begin V hl (fun h1 V1 => br_n (by decide) (br_n (by decide) (br_n (by decide) (br_n (by decide) (br_n (by decide) (br_n (by decide) (br_n (by decide) (br_n (by decide) (br_n (by decide) (br_n (by decide) (br_n (by decide) (br_y rfl (hq h1 V1)))))))))))))))
theorem rn_71 (V : VC h0 kd B m bs h) (hl : bs.length < 30) (he : e ≤ 30) (hq : ∀ h1, VC h0 kd B m (bs ++ [71]) h1 → rc.2.2.2 71 1 x (nI e) h1 (fun v h2 => Q (v + hp_i h2 93 2) h2)) : wp_X6_run rc 71 x (nI e) h Q := by
  unfold wp_X6_run
  exact br_y V.2.2.2.2.1 (br_y (dp30 he) (w_begin V hl (fun h1 V1 => br_n (by decide) (br_n (by decide) (br_n (by decide) (br_n (by decide) (br_n (by decide) (br_n (by decide) (br_n (by decide) (br_n (by decide) (br_n (by decide) (br_n (by decide) (br_n (by decide) (br_n (by decide) (br_y rfl (hq h1 V1))))))))))))))))
/-- the body that a kind has, or one above -/
def fbo (v : Nat) : Nat → Int32 → Option Int32
  | 0, _ => none
  | n + 1, y => if 0 ≤ y ∧ y ≤ 6 then (if ab_bod (4 * y.toNatClampNeg + v) = 0 then fbo v n (ab_abv y.toNatClampNeg) else some (ab_bod (4 * y.toNatClampNeg + v))) else none
theorem sf_L {v : Nat} (hv' : v < 4) {b x1 x4 : Int32} : ∀ (n : Nat) (y : Int32) (i nn : Nat), fbo v n y = some b → i + n ≤ 7 → n ≤ nn → rc.2.1 b x (x4 + 1) h (fun r h1 => Q r h1) → wp_X6_speakFrom_L6 rc x1 (nI v) x x4 Q nn y (nI i) h := by
  intro n
  induction n with
  | zero => intro y i nn hf; exact absurd hf (by unfold fbo; simp)
  | succ n ih =>
    intro y i nn hf hi hn hq
    obtain ⟨nn, rfl⟩ : ∃ k, nn = k + 1 := ⟨nn - 1, by omega⟩
    unfold fbo at hf
    by_cases g : 0 ≤ y ∧ y ≤ 6
    · rw [if_pos g] at hf
      obtain ⟨k, hk, rfl⟩ := nat_of (n := 6) g rfl
      have ck : (nI k).toNatClampNeg = k := nI_clamp (by omega)
      have ix : (4 : Int32) * nI k + nI v = nI (4 * k + v) := by rw [show (4 : Int32) = nI 4 from rfl, pk_mul, nI_add]
      have cx : (nI (4 * k + v)).toNatClampNeg = 4 * k + v := nI_clamp (by omega)
      rw [ck] at hf
      unfold wp_X6_speakFrom_L6
      rw [ix, cx, ck, show nI i + 1 = nI (i + 1) from nI_1 i]
      refine br_n (nI_ge (b := 7) (by omega) (by decide)) (br_n (nI_pos (by omega)) ⟨vp_in_nI (by omega) (by decide), fun z => ⟨vp_in_nI (by omega) (by decide), ?_⟩, fun z => ?_⟩)
      · rw [if_pos z] at hf
        exact ih _ (i + 1) nn hf (by omega) (by omega) hq
      · rw [if_neg z] at hf
        obtain rfl := Option.some.inj hf
        exact hq
    · rw [if_neg g] at hf
      exact absurd hf (by simp)
theorem sf {d v : Nat} {y b : Int32} (hf : fbo v 7 y = some b) (hv' : v < 4) (hq : wp_X6_run (wr_X6 d) b x (nI (e + 1)) h Q) : (wr_X6 (d + 2)).1 y (nI v) x (nI e) h Q := by
  show wp_X6_speakFrom (wr_X6 (d + 1)) y (nI v) x (nI e) h Q
  refine ⟨7, sf_L hv' 7 y 0 7 hf (by decide) (by decide) ?_⟩
  rw [show nI e + 1 = nI (e + 1) from nI_1 e]
  exact hq
theorem ow {d v : Nat} {b : Int32} (V : VC h0 kd B m bs h) (hf : fbo v 7 kd = some b) (hv' : v < 4) (hq : wp_X6_run (wr_X6 d) b x (nI (e + 1)) h Q) : (wr_X6 (d + 3)).2.2.1 (nI v) x (nI e) h Q := by
  show wp_X6_own (wr_X6 (d + 2)) (nI v) x (nI e) h Q
  unfold wp_X6_own
  rw [V.2.1]
  exact sf hf hv' hq
theorem abo {d v : Nat} {b b' : Int32} (k : Nat) (hk : b' / 10 - 1 = nI k) (k7 : k < 7) (hf : fbo v 7 (ab_abv k) = some b) (hv' : v < 4) (hq : wp_X6_run (wr_X6 d) b x (nI (e + 1)) h Q) : (wr_X6 (d + 3)).2.2.2 b' (nI v) x (nI e) h Q := by
  show wp_X6_above (wr_X6 (d + 2)) b' (nI v) x (nI e) h Q
  unfold wp_X6_above
  rw [hk, nI_clamp (n := k) (by omega)]
  exact ⟨vp_in_nI k7 (by decide), sf hf hv' hq⟩
/-- the body with which a kind speaks -/
theorem fbo_all : ((List.range 7).all fun c => fbo 0 7 (nI c) == (if c = 6 then some 70 else if c = 4 then some 50 else if c = 1 then some 20 else some 10) && (fbo 1 7 (nI c) == (if c = 6 then some 71 else if c = 5 then some 60 else if c = 2 then some 30 else some 11)) && (fbo 2 7 (nI c) == (if c = 3 then some 40 else if c = 4 then some 51 else some 12)) && (fbo 3 7 (nI c) == (if c = 1 then some 21 else if c = 4 then some 21 else some 13))) = true := by decide +kernel
theorem H_0 {d : Nat} (hk : fbo 0 7 kd = some 10) (V : VC h0 kd B m bs h) (hl : bs.length < 30) (he : e < 30) (hq : ∀ h1, VC h0 kd B m (bs ++ [10]) h1 → Q (x + B) h1) : (wr_X6 (d + 2)).1 kd 0 x (nI e) h Q :=
  sf (v := 0) hk (by decide) (rn_10 V hl (by omega) hq)
theorem HT {c d : Nat} (hc : c ≤ 6) (hkd : kd = nI c) (V : VC h0 kd B m bs h) (hl : bs.length < 20) (he : e < 20) (hq : ∀ h1, VC h0 kd B m (bs ++ ht kd) h1 → Q (hv kd x B) h1) : ∃ b, fbo 0 7 kd = some b ∧ wp_X6_run (wr_X6 (d + 10)) b x (nI (e + 1)) h Q := by
  subst hkd
  have g : c = 0 ∨ c = 1 ∨ c = 2 ∨ c = 3 ∨ c = 4 ∨ c = 5 ∨ c = 6 := by omega
  have l1 : ∀ (b : Int32), (bs ++ [b]).length < 30 := fun b => by rw [List.length_append]; exact Nat.lt_of_lt_of_le (Nat.add_lt_add_right hl 1) (by decide)
  have l2 : ∀ (b b' : Int32), ((bs ++ [b]) ++ [b']).length < 30 := fun b b' => by rw [List.length_append, List.length_append]; exact Nat.lt_of_lt_of_le (Nat.add_lt_add_right (Nat.add_lt_add_right hl 1) 1) (by decide)
  rcases g with rfl | rfl | rfl | rfl | rfl | rfl | rfl
  · exact ⟨10, by decide +kernel, rn_10 V (by omega) (by omega) hq⟩
  · refine ⟨20, by decide +kernel, rn_20 V (by omega) (by omega) (fun h1 V1 => abo (d := d + 7) (v := 0) (b := 10) 1 (by decide +kernel) (by decide) (by decide +kernel) (by decide) (rn_10 V1 (l1 _) (by omega) (fun h2 V2 => hq h2 ?_)))⟩
    rw [List.append_assoc] at V2; exact V2
  · exact ⟨10, by decide +kernel, rn_10 V (by omega) (by omega) hq⟩
  · exact ⟨10, by decide +kernel, rn_10 V (by omega) (by omega) hq⟩
  · refine ⟨50, by decide +kernel, rn_50 V (by omega) (by omega) (fun h1 V1 => abo (d := d + 7) (v := 0) (b := 20) 4 (by decide +kernel) (by decide) (by decide +kernel) (by decide) (rn_20 V1 (l1 _) (by omega) (fun h2 V2 => abo (d := d + 4) (v := 0) (b := 10) 1 (by decide +kernel) (by decide) (by decide +kernel) (by decide) (rn_10 V2 (l2 _ _) (by omega) (fun h3 V3 => hq h3 ?_)))))⟩
    rw [List.append_assoc, List.append_assoc] at V3; exact V3
  · exact ⟨10, by decide +kernel, rn_10 V (by omega) (by omega) hq⟩
  · exact ⟨70, by decide +kernel, rn_70 V (by omega) (by omega) hq⟩
theorem R11 {c d : Nat} (hc : c ≤ 6) (hkd : kd = nI c) (V : VC h0 kd B m bs h) (hl : bs.length < 19) (he : e < 19) (hq : ∀ h1, VC h0 kd B m (bs ++ [11] ++ ht kd) h1 → Q (hv kd x B * 2) h1) : wp_X6_run (wr_X6 (d + 13)) 11 x (nI e) h Q := by
  refine rn_11 V (by omega) (by omega) (fun h1 V1 => ?_)
  obtain ⟨b, hb, hr⟩ := HT (d := d) (x := x) (e := e) (Q := fun v h2 => Q (v * 2) h2) hc hkd V1 (by rw [List.length_append]; exact Nat.add_lt_add_right hl 1) (by omega) hq
  exact ow (v := 0) V1 hb (by decide) hr
theorem TT {c d : Nat} (hc : c ≤ 6) (hkd : kd = nI c) (V : VC h0 kd B m bs h) (hl : bs.length < 15) (he : e < 15) (hq : ∀ h1, VC h0 kd B m (bs ++ et2 kd) h1 → Q (ev2 kd x B m) h1) : ∃ b, fbo 1 7 kd = some b ∧ wp_X6_run (wr_X6 (d + 22)) b x (nI (e + 1)) h Q := by
  have g : c = 0 ∨ c = 1 ∨ c = 2 ∨ c = 3 ∨ c = 4 ∨ c = 5 ∨ c = 6 := by omega
  have l1 : ∀ (b : Int32), (bs ++ [b]).length < 16 := fun b => by rw [List.length_append]; exact Nat.add_lt_add_right hl 1
  have l2 : ∀ (b b' : Int32), ((bs ++ [b]) ++ [b']).length < 17 := fun b b' => by rw [List.length_append, List.length_append]; exact Nat.add_lt_add_right (Nat.add_lt_add_right hl 1) 1
  rcases g with rfl | rfl | rfl | rfl | rfl | rfl | rfl
  · exact ⟨11, by subst hkd; decide +kernel, R11 (d := d + 9) hc hkd V (by omega) (by omega) (fun h2 V2 => by rw [List.append_assoc] at V2; subst hkd; exact hq h2 V2)⟩
  · exact ⟨11, by subst hkd; decide +kernel, R11 (d := d + 9) hc hkd V (by omega) (by omega) (fun h2 V2 => by rw [List.append_assoc] at V2; subst hkd; exact hq h2 V2)⟩
  · exact ⟨30, by subst hkd; decide +kernel, rn_30 V (by omega) (by omega) (fun h1 V1 => abo (d := d + 19) (v := 1) (b := 11) 2 (by decide +kernel) (by decide) (by decide +kernel) (by decide) (R11 (d := d + 6) hc hkd V1 (Nat.lt_trans (l1 _) (by decide)) (by omega) (fun h2 V2 => by rw [List.append_assoc, List.append_assoc] at V2; subst hkd; exact hq h2 V2)))⟩
  · exact ⟨11, by subst hkd; decide +kernel, R11 (d := d + 9) hc hkd V (by omega) (by omega) (fun h2 V2 => by rw [List.append_assoc] at V2; subst hkd; exact hq h2 V2)⟩
  · exact ⟨11, by subst hkd; decide +kernel, R11 (d := d + 9) hc hkd V (by omega) (by omega) (fun h2 V2 => by rw [List.append_assoc] at V2; subst hkd; exact hq h2 V2)⟩
  · exact ⟨60, by subst hkd; decide +kernel, rn_60 V (by omega) (by omega) (fun h1 V1 => abo (d := d + 19) (v := 1) (b := 30) 5 (by decide +kernel) (by decide) (by decide +kernel) (by decide) (rn_30 V1 (Nat.lt_trans (l1 _) (by decide)) (by omega) (fun h2 V2 => abo (d := d + 16) (v := 1) (b := 11) 2 (by decide +kernel) (by decide) (by decide +kernel) (by decide) (R11 (d := d + 3) hc hkd V2 (Nat.lt_trans (l2 _ _) (by decide)) (by omega) (fun h3 V3 => by rw [List.append_assoc, List.append_assoc, List.append_assoc] at V3; subst hkd; exact hq h3 V3)))))⟩
  · exact ⟨71, by subst hkd; decide +kernel, rn_71 V (by omega) (by omega) (fun h1 V1 => abo (d := d + 19) (v := 1) (b := 11) 6 (by decide +kernel) (by decide) (by decide +kernel) (by decide) (R11 (d := d + 6) hc hkd V1 (Nat.lt_trans (l1 _) (by decide)) (by omega) (fun h2 V2 => by rw [List.append_assoc, List.append_assoc] at V2; rw [V2.2.2.2.1]; subst hkd; exact hq h2 V2)))⟩
theorem R12 {c d : Nat} (hc : c ≤ 6) (hkd : kd = nI c) (V : VC h0 kd B m bs h) (hl : bs.length < 14) (he : e < 14) (hq : ∀ h1, VC h0 kd B m (bs ++ [12] ++ et2 kd) h1 → Q (ev2 kd x B m - m) h1) : wp_X6_run (wr_X6 (d + 25)) 12 x (nI e) h Q := by
  refine rn_12 V (by omega) (by omega) (fun h1 V1 => ?_)
  obtain ⟨b, hb, hr⟩ := TT (d := d) (x := x) (e := e) (Q := fun v h2 => Q (v - hp_i h2 93 2) h2) hc hkd V1 (by rw [List.length_append]; exact Nat.add_lt_add_right hl 1) (by omega) (fun h2 V2 => by rw [V2.2.2.2.1]; exact hq h2 V2)
  exact ow (v := 1) V1 hb (by decide) hr
theorem BB {c d : Nat} (hc : c ≤ 6) (hkd : kd = nI c) (V : VC h0 kd B m bs h) (hl : bs.length < 10) (he : e < 10) (hq : ∀ h1, VC h0 kd B m (bs ++ et3 kd) h1 → Q (ev3 kd x B m) h1) : ∃ b, fbo 2 7 kd = some b ∧ wp_X6_run (wr_X6 (d + 28)) b x (nI (e + 1)) h Q := by
  have l1 : ∀ (b : Int32), (bs ++ [b]).length < 14 := fun b => by rw [List.length_append]; exact Nat.lt_of_lt_of_le (Nat.add_lt_add_right hl 1) (by decide)
  have g : c = 0 ∨ c = 1 ∨ c = 2 ∨ c = 3 ∨ c = 4 ∨ c = 5 ∨ c = 6 := by omega
  rcases g with rfl | rfl | rfl | rfl | rfl | rfl | rfl
  · exact ⟨12, by subst hkd; decide +kernel, R12 (d := d + 3) hc hkd V (by omega) (by omega) (fun h2 V2 => by rw [List.append_assoc] at V2; subst hkd; exact hq h2 V2)⟩
  · exact ⟨12, by subst hkd; decide +kernel, R12 (d := d + 3) hc hkd V (by omega) (by omega) (fun h2 V2 => by rw [List.append_assoc] at V2; subst hkd; exact hq h2 V2)⟩
  · exact ⟨12, by subst hkd; decide +kernel, R12 (d := d + 3) hc hkd V (by omega) (by omega) (fun h2 V2 => by rw [List.append_assoc] at V2; subst hkd; exact hq h2 V2)⟩
  · exact ⟨40, by subst hkd; decide +kernel, rn_40 V (by omega) (by omega) (fun h1 V1 => abo (d := d + 25) (v := 2) (b := 12) 3 (by decide +kernel) (by decide) (by decide +kernel) (by decide) (R12 (d := d) hc hkd V1 (l1 _) (by omega) (fun h2 V2 => by rw [List.append_assoc, List.append_assoc] at V2; subst hkd; exact hq h2 V2)))⟩
  · exact ⟨51, by subst hkd; decide +kernel, rn_51 V (by omega) (by omega) (fun h1 V1 => abo (d := d + 25) (v := 2) (b := 12) 4 (by decide +kernel) (by decide) (by decide +kernel) (by decide) (R12 (d := d) hc hkd V1 (l1 _) (by omega) (fun h2 V2 => by rw [List.append_assoc, List.append_assoc] at V2; rw [V2.2.2.1]; subst hkd; exact hq h2 V2)))⟩
  · exact ⟨12, by subst hkd; decide +kernel, R12 (d := d + 3) hc hkd V (by omega) (by omega) (fun h2 V2 => by rw [List.append_assoc] at V2; subst hkd; exact hq h2 V2)⟩
  · exact ⟨12, by subst hkd; decide +kernel, R12 (d := d + 3) hc hkd V (by omega) (by omega) (fun h2 V2 => by rw [List.append_assoc] at V2; subst hkd; exact hq h2 V2)⟩
end VO
