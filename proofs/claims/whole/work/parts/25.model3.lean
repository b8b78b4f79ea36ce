/-! ===== PURE: the reference: a man comes, the relief, the tasks ===== -/
abbrev P106 : Nat → Nat → Prop := fun a _ => a = 106
def cmF (b : Nat) (br : Int32) (i : Nat) (R : st_T) : st_T := ss (ss R (11 + 17 * b + (5 + i)) (if kb br (nI i) = true then 1 else 0)) (11 + 17 * b + (11 + i)) 0
theorem cmF_lp (b : Nat) (br : Int32) : ∀ (r i : Nat) (R : st_T) (j : Nat), i + r = 6 → lp (cmF b br) i r R j = if 11 + 17 * b + 5 + i ≤ j ∧ j < 11 + 17 * b + 11 then (if kb br (nI (j - (11 + 17 * b + 5))) = true then 1 else 0) else if 11 + 17 * b + 11 + i ≤ j ∧ j < 11 + 17 * b + 17 then 0 else R j := by
  intro r
  induction r with
  | zero =>
    intro i R j hi
    unfold lp
    rw [if_neg (by omega), if_neg (by omega)]
  | succ r ih =>
    intro i R j hi
    show lp (cmF b br) (i + 1) r (cmF b br i R) j = _
    rw [ih (i + 1) _ j (by omega)]
    by_cases h1 : 11 + 17 * b + 5 + (i + 1) ≤ j ∧ j < 11 + 17 * b + 11
    · rw [if_pos h1, if_pos (show 11 + 17 * b + 5 + i ≤ j ∧ j < 11 + 17 * b + 11 by omega)]
    · rw [if_neg h1]
      by_cases h2 : 11 + 17 * b + 11 + (i + 1) ≤ j ∧ j < 11 + 17 * b + 17
      · rw [if_pos h2, if_neg (show ¬ (11 + 17 * b + 5 + i ≤ j ∧ j < 11 + 17 * b + 11) by omega), if_pos (show 11 + 17 * b + 11 + i ≤ j ∧ j < 11 + 17 * b + 17 by omega)]
      · rw [if_neg h2]
        unfold cmF
        by_cases e1 : j = 11 + 17 * b + (11 + i)
        · subst e1
          rw [ss_i, if_neg (show ¬ (11 + 17 * b + 5 + i ≤ 11 + 17 * b + (11 + i) ∧ 11 + 17 * b + (11 + i) < 11 + 17 * b + 11) by omega), if_pos (show 11 + 17 * b + 11 + i ≤ 11 + 17 * b + (11 + i) ∧ 11 + 17 * b + (11 + i) < 11 + 17 * b + 17 by omega)]
        · rw [ss_n e1]
          by_cases e2 : j = 11 + 17 * b + (5 + i)
          · subst e2
            rw [ss_i, if_pos (show 11 + 17 * b + 5 + i ≤ 11 + 17 * b + (5 + i) ∧ 11 + 17 * b + (5 + i) < 11 + 17 * b + 11 by omega), show 11 + 17 * b + (5 + i) - (11 + 17 * b + 5) = i by omega]
          · rw [ss_n e2, if_neg (show ¬ (11 + 17 * b + 5 + i ≤ j ∧ j < 11 + 17 * b + 11) by omega), if_neg (show ¬ (11 + 17 * b + 11 + i ≤ j ∧ j < 11 + 17 * b + 17) by omega)]
def cm4 (S : st_T) (b : Nat) (km br bk dy : Int32) : st_T := ss (ss (ss (ss S (11 + 17 * b + 0) (km / 10)) (11 + 17 * b + 1) (km - km / 10 * 10)) (11 + 17 * b + 2) dy) (11 + 17 * b + 3) (br ||| bk)
theorem cm_lp (S : st_T) (b : Nat) (km br bk dy : Int32) : lp (cmF b br) 0 6 (cm4 S b km br bk dy) = cm S b km br bk dy := by
  funext j
  rw [cmF_lp b br 6 0 _ j rfl]
  unfold cm cm4
  by_cases h1 : 11 + 17 * b + 5 ≤ j ∧ j < 11 + 17 * b + 11
  · rw [if_pos (show 11 + 17 * b + 5 + 0 ≤ j ∧ j < 11 + 17 * b + 11 by omega), if_neg (show ¬ j = 11 + 17 * b by omega), if_neg (show ¬ j = 11 + 17 * b + 1 by omega), if_neg (show ¬ j = 11 + 17 * b + 2 by omega), if_neg (show ¬ j = 11 + 17 * b + 3 by omega), if_pos h1]
  · rw [if_neg (show ¬ (11 + 17 * b + 5 + 0 ≤ j ∧ j < 11 + 17 * b + 11) by omega)]
    by_cases h2 : 11 + 17 * b + 11 ≤ j ∧ j < 11 + 17 * b + 17
    · rw [if_pos (show 11 + 17 * b + 11 + 0 ≤ j ∧ j < 11 + 17 * b + 17 by omega), if_neg (show ¬ j = 11 + 17 * b by omega), if_neg (show ¬ j = 11 + 17 * b + 1 by omega), if_neg (show ¬ j = 11 + 17 * b + 2 by omega), if_neg (show ¬ j = 11 + 17 * b + 3 by omega), if_neg h1, if_pos h2]
    · rw [if_neg (show ¬ (11 + 17 * b + 11 + 0 ≤ j ∧ j < 11 + 17 * b + 17) by omega), if_neg h1, if_neg h2]
      by_cases e3 : j = 11 + 17 * b + 3
      · subst e3
        rw [ss_i, if_neg (by omega), if_neg (by omega), if_neg (by omega), if_pos rfl]
      · rw [ss_n e3, if_neg e3]
        by_cases e2 : j = 11 + 17 * b + 2
        · subst e2
          rw [ss_i, if_neg (by omega), if_neg (by omega), if_pos rfl]
        · rw [ss_n e2, if_neg e2]
          by_cases e1 : j = 11 + 17 * b + 1
          · subst e1
            rw [ss_i, if_neg (by omega), if_pos rfl]
          · rw [ss_n e1, if_neg e1]
            by_cases e0 : j = 11 + 17 * b
            · subst e0
              rw [if_pos rfl]
              exact ss_i
            · rw [if_neg e0, ss_n (show j ≠ 11 + 17 * b + 0 by omega)]
theorem m_comes_L {b : Nat} {km br bk dy : Int32} (hb : b < 6) {Q : hp_T → Prop} : ∀ (r i nn : Nat) (h : hp_T), i + r = 6 → r < nn → (∀ h1, fr P106 h h1 → hp_i h1 106 = lp (cmF b br) i r (hp_i h 106) → Q h1) → wp_X8_comes_L57 (nI b) km br bk dy Q nn (nI i) h := by
  have v1 : vp_in (nI b) 6 := vp_in_nI (by omega) (by decide)
  intro r
  induction r with
  | zero =>
    intro i nn h hi hn hq
    obtain ⟨nn, rfl⟩ : ∃ m, nn = m + 1 := ⟨nn - 1, by omega⟩
    unfold wp_X8_comes_L57
    have : i = 6 := by omega
    subst this
    exact ⟨fun _ => hq h fr.refl rfl, fun z => absurd (by decide) z⟩
  | succ r ih =>
    intro i nn h hi hn hq
    obtain ⟨nn, rfl⟩ : ∃ m, nn = m + 1 := ⟨nn - 1, by omega⟩
    unfold wp_X8_comes_L57
    refine ⟨fun z => absurd z (nI_ge (b := 6) (by omega) (by decide)), fun _ => ?_⟩
    rw [x_at (5 + i) v1 (show (5 : Int32) + nI i = nI (5 + i) from nI_add 5 i) (by omega), x_has, nI_clamp (n := b) (by omega), nI_clamp (n := 11 + 17 * b + (5 + i)) (by omega)]
    simp only [bi_0, show nI i + 1 = nI (i + 1) from nI_1 i]
    have step : ∀ v : Int32, (if kb br (nI i) = true then 1 else 0) = v → wp_X8_comes_L57 (nI b) km br bk dy Q nn (nI (i + 1)) (hp_si (hp_si h 106 (11 + 17 * b + (5 + i)) v) 106 (11 + 17 * b + (11 + i)) 0) := by
      intro v hv
      refine ih (i + 1) nn _ (by omega) (by omega) ?_
      intro h1 f1 e1
      refine hq h1 (((fr_si (P := P106) rfl).si rfl).trans f1) ?_
      rw [e1, si_row, si_row]
      show _ = lp (cmF b br) (i + 1) r (cmF b br i (hp_i h 106))
      unfold cmF
      rw [hv]
    refine ⟨fun z => ⟨vp_in_nI (by omega) (by decide), ?_⟩, fun z => ⟨vp_in_nI (by omega) (by decide), ?_⟩⟩
    · rintro h1 rfl
      rw [x_at (11 + i) v1 (show (11 : Int32) + nI i = nI (11 + i) from nI_add 11 i) (by omega), nI_clamp (n := b) (by omega), nI_clamp (n := 11 + 17 * b + (11 + i)) (by omega)]
      refine ⟨vp_in_nI (by omega) (by decide), ?_⟩
      rintro h2 rfl
      exact step 0 (if_neg z)
    · rintro h1 rfl
      rw [x_at (11 + i) v1 (show (11 : Int32) + nI i = nI (11 + i) from nI_add 11 i) (by omega), nI_clamp (n := b) (by omega), nI_clamp (n := 11 + 17 * b + (11 + i)) (by omega)]
      refine ⟨vp_in_nI (by omega) (by decide), ?_⟩
      rintro h2 rfl
      exact step 1 (if_pos (by simpa using z))
theorem m_comes {S : st_T} {b : Nat} {km br bk dy : Int32} {h : hp_T} {Q : hp_T → Prop} (hb : b < 6) (hS : hp_i h 106 = S) (hQ : ∀ h1, fr P106 h h1 → hp_i h1 106 = cm S b km br bk dy → Q h1) : wp_X8_comes (nI b) km br bk dy h Q := by
  have v1 : vp_in (nI b) 6 := vp_in_nI (by omega) (by decide)
  unfold wp_X8_comes
  rw [x_at 0 v1 (show (0 : Int32) = nI 0 from rfl) (by decide), nI_clamp (n := b) (by omega), nI_clamp (n := 11 + 17 * b + 0) (by omega)]
  refine ⟨vp_in_nI (by omega) (by decide), ?_⟩
  rintro h1 rfl
  rw [x_at 1 v1 (show (1 : Int32) = nI 1 from rfl) (by decide), nI_clamp (n := b) (by omega), nI_clamp (n := 11 + 17 * b + 1) (by omega)]
  refine ⟨vp_in_nI (by omega) (by decide), ?_⟩
  rintro h1 rfl
  rw [x_at 2 v1 (show (2 : Int32) = nI 2 from rfl) (by decide), nI_clamp (n := b) (by omega), nI_clamp (n := 11 + 17 * b + 2) (by omega)]
  refine ⟨vp_in_nI (by omega) (by decide), ?_⟩
  rintro h1 rfl
  rw [x_at 3 v1 (show (3 : Int32) = nI 3 from rfl) (by decide), nI_clamp (n := b) (by omega), nI_clamp (n := 11 + 17 * b + 3) (by omega)]
  refine ⟨vp_in_nI (by omega) (by decide), ?_⟩
  rintro h1 rfl
  refine ⟨7, m_comes_L hb 6 0 7 _ rfl (by decide) ?_⟩
  intro h2 f2 e2
  refine hQ h2 (((((fr_si (P := P106) rfl).si rfl).si rfl).si rfl).trans f2) ?_
  rw [e2, si_row, si_row, si_row, si_row, hS]
  exact cm_lp S b km br bk dy
abbrev PR : Nat → Nat → Prop := fun a j => a = 106 ∨ (a = 105 ∧ j = 12)
theorem rb_nI {S : st_T} {D : Int} (hc : rg (S 0) 0 6) (h0 : 0 < cr S) (hd : rg (S 3) 0 D) : S 3 - S 3 / S 0 * S 0 = nI (rb S) ∧ rb S < cr S := by
  have h6 := (cr_nI hc).2
  have hlt : (S 3).toInt < 2147483648 := Int32.toInt_lt _
  obtain ⟨d, hd1, ed⟩ : ∃ d, d < 2147483648 ∧ S 3 = nI d := ⟨(S 3).toInt.toNat, by have := hd.1; omega, by rw [i_eq, i_nI (by have := hd.1; omega)]; have := hd.1; omega⟩
  have e : S 3 - S 3 / S 0 * S 0 = nI (d % cr S) := by
    conv => lhs; rw [(cr_nI hc).1, ed]
    exact pk_rem hd1 h0 (by omega)
  have hm := Nat.mod_lt d h0
  have e2 : rb S = d % cr S := by unfold rb; rw [e, nI_clamp (by omega)]
  rw [e2]
  exact ⟨e, hm⟩
theorem pos_nI {S : st_T} {i : Nat} {b : Int} {n : Nat} (h : rg (S i) 0 b) (hb : b = n) (hn : n < 2147483648) (h0 : ¬ S i ≤ 0) : 0 < (S i).toNatClampNeg ∧ S i = nI (S i).toNatClampNeg ∧ (S i).toNatClampNeg ≤ n := by
  obtain ⟨c, hc, e⟩ := rg_nI n h hb hn
  rw [i_le] at h0
  have e0 : (0 : Int32).toInt = 0 := rfl
  have e2 : (S i).toNatClampNeg = c := by rw [e, nI_clamp (by omega)]
  rw [e2]
  refine ⟨?_, e, hc⟩
  rw [e, i_nI (by omega)] at h0
  omega
theorem m_relieves {S : st_T} {D : Int} {h : hp_T} {Q : hp_T → Prop} (hV : Vl D S) (hS : hp_i h 106 = S) (hQ : ∀ h1, fr PR h h1 → hp_i h1 106 = (rl S).1 → hp_i h1 105 12 = hp_i h 105 12 + (rl S).2 → Q h1) : wp_X8_relieves h Q := by
  obtain ⟨hc, h1V, ⟨h2V, h2V'⟩, h3V, h4V, -, -, hbV, hrV, -⟩ := hV
  unfold wp_X8_relieves
  rw [hS]
  have no : (S 0 ≤ 0 ∨ S 1 ≤ 0 ∨ ry S (rb S)) → Q h := by
    intro z
    have e : rl S = (S, 0) := by unfold rl; rw [if_pos z]
    exact hQ h fr.refl (by rw [e]; exact hS) (by rw [e]; simp)
  refine ⟨fun z => no (Or.inl z), fun z0 => ⟨fun z => no (Or.inr (Or.inl z)), fun z1 => ?_⟩⟩
  obtain ⟨p0, q0, r0⟩ := pos_nI hc (n := 6) rfl (by decide) z0
  obtain ⟨p1, q1, r1⟩ := pos_nI h1V (n := 12) rfl (by decide) z1
  obtain ⟨b1, b2⟩ := rb_nI hc p0 h3V
  obtain ⟨v1, v2, v3⟩ := vp_nI hc b2
  refine ⟨fun e => z0 (by rw [e]; decide), ?_⟩
  rw [b1]
  refine m_isStaying v1 hS (by rw [v2]; exact (hbV _ b2).2.1) (fun y => ?_) (fun y => ?_)
  · rw [v2] at y
    exact ⟨fun z => absurd z (by decide), fun _ => no (Or.inr (Or.inr y))⟩
  · rw [v2] at y
    have e : rl S = (rl1 S, 1) := by
      unfold rl
      rw [if_neg (fun z => by rcases z with z | z | z; exact z0 z; exact z1 z; exact y z)]
    rw [e] at hQ
    refine ⟨fun _ => ?_, fun z => absurd rfl z⟩
    obtain ⟨n, hn, en'⟩ := rg_nI 11 h2V rfl (by decide)
    have e2 : (S 2).toNatClampNeg = n := by rw [en', nI_clamp (by omega)]
    have i1 : (113 : Int32) + (2 : Int32) * S 2 = nI (113 + 2 * n) := by rw [en', show (113 : Int32) = nI 113 from rfl, show (2 : Int32) = nI 2 from rfl, pk_mul, nI_add]
    rw [i1, show nI (113 + 2 * n) + 1 = nI (114 + 2 * n) from by rw [nI_1]; congr 1; omega, nI_clamp (n := 113 + 2 * n) (by omega), nI_clamp (n := 114 + 2 * n) (by omega)]
    refine ⟨vp_in_nI (by omega) (by decide), vp_in_nI (by omega) (by decide), ?_⟩
    refine m_comes v3 hS ?_
    intro h1 f1 e1
    have r0' : ∀ j, j < 11 → hp_i h1 106 j = S j := by
      intro j hj
      rw [e1]
      unfold cm
      rw [if_neg (by omega), if_neg (by omega), if_neg (by omega), if_neg (by omega), if_neg (by omega), if_neg (by omega)]
    rw [r0' 1 (by decide), r0' 2 (by decide)]
    refine ⟨fun e => z1 (by rw [e]; decide), ?_⟩
    rintro h2 rfl
    rintro h3 rfl
    refine hQ _ (((f1.mono fun _ _ q => Or.inl q).si (Or.inl rfl)).si (Or.inr ⟨rfl, rfl⟩)) ?_ ?_
    · rw [si_row_ne (by decide), si_row, e1]
      unfold rl1
      rw [e2]
    · rw [hp_i_si, if_pos ⟨rfl, rfl⟩, hp_i_si, if_neg (by decide), f1.2 105 12 (show ¬ (105 : Nat) = 106 by decide)]
def tkF (t : Nat) (S : st_T) : st_T := if kns S (S (137 + 4 * t)) < S (137 + 4 * t + 1) then ss S (137 + 4 * t + 3) (hl (S (137 + 4 * t + 3) + (if S (137 + 4 * t + 1) ≤ 0 then 0 else 1)) 0 999999) else ss S (137 + 4 * t + 2) (hl (S (137 + 4 * t + 2) + (if S (137 + 4 * t + 1) ≤ 0 then 0 else 1)) 0 999999)
theorem x_where (n : Nat) {t w : Int32} {h : hp_T} {R : Int32 → Prop} (hb : vp_in t 4) (hw : w = nI n) (hn : n < 4) : wp_X8_where t w h R = R (nI (137 + 4 * t.toNatClampNeg + n)) := by
  obtain ⟨h1, h2⟩ := ix_task hb hw hn
  have hb6 := vp_in_lt hb
  unfold wp_X8_where
  have e : ((137 : Int32) + ((4 : Int32) * t)) + w = nI (137 + 4 * t.toNatClampNeg + n) := by
    rw [← h2]
    rw [i_eq, i_nI (by rw [h2]; omega), i_nat]
    have := (i_in.mp h1).1
    omega
  rw [e]
theorem tkF_lo {t : Nat} {S : st_T} {j : Nat} (hj : j < 137) : tkF t S j = S j := by
  unfold tkF
  split <;> exact ss_n (by omega)
theorem m_tasks_L {x1 : Int32} {Q : hp_T → Prop} : ∀ (r i nn : Nat) (h : hp_T), i + r = 4 → r < nn → rg (hp_i h 106 0) 0 6 → (∀ h1, fr P106 h h1 → hp_i h1 106 = ss (lp tkF i r (hp_i h 106)) 3 (lp tkF i r (hp_i h 106) 3 + 1) → Q h1) → wp_X8_day_L40 x1 Q nn (nI i) h := by
  intro r
  induction r with
  | zero =>
    intro i nn h hi hn hc hq
    obtain ⟨nn, rfl⟩ : ∃ m, nn = m + 1 := ⟨nn - 1, by omega⟩
    unfold wp_X8_day_L40
    have : i = 4 := by omega
    subst this
    refine ⟨fun _ => ?_, fun z => absurd (by decide) z⟩
    rintro h1 rfl
    exact hq _ (fr_si rfl) (by rw [si_row]; rfl)
  | succ r ih =>
    intro i nn h hi hn hc hq
    obtain ⟨nn, rfl⟩ : ∃ m, nn = m + 1 := ⟨nn - 1, by omega⟩
    unfold wp_X8_day_L40
    have v1 : vp_in (nI i) 4 := vp_in_nI (by omega) (by decide)
    have v2 : (nI i).toNatClampNeg = i := nI_clamp (by omega)
    refine ⟨fun z => absurd z (nI_ge (b := 4) (by omega) (by decide)), fun _ => ?_⟩
    simp only [x_ofTask 0 v1 (show (0 : Int32) = nI 0 from rfl) (by decide), x_ofTask 1 v1 (show (1 : Int32) = nI 1 from rfl) (by decide), x_ofTask 2 v1 (show (2 : Int32) = nI 2 from rfl) (by decide), x_ofTask 3 v1 (show (3 : Int32) = nI 3 from rfl) (by decide), x_where 2 v1 (show (2 : Int32) = nI 2 from rfl) (by decide), x_where 3 v1 (show (3 : Int32) = nI 3 from rfl) (by decide), x_held, v2, show nI i + 1 = nI (i + 1) from nI_1 i, nI_clamp (show 137 + 4 * i + 2 < 2 ^ 31 by omega), nI_clamp (show 137 + 4 * i + 3 < 2 ^ 31 by omega)]
    refine m_knowers hc rfl ?_
    have step : ∀ (w : Nat) (v : Int32), w = 2 ∨ w = 3 → tkF i (hp_i h 106) = ss (hp_i h 106) (137 + 4 * i + w) v → wp_X8_day_L40 x1 Q nn (nI (i + 1)) (hp_si h 106 (137 + 4 * i + w) v) := by
      intro w v hw hv
      refine ih (i + 1) nn _ (by omega) (by omega) (by rw [si_row, ss_n (by omega)]; exact hc) ?_
      intro h1 f1 e1
      refine hq h1 ((fr_si (P := P106) rfl).trans f1) ?_
      rw [e1, si_row, ← hv]
      rfl
    have e0 : 137 + 4 * i + 0 = 137 + 4 * i := rfl
    rw [e0]
    refine ⟨fun z => ⟨fun y => ⟨vp_in_nI (by omega) (by decide), ?_⟩, fun y => ⟨vp_in_nI (by omega) (by decide), ?_⟩⟩, fun z => ⟨fun y => ⟨vp_in_nI (by omega) (by decide), ?_⟩, fun y => ⟨vp_in_nI (by omega) (by decide), ?_⟩⟩⟩
    · rintro h1 rfl
      exact step 3 _ (Or.inr rfl) (by unfold tkF; rw [if_pos z, if_pos y])
    · rintro h1 rfl
      exact step 3 _ (Or.inr rfl) (by unfold tkF; rw [if_pos z, if_neg y])
    · rintro h1 rfl
      exact step 2 _ (Or.inl rfl) (by unfold tkF; rw [if_neg z, if_pos y])
    · rintro h1 rfl
      exact step 2 _ (Or.inl rfl) (by unfold tkF; rw [if_neg z, if_neg y])
