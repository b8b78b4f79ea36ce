/-! ===== PURE: the law ===== -/
theorem Inv0 {h : hp_T} (B : BP 117 7 [] h) : Inv h := by
  obtain ⟨b1, b2, b3, b4, b5⟩ := B
  have hi : ∀ a j, a < 117 → hp_i h a j = pI a j := fun a j ha => by rw [b2 a j ha, if_neg (fun z => by cases z)]
  have hr : ∀ a j, 0 < a → a < 117 → hp_r h a j = ab_sr a j := fun a j h0 ha => by rw [b3 a j h0 ha, if_neg (fun z => by cases z)]
  have p0 : ∀ a j, a ≠ 1 → a ≠ 31 → a ≠ 61 → a ≠ 106 → pI a j = 0 := fun a j h1 h2 h3 h4 => by
    unfold pI
    rw [if_neg (by omega), if_neg (by omega), if_neg (by omega), if_neg (by omega)]
  have p1 : ∀ a j, j ≠ 9 → j ≠ 10 → a ≠ 106 → pI a j = 0 := fun a j h1 h2 h4 => by
    unfold pI
    rw [if_neg (by omega), if_neg (by omega), if_neg (by omega), if_neg (by omega)]
  have p2 : ∀ j, j ≠ 5 → j ≠ 6 → pI 106 j = 0 := fun j h1 h2 => by
    unfold pI
    rw [if_neg (by omega), if_neg (by omega), if_neg (by omega), if_neg (by omega)]
  have z : ∀ j, j ≠ 5 → j ≠ 6 → hp_i h 106 j = 0 := fun j h1 h2 => by rw [hi 106 j (by decide), p2 j h1 h2]
  have r0 : rg 0 0 0 := ⟨by decide, by decide⟩
  have rz : ∀ (a b : Int), a ≤ 0 → 0 ≤ b → rg 0 a b := fun a b h1 h2 => ⟨h1, h2⟩
  have s0 : ∀ j, j < 24 → (j < 7 ∨ (ab_sr 0 j == none) = true) := by decide +kernel
  have hw : wf h := by
    refine ⟨by rw [b1]; exact Nat.le_refl _, fun a j t ha hs => ?_, fun a ha hl => b4 a ha hl⟩
    by_cases g : a = 0
    · subst g
      rw [b5 j]
      by_cases w : j < 7
      · rw [if_pos w]; exact hs
      · exfalso
        by_cases w2 : j < 24
        · rcases s0 j w2 with y | y
          · exact w y
          · have y : ab_sr 0 j = none := by simpa using y
            rw [y] at hs; cases hs
        · rw [(sr_big (a := 0) (j := j) (by omega)).1] at hs; cases hs
    · rw [hr a j (by omega) ha]; exact hs
  have cr0 : cr (hp_i h 106) = 0 := by unfold cr; rw [z 0 (by decide) (by decide)]; rfl
  have en0 : en (hp_i h 106) = 0 := by unfold en; rw [z 1 (by decide) (by decide)]; rfl
  refine ⟨hw, by rw [b1], ⟨?_, ⟨?_, ?_, ?_⟩, ?_⟩, ⟨?_, ?_⟩, ?_, ?_, ?_, ?_⟩
  · refine ⟨?_, ?_, ⟨?_, Or.inr ⟨?_, ?_⟩⟩, ?_, ?_, ?_, ?_, fun b hb => ?_, fun r hr' => ?_, fun t ht => ?_, fun q hq => ?_, fun u hu => ?_⟩
    · rw [z 0 (by decide) (by decide)]; exact rz _ _ (by decide) (by decide)
    · rw [z 1 (by decide) (by decide)]; exact rz _ _ (by decide) (by decide)
    · rw [z 2 (by decide) (by decide)]; exact rz _ _ (by decide) (by decide)
    · rw [z 1 (by decide) (by decide)]; rfl
    · rw [z 2 (by decide) (by decide)]; rfl
    · rw [z 3 (by decide) (by decide)]; exact rz _ _ (by decide) (by decide)
    · rw [z 4 (by decide) (by decide)]; exact rz _ _ (by decide) (by decide)
    · rw [z 7 (by decide) (by decide)]; exact rz _ _ (by decide) (by decide)
    · rw [z 8 (by decide) (by decide)]; exact rz _ _ (by decide) (by decide)
    · rw [cr0] at hb; exact absurd hb (Nat.not_lt_zero _)
    · rw [en0] at hr'; exact absurd hr' (Nat.not_lt_zero _)
    · unfold VT
      rw [z _ (by omega) (by omega), z _ (by omega) (by omega), z _ (by omega) (by omega), z _ (by omega) (by omega)]
      exact ⟨rz _ _ (by decide) (by decide), rz _ _ (by decide) (by decide), rz _ _ (by decide) (by decide), rz _ _ (by decide) (by decide)⟩
    · rw [z 7 (by decide) (by decide)] at hq; exact absurd hq (Nat.not_lt_zero _)
    · exact Or.inl (z _ (by omega) (by omega))
  · intro i k j hL hv
    have hk := Lc_k hL
    rw [hi (1 + k) j (by omega)]
    rcases hL with ⟨rfl, hL⟩ | ⟨b, w, hb, hw, rfl, rfl, rfl⟩ | ⟨b, w, hb, hw, rfl, rfl, rfl⟩ | ⟨b, w, hb, hw, rfl, rfl, rfl⟩ | ⟨r, hr, rfl, rfl, rfl⟩ | ⟨r, hr, rfl, rfl, rfl⟩ | ⟨t, w, ht, hw, rfl, rfl, rfl⟩ | ⟨q, hq, rfl, rfl, rfl⟩
    · rcases hL with ⟨rfl, rfl⟩ | ⟨rfl, rfl⟩ | ⟨rfl, rfl⟩ | ⟨rfl, rfl⟩ | ⟨rfl, rfl⟩ | ⟨rfl, rfl⟩ | ⟨rfl, rfl⟩ | ⟨rfl, rfl⟩ | ⟨rfl, rfl⟩
      · rw [z 0 (by decide) (by decide)]; rfl
      · rw [z 1 (by decide) (by decide)]; rfl
      · rw [z 2 (by decide) (by decide)]; rfl
      · rw [z 3 (by decide) (by decide)]; rfl
      · rw [z 4 (by decide) (by decide)]; rfl
      · rw [hi 106 5 (by decide)]; rfl
      · rw [hi 106 6 (by decide)]; rfl
      · rw [z 7 (by decide) (by decide)]; rfl
      · rw [z 8 (by decide) (by decide)]; rfl
    · rw [p0 _ _ (by omega) (by omega) (by omega) (by omega), z _ (by omega) (by omega)]
    · rw [p0 _ _ (by omega) (by omega) (by omega) (by omega), z _ (by omega) (by omega)]
    · rw [p0 _ _ (by omega) (by omega) (by omega) (by omega), z _ (by omega) (by omega)]
    · rw [p0 _ _ (by omega) (by omega) (by omega) (by omega), z _ (by omega) (by omega)]
    · rw [p0 _ _ (by omega) (by omega) (by omega) (by omega), z _ (by omega) (by omega)]
    · rw [p0 _ _ (by omega) (by omega) (by omega) (by omega), z _ (by omega) (by omega)]
    · rw [p0 _ _ (by omega) (by omega) (by omega) (by omega), z _ (by omega) (by omega)]
  · intro j hj
    rw [z 7 (by decide) (by decide)] at hj
    exact absurd hj (Nat.not_lt_zero _)
  · intro u hu
    exact Or.inl ⟨by rw [hr (1 + 6) u (by decide) (by decide)]; exact (sr7 u).1, z _ (by omega) (by omega)⟩
  · intro b hb
    rw [hi _ _ (by omega), p0 _ _ (by omega) (by omega) (by omega) (by omega)]
    exact rz _ _ (by decide) (by decide)
  · rw [hi 0 7 (by decide), hi 105 4 (by decide)]; rfl
  · intro g
    rw [hi 105 4 (by decide)] at g
    exact absurd rfl g
  · intro k hk
    rw [hi 96 _ (by decide), hi 109 _ (by decide), p0 _ _ (by decide) (by decide) (by decide) (by decide), p0 _ _ (by decide) (by decide) (by decide) (by decide)]
  · exact ⟨0, by decide, by rw [hi 93 4 (by decide)]; rfl, by rw [hi 105 15 (by decide)]; rfl, fun i h => absurd h (Nat.not_lt_zero _)⟩
  · intro t ht
    rw [hi (97 + 2 * t) 0 (by omega), hi (97 + 2 * t) 1 (by omega), hi 113 t (by decide), hi 114 t (by decide), p1 (97 + 2 * t) 0 (by decide) (by decide) (by omega), p1 (97 + 2 * t) 1 (by decide) (by decide) (by omega), p0 113 t (by decide) (by decide) (by decide) (by decide), p0 114 t (by decide) (by decide) (by decide) (by decide)]
    refine ⟨rfl, rfl, rz _ _ (by decide) (by decide), fun i hi' => ?_⟩
    rw [hi _ _ (by omega), hi 115 _ (by decide), p0 _ _ (by omega) (by omega) (by omega) (by omega), p0 _ _ (by decide) (by decide) (by decide) (by decide)]
  · intro j hj
    rw [z j (by omega) (by omega), hi 107 j (by decide), hi 108 j (by decide), p0 _ _ (by decide) (by decide) (by decide) (by decide), p0 _ _ (by decide) (by decide) (by decide) (by decide)]
    exact ⟨rfl, rfl, rfl⟩
theorem law_L {b L : Nat} {xs : Nat → Int32} (hL : L ≤ 3072) : ∀ (n k nn kc nc : Nat) (h : hp_T), L ≤ 6 * (k + n) + 5 → k + n ≤ 520 → n < nn → kc ≤ 117 + 3 * k → nc ≤ 2409 + 122 * k → Inv h → wp_L_law_L18 b L xs True nn (nI (6 * k)) kc nc h := by
  have e6 : (6 : Int32) = nI 6 := rfl
  intro n
  induction n with
  | zero =>
    intro k nn kc nc h hk hk2 hnn hkc hnc I
    obtain ⟨nn, rfl⟩ : ∃ m, nn = m + 1 := ⟨nn - 1, by omega⟩
    unfold wp_L_law_L18
    have lt : nI L - 6 < nI (6 * k) := by
      rw [i_lt, e6, pk_sub_toInt (by omega) (by decide), i_nI (by omega)]
      omega
    exact br_y lt ⟨by omega, by omega, trivial⟩
  | succ n ih =>
    intro k nn kc nc h hk hk2 hnn hkc hnc I
    obtain ⟨nn, rfl⟩ : ∃ m, nn = m + 1 := ⟨nn - 1, by omega⟩
    unfold wp_L_law_L18
    refine ⟨fun _ => ⟨by omega, by omega, trivial⟩, fun g => ?_⟩
    have g6 : 6 * k + 6 ≤ L := by
      rw [i_lt, e6, pk_sub_toInt (by omega) (by decide), i_nI (by omega)] at g
      omega
    have nx : ∀ (a c : Nat) (h2 : hp_T), a ≤ 3 → c ≤ 122 → Inv h2 → wp_L_law_L18 b L xs True nn (nI (6 * k) + 6) (kc + a + 0) (nc + c + 0) h2 := by
      intro a c h2 ha hc I2
      rw [show nI (6 * k) + 6 = nI (6 * (k + 1)) from nI_add (6 * k) 6]
      exact ih (k + 1) nn _ _ h2 (by omega) (by omega) (by omega) (by omega) (by omega) I2
    have v0 : vp_in (nI (6 * k)) L := vp_in_nI (by omega) (by omega)
    have v1 : vp_in (nI (6 * k) + 1) L := by
      rw [show nI (6 * k) + 1 = nI (6 * k + 1) from nI_add (6 * k) 1]
      exact vp_in_nI (by omega) (by omega)
    have v2 : vp_in (nI (6 * k) + 2) L := by
      rw [show nI (6 * k) + 2 = nI (6 * k + 2) from nI_add (6 * k) 2]
      exact vp_in_nI (by omega) (by omega)
    have v3 : vp_in (nI (6 * k) + 3) L := by
      rw [show nI (6 * k) + 3 = nI (6 * k + 3) from nI_add (6 * k) 3]
      exact vp_in_nI (by omega) (by omega)
    have v4 : vp_in (nI (6 * k) + 4) L := by
      rw [show nI (6 * k) + 4 = nI (6 * k + 4) from nI_add (6 * k) 4]
      exact vp_in_nI (by omega) (by omega)
    have v5 : vp_in (nI (6 * k) + 5) L := by
      rw [show nI (6 * k) + 5 = nI (6 * k + 5) from nI_add (6 * k) 5]
      exact vp_in_nI (by omega) (by omega)
    refine ⟨v0, ?_⟩
    refine ⟨fun _ => ⟨v1, by omega, by omega, mn_X7_bunk (fun r1 h1 f => ⟨v1, by omega, by omega, mn_X8_bunk (fun r2 h2 w => ⟨fun _ => nx 0 0 h2 (by decide) (by decide) w.2, fun z => z w.1⟩) f⟩) (c_bunk I)⟩, fun _ => ?_⟩
    refine ⟨fun _ => ⟨v1, v2, by omega, by omega, mn_X7_bunkIs (fun r1 h1 f => ⟨v1, v2, by omega, by omega, mn_X8_bunkIs (fun r2 h2 w => ⟨fun _ => nx 0 0 h2 (by decide) (by decide) w.2, fun z => z w.1⟩) f⟩) (c_bunkIs I)⟩, fun _ => ?_⟩
    refine ⟨fun _ => ⟨v1, v2, by omega, by omega, mn_X7_as (fun r1 h1 f => ⟨v1, v2, by omega, by omega, mn_X8_as (fun r2 h2 w => ⟨fun _ => nx 0 0 h2 (by decide) (by decide) w.2, fun z => z w.1⟩) f⟩) (c_as I)⟩, fun _ => ?_⟩
    refine ⟨fun _ => ⟨v1, v2, v3, by omega, by omega, mn_X7_set (fun r1 h1 f => ⟨v1, v2, v3, by omega, by omega, mn_X8_set (fun r2 h2 w => ⟨fun _ => nx 0 0 h2 (by decide) (by decide) w.2, fun z => z w.1⟩) f⟩) (c_set I)⟩, fun _ => ?_⟩
    refine ⟨fun _ => ⟨v1, v2, v3, by omega, by omega, mn_X7_know (fun r1 h1 f => ⟨v1, v2, v3, by omega, by omega, mn_X8_know (fun r2 h2 w => ⟨fun _ => nx 0 0 h2 (by decide) (by decide) w.2, fun z => z w.1⟩) f⟩) (c_know I)⟩, fun _ => ?_⟩
    refine ⟨fun _ => ⟨v1, v2, by omega, by omega, mn_X7_roster (fun r1 h1 f => ⟨v1, v2, by omega, by omega, mn_X8_roster (fun r2 h2 w => ⟨fun _ => nx 0 0 h2 (by decide) (by decide) w.2, fun z => z w.1⟩) f⟩) (c_roster I)⟩, fun _ => ?_⟩
    refine ⟨fun _ => ⟨v1, by omega, by omega, mn_X7_book (fun r1 h1 f => ⟨v1, by omega, by omega, mn_X8_book (fun r2 h2 w => ⟨fun _ => nx 0 0 h2 (by decide) (by decide) w.2, fun z => z w.1⟩) f⟩) (c_book I)⟩, fun _ => ?_⟩
    refine ⟨fun _ => ⟨v1, v2, v3, by omega, by omega, mn_X7_task (fun r1 h1 f => ⟨v1, v2, v3, by omega, by omega, mn_X8_task (fun r2 h2 w => ⟨fun _ => nx 0 0 h2 (by decide) (by decide) w.2, fun z => z w.1⟩) f⟩) (c_task I)⟩, fun _ => ?_⟩
    refine ⟨fun _ => ⟨v1, v2, by omega, by omega, mn_X7_taskIs (fun r1 h1 f => ⟨v1, v2, by omega, by omega, mn_X8_taskIs (fun r2 h2 w => ⟨fun _ => nx 0 0 h2 (by decide) (by decide) w.2, fun z => z w.1⟩) f⟩) (c_taskIs I)⟩, fun _ => ?_⟩
    refine ⟨fun _ => ⟨v1, v2, v3, by omega, by omega, mn_X7_feed (fun r1 h1 f => ⟨v1, v2, v3, by omega, by omega, mn_X8_feed (fun r2 h2 w => ⟨fun _ => nx 0 0 h2 (by decide) (by decide) w.2, fun z => z w.1⟩) f⟩) (c_feed I)⟩, fun _ => ?_⟩
    refine ⟨fun _ => ⟨v1, by omega, by omega, mn_X7_text (fun r1 h1 f => ⟨v1, by omega, by omega, mn_X8_text (fun r2 h2 w => ⟨fun _ => nx 3 122 h2 (by decide) (by decide) w.2, fun z => z w.1⟩) f⟩) (c_text I)⟩, fun _ => ?_⟩
    refine ⟨fun _ => ⟨v1, by omega, by omega, mn_X7_untell (fun r1 h1 f => ⟨v1, by omega, by omega, mn_X8_untell (fun r2 h2 w => ⟨fun _ => nx 0 0 h2 (by decide) (by decide) w.2, fun z => z w.1⟩) f⟩) (c_untell I)⟩, fun _ => ?_⟩
    refine ⟨fun _ => ⟨v1, by omega, by omega, mn_X7_days (fun r1 h1 f => ⟨v1, by omega, by omega, mn_X8_days (fun r2 h2 w => ⟨fun _ => nx 0 0 h2 (by decide) (by decide) w.2, fun z => z w.1⟩) f⟩) (c_days I)⟩, fun _ => ?_⟩
    refine ⟨fun _ => ⟨v1, by omega, by omega, mn_X7_draws (fun r1 h1 f => ⟨v1, by omega, by omega, mn_X8_draws (fun r2 h2 w => ⟨fun _ => nx 0 0 h2 (by decide) (by decide) w.2, fun z => z w.1⟩) f⟩) (c_draws I)⟩, fun _ => ?_⟩
    refine ⟨fun _ => ⟨v1, by omega, by omega, mn_X7_misheard (fun r1 h1 f => ⟨v1, by omega, by omega, mn_X8_misheard (fun r2 h2 w => ⟨fun _ => nx 0 0 h2 (by decide) (by decide) w.2, fun z => z w.1⟩) f⟩) (c_misheard I)⟩, fun _ => ?_⟩
    refine ⟨fun _ => ⟨v1, by omega, by omega, mn_X7_seed (fun r1 h1 f => ⟨v1, by omega, by omega, mn_X8_seed (fun r2 h2 w => ⟨fun _ => nx 0 0 h2 (by decide) (by decide) w.2, fun z => z w.1⟩) f⟩) (c_seed I)⟩, fun _ => ?_⟩
    refine ⟨fun _ => ⟨v1, v2, v3, by omega, by omega, mn_X7_then (fun r1 h1 f => ⟨v1, v2, v3, by omega, by omega, mn_X8_then (fun r2 h2 w => ⟨fun _ => nx 0 0 h2 (by decide) (by decide) w.2, fun z => z w.1⟩) f⟩) (c_then I)⟩, fun _ => ?_⟩
    refine ⟨fun _ => ⟨v1, v2, v3, by omega, by omega, mn_X7_thenTask (fun r1 h1 f => ⟨v1, v2, v3, by omega, by omega, mn_X8_thenTask (fun r2 h2 w => ⟨fun _ => nx 0 0 h2 (by decide) (by decide) w.2, fun z => z w.1⟩) f⟩) (c_thenTask I)⟩, fun _ => ?_⟩
    refine ⟨fun _ => ⟨v1, v2, by omega, by omega, mn_X7_lost (fun r1 h1 f => ⟨v1, v2, by omega, by omega, mn_X8_lost (fun r2 h2 w => ⟨fun _ => nx 0 0 h2 (by decide) (by decide) w.2, fun z => z w.1⟩) f⟩) (c_lost I)⟩, fun _ => ?_⟩
    refine ⟨fun _ => ⟨v1, v2, v3, by omega, by omega, mn_X7_teachers (fun r1 h1 f => ⟨v1, v2, v3, by omega, by omega, mn_X8_teachers (fun r2 h2 w => ⟨fun _ => nx 0 0 h2 (by decide) (by decide) w.2, fun z => z w.1⟩) f⟩) (c_teachers I)⟩, fun _ => ?_⟩
    refine ⟨fun _ => ⟨v1, by omega, by omega, mn_X7_storm (fun r1 h1 f => ⟨v1, by omega, by omega, mn_X8_storm (fun r2 h2 w => ⟨fun _ => nx 0 0 h2 (by decide) (by decide) w.2, fun z => z w.1⟩) f⟩) (c_storm I)⟩, fun _ => ?_⟩
    refine ⟨fun _ => ⟨v1, v2, by omega, by omega, mn_X7_saves (fun r1 h1 f => ⟨v1, v2, by omega, by omega, mn_X8_saves (fun r2 h2 w => ⟨fun _ => nx 0 0 h2 (by decide) (by decide) w.2, fun z => z w.1⟩) f⟩) (c_saves I)⟩, fun _ => ?_⟩
    refine ⟨fun _ => ⟨v1, v2, by omega, by omega, mn_X7_changes (fun r1 h1 f => ⟨v1, v2, by omega, by omega, mn_X8_changes (fun r2 h2 w => ⟨fun _ => nx 0 0 h2 (by decide) (by decide) w.2, fun z => z w.1⟩) f⟩) (c_changes I)⟩, fun _ => ?_⟩
    refine ⟨fun _ => ⟨v1, v2, by omega, by omega, mn_X7_began (fun r1 h1 f => ⟨v1, v2, by omega, by omega, mn_X8_began (fun r2 h2 w => ⟨fun _ => nx 0 0 h2 (by decide) (by decide) w.2, fun z => z w.1⟩) f⟩) (c_began I)⟩, fun _ => ?_⟩
    refine ⟨fun _ => ⟨v1, v2, by omega, by omega, mn_X7_handed (fun r1 h1 f => ⟨v1, v2, by omega, by omega, mn_X8_handed (fun r2 h2 w => ⟨fun _ => nx 0 0 h2 (by decide) (by decide) w.2, fun z => z w.1⟩) f⟩) (c_handed I)⟩, fun _ => ?_⟩
    refine ⟨fun _ => ⟨v1, by omega, by omega, mn_X7_wages (fun r1 h1 f => ⟨v1, by omega, by omega, mn_X8_wages (fun r2 h2 w => ⟨fun _ => nx 0 0 h2 (by decide) (by decide) w.2, fun z => z w.1⟩) f⟩) (c_wages I)⟩, fun _ => ?_⟩
    refine ⟨fun _ => ⟨v1, v2, v3, by omega, by omega, mn_X7_voice (fun r1 h1 f => ⟨v1, v2, v3, by omega, by omega, mn_X8_voice (fun r2 h2 w => ⟨fun _ => nx 0 0 h2 (by decide) (by decide) w.2, fun z => z w.1⟩) f⟩) (c_voice I)⟩, fun _ => ?_⟩
    refine ⟨fun _ => ⟨v1, by omega, by omega, mn_X7_body (fun r1 h1 f => ⟨v1, by omega, by omega, mn_X8_body (fun r2 h2 w => ⟨fun _ => nx 0 0 h2 (by decide) (by decide) w.2, fun z => z w.1⟩) f⟩) (c_body I)⟩, fun _ => ?_⟩
    refine ⟨fun _ => ⟨v1, v2, v3, by omega, by omega, mn_X7_sheet (fun r1 h1 f => ⟨v1, v2, v3, by omega, by omega, mn_X8_sheet (fun r2 h2 w => ⟨fun _ => nx 0 0 h2 (by decide) (by decide) w.2, fun z => z w.1⟩) f⟩) (c_sheet I)⟩, fun _ => ?_⟩
    refine ⟨fun _ => ⟨v1, v2, v3, by omega, by omega, mn_X7_put (fun r1 h1 f => ⟨v1, v2, v3, by omega, by omega, mn_X8_put (fun r2 h2 w => ⟨fun _ => nx 0 0 h2 (by decide) (by decide) w.2, fun z => z w.1⟩) f⟩) (c_put I)⟩, fun _ => ?_⟩
    refine ⟨fun _ => ⟨v1, v2, v3, v4, v5, by omega, by omega, mn_X7_move (fun r1 h1 f => ⟨v1, v2, v3, v4, v5, by omega, by omega, mn_X8_move (fun r2 h2 w => ⟨fun _ => nx 0 0 h2 (by decide) (by decide) w.2, fun z => z w.1⟩) f⟩) (c_move I)⟩, fun _ => ?_⟩
    refine ⟨fun _ => ⟨v1, by omega, by omega, mn_X7_rosters (fun r1 h1 f => ⟨v1, by omega, by omega, mn_X8_rosters (fun r2 h2 w => ⟨fun _ => nx 0 0 h2 (by decide) (by decide) w.2, fun z => z w.1⟩) f⟩) (c_rosters I)⟩, fun _ => ?_⟩
    refine ⟨fun _ => ⟨v1, by omega, by omega, mn_X7_judge (fun r1 h1 f => ⟨v1, by omega, by omega, mn_X8_judge (fun r2 h2 w => ⟨fun _ => nx 0 0 h2 (by decide) (by decide) w.2, fun z => z w.1⟩) f⟩) (c_judge I)⟩, fun _ => ?_⟩
    refine ⟨fun _ => ⟨by omega, by omega, mn_X7_image (fun r1 h1 f => ⟨by omega, by omega, mn_X8_image (fun r2 h2 w => ⟨fun _ => nx 0 0 h2 (by decide) (by decide) w.2, fun z => z w.1⟩) f⟩) (c_image I)⟩, fun _ => ?_⟩
    refine ⟨fun _ => ⟨by omega, by omega, mn_X7_restore (fun r1 h1 f => ⟨by omega, by omega, mn_X8_restore (fun r2 h2 w => ⟨fun _ => nx 0 0 h2 (by decide) (by decide) w.2, fun z => z w.1⟩) f⟩) (c_restore I)⟩, fun _ => ?_⟩
    refine ⟨fun _ => ⟨v1, by omega, by omega, mn_X7_tell (fun r1 h1 f => ⟨v1, by omega, by omega, mn_X8_tell (fun r2 h2 w => ⟨fun _ => nx 0 0 h2 (by decide) (by decide) w.2, fun z => z w.1⟩) f⟩) (c_tell I)⟩, fun _ => ?_⟩
    refine ⟨fun _ => ⟨v1, by omega, by omega, mn_X7_check (fun r1 h1 f => ⟨v1, by omega, by omega, mn_X8_check (fun r2 h2 w => ⟨fun _ => nx 0 0 h2 (by decide) (by decide) w.2, fun z => z w.1⟩) f⟩) (c_check I)⟩, fun _ => ?_⟩
    refine ⟨fun _ => ⟨v1, by omega, by omega, mn_X7_count (fun r1 h1 f => ⟨v1, by omega, by omega, mn_X8_count (fun r2 h2 w => ⟨fun _ => nx 0 0 h2 (by decide) (by decide) w.2, fun z => z w.1⟩) f⟩) (c_count I)⟩, fun _ => ?_⟩
    refine ⟨fun _ => ⟨v1, by omega, by omega, mn_X7_told (fun r1 h1 f => ⟨v1, by omega, by omega, mn_X8_told (fun r2 h2 w => ⟨fun _ => nx 0 0 h2 (by decide) (by decide) w.2, fun z => z w.1⟩) f⟩) (c_told I)⟩, fun _ => ?_⟩
    exact nx 0 0 h (by decide) (by decide) I
theorem law_true (b L : Nat) (xs : Nat → Int32) (hL : L ≤ 3072) (h0 : hp_T) (hn : hp_n h0 = 0) : wp_L_law b L xs h0 True := by
  unfold wp_L_law
  refine ⟨hn, ?_⟩
  rintro h1 rfl
  have B1 : BP 1 0 [] (hp_no h0) := by
    refine ⟨by show hp_n h0 + 1 = 1; rw [hn], fun a j ha => ?_, fun a j h0 ha => by omega, fun a ha hl => ?_, fun j => ?_⟩
    · have : a = 0 := by omega
      subst this
      refine (if_pos (show 0 = hp_n h0 from hn.symm)).trans ?_
      rw [if_neg (fun z => by cases z)]
      unfold pI
      rw [if_neg (by omega), if_neg (by omega), if_neg (by omega), if_neg (by omega)]
    · have : a = 0 := by omega
      subst this
      exact absurd rfl hl
    · refine (if_pos (show 0 = hp_n h0 from hn.symm)).trans ?_
      rw [if_neg (Nat.not_lt_zero j)]
  refine ⟨B1.lt (by decide), i_7 B1 (fun h5 B5 => ⟨B5.1, k_no (n := 105) [0, 1, 2, 3, 5, 11, 14, 18, 19, 20, 21] [(105, 0), (105, 1), (105, 2), (105, 3), (105, 5), (105, 11), (105, 14), (105, 18), (105, 19), (105, 20), (105, 21)] B5 (by decide +kernel) (fun h6 B6 => ⟨B6.lt (by decide), i_8 B6 (fun h10 B10 => ?_)⟩)⟩)⟩
  have I := Inv0 B10
  exact ⟨I.w, 514, law_L hL 513 0 514 117 2409 h10 (by omega) (by decide) (by decide) (by decide) (by decide) I⟩
