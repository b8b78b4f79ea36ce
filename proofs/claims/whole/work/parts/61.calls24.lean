/-! ===== PURE: the calls: text ===== -/
theorem ex_no {P R : Nat → Nat → Prop} {h : hp_T} : ex P R h (hp_no h) := ⟨Nat.le_succ _, fun _ _ => rfl, fun a j ha _ => if_neg (Nat.ne_of_lt ha), fun a j ha _ => if_neg (Nat.ne_of_lt ha)⟩
theorem ex_na {P R : Nat → Nat → Prop} {h : hp_T} {n : Nat} : ex P R h (hp_na h n) := ⟨Nat.le_succ _, fun a ha => if_neg (Nat.ne_of_lt ha), fun a j ha _ => if_neg (Nat.ne_of_lt ha), fun a j ha _ => if_neg (Nat.ne_of_lt ha)⟩
theorem ex.srn {P R : Nat → Nat → Prop} {h h1 : hp_T} {a k : Nat} {v : Option Nat} (e : ex P R h h1) (ha : hp_n h ≤ a) : ex P R h (hp_sr h1 a k v) :=
  ⟨e.1, e.2.1, fun x j hx hr => (if_neg (fun z => by omega)).trans (e.2.2.1 x j hx hr), e.2.2.2⟩
theorem ex.cpn {P R : Nat → Nat → Prop} {h h1 : hp_T} {a i b j n : Nat} (e : ex P R h h1) (hb : hp_n h ≤ b) : ex P R h (hp_cp h1 a i b j n) :=
  ⟨e.1, e.2.1, e.2.2.1, fun x k hx hp => (if_neg (fun z => by omega)).trans (e.2.2.2 x k hx hp)⟩
theorem ab_k4 {N : Nat} (h1 : 117 ≤ N) (h2 : N % 3 = 0) : ab_k N = 4 ∧ ab_k (N + 1) = 16 ∧ ab_k (N + 2) = 17 := by
  unfold ab_k
  refine ⟨?_, ?_, ?_⟩
  · rw [if_neg (by omega), if_pos h2]
  · rw [if_neg (by omega), if_neg (by omega), if_pos (by omega)]
  · rw [if_neg (by omega), if_neg (by omega), if_neg (by omega)]
abbrev PTx : Nat → Nat → Prop := fun a _ => a = 91 ∨ a = 92
abbrev RTx : Nat → Nat → Prop := fun a j => a = 91 ∧ j = 0
/-- the heap on which the class reads -/
def rdB (h : hp_T) (L u : Nat) : hp_T := hp_si (hp_si (hp_si (hp_si (hp_si (hp_sr h 91 0 (some 6)) 91 1 (nI L)) 91 2 (thr u)) 91 3 0) 91 5 0) 91 6 (-1)
theorem rdB_o {h : hp_T} {L u a j : Nat} (ha : a ≠ 91) : hp_i (rdB h L u) a j = hp_i h a j := by
  unfold rdB
  rw [hp_i_si, if_neg (fun z => ha z.1), hp_i_si, if_neg (fun z => ha z.1), hp_i_si, if_neg (fun z => ha z.1), hp_i_si, if_neg (fun z => ha z.1), hp_i_si, if_neg (fun z => ha z.1)]
  rfl
theorem rdB_ex {h : hp_T} {L u : Nat} : ex PTx RTx h (rdB h L u) :=
  (((((ex_sr (P := PTx) (R := RTx) ⟨rfl, rfl⟩).si (Or.inl rfl)).si (Or.inl rfl)).si (Or.inl rfl)).si (Or.inl rfl)).si (Or.inl rfl)
theorem rdB_CB {h : hp_T} {L u : Nat} {T : Nat → Int32} (L60 : L ≤ 60) (hT : ∀ j, j < L → rg (T j) 0 255 ∧ hp_i h 6 j = (T j).toInt8.toInt32) : CB (rdB h L u) T L u ∧ CS (rdB h L u) T L (0, 0, []) (rdB h L u) := by
  refine ⟨⟨?_, ?_, ?_, L60, fun j hj => ⟨(hT j hj).1, by rw [rdB_o (by decide)]; exact (hT j hj).2⟩⟩, fr.refl, ?_, Nat.zero_le _, Or.inl ⟨rfl, ?_, ?_, fun i hi => absurd hi (Nat.not_lt_zero _)⟩⟩
  · unfold rdB
    rw [hp_i_si, if_neg (by decide), hp_i_si, if_neg (by decide), hp_i_si, if_neg (by decide), hp_i_si, if_neg (by decide), hp_i_si, if_pos ⟨rfl, rfl⟩]
  · unfold rdB
    rw [hp_i_si, if_neg (by decide), hp_i_si, if_neg (by decide), hp_i_si, if_neg (by decide), hp_i_si, if_pos ⟨rfl, rfl⟩]
  · show (if 91 = 91 ∧ 0 = 0 then some 6 else h.2.1 91 0) = some 6
    rw [if_pos ⟨rfl, rfl⟩]
  · unfold rdB
    rw [hp_i_si, if_neg (by decide), hp_i_si, if_neg (by decide), hp_i_si, if_pos ⟨rfl, rfl⟩]; rfl
  · unfold rdB
    rw [hp_i_si, if_pos ⟨rfl, rfl⟩]
  · unfold rdB
    rw [hp_i_si, if_neg (by decide), hp_i_si, if_pos ⟨rfl, rfl⟩]; rfl
abbrev sT (T : Nat → Int32) (L u : Nat) : sg := ps T L u 60 5 0 0 []
abbrev gd (T : Nat → Int32) (L u : Nat) : Prop := (sT T L u).2.1 = 0 ∧ L ≤ (sT T L u).1
/-- the text made -/
def nt (h h1 : hp_T) (n : Nat) (h19 : hp_T) : Prop := ex PTx RTx h h1 ∧ hp_n h1 = hp_n h + 3 ∧ hp_r h1 (hp_n h) 0 = some (hp_n h + 1) ∧ hp_r h1 (hp_n h) 1 = some (hp_n h + 2) ∧ hp_l h1 (hp_n h + 1) = n ∧ hp_l h1 (hp_n h + 2) = n ∧ ∀ i, i < n → hp_i h1 (hp_n h + 1) i = hp_i h19 92 i
theorem w_new {h h19 : hp_T} {n : Nat} {Q : hp_T → Prop} (hw : wf h) (h3 : hp_n h % 3 = 0) (e : ex PTx RTx h h19) (en : hp_n h19 = hp_n h) (e5 : hp_i h19 91 5 = nI n) (n60 : n ≤ 60) (hq : ∀ h1, nt h h1 n h19 → wf h1 → Q h1) : ∀ h_23, h_23 = hp_no h19 → ((hp_n h19) < hp_n h_23) ∧ wp_X4_init (hp_n h19) (hp_i h_23 91 5) h_23 (fun h_28 => (wf h_28) ∧ Q h_28) := by
  have N117 := hw.1
  obtain ⟨k4, k16', k17'⟩ := ab_k4 N117 h3
  rintro h23 rfl
  refine ⟨Nat.lt_succ_self _, ?_⟩
  have e5' : hp_i (hp_no h19) 91 5 = nI n := by
    rw [← e5]
    exact if_neg (by show ¬ 91 = hp_n h19; omega)
  rw [e5']
  have en' : hp_n (hp_no h19) = hp_n h + 1 := by show hp_n h19 + 1 = _; rw [en]
  unfold wp_X4_init
  rw [nI_clamp (n := n) (by omega), en', en]
  have q0 : ¬ nI n < 0 := nI_pos (by omega)
  refine ⟨by rw [k16']; exact Nat.le_refl _, q0, n60, ?_⟩
  rintro h1 rfl
  have en1 : hp_n (hp_na (hp_no h19) n) = hp_n h + 2 := by show hp_n (hp_no h19) + 1 = _; rw [en']
  refine ⟨by rw [en1]; omega, ?_⟩
  rintro h7 rfl
  have en7 : hp_n (hp_sr (hp_na (hp_no h19) n) (hp_n h) 0 (some (hp_n h + 1))) = hp_n h + 2 := en1
  rw [en7]
  refine ⟨by rw [k17']; decide, q0, n60, ?_⟩
  rintro h9 rfl
  have en9 : hp_n (hp_na (hp_sr (hp_na (hp_no h19) n) (hp_n h) 0 (some (hp_n h + 1))) n) = hp_n h + 3 := by show hp_n (hp_na (hp_no h19) n) + 1 = _; rw [en1]
  refine ⟨by rw [en9]; omega, ?_⟩
  rintro h15 rfl
  have E0 : ex PTx RTx h (hp_no h19) := e.trans ex_no
  have E1 : ex PTx RTx h (hp_sr (hp_na (hp_no h19) n) (hp_n h) 0 (some (hp_n h + 1))) := (E0.trans ex_na).srn (Nat.le_refl _)
  have E2 : ex PTx RTx h (hp_sr (hp_na (hp_sr (hp_na (hp_no h19) n) (hp_n h) 0 (some (hp_n h + 1))) n) (hp_n h) 1 (some (hp_n h + 2))) := (E1.trans ex_na).srn (Nat.le_refl _)
  have F : ex (fun _ _ => False) (fun _ _ => False) (hp_sr (hp_na (hp_no h19) n) (hp_n h) 0 (some (hp_n h + 1))) (hp_na (hp_sr (hp_na (hp_no h19) n) (hp_n h) 0 (some (hp_n h + 1))) n) := ex_na
  have r0 : hp_r (hp_sr (hp_na (hp_sr (hp_na (hp_no h19) n) (hp_n h) 0 (some (hp_n h + 1))) n) (hp_n h) 1 (some (hp_n h + 2))) (hp_n h) 0 = some (hp_n h + 1) := by
    refine (if_neg (fun z => by omega)).trans ?_
    refine (F.2.2.1 (hp_n h) 0 (by rw [en7]; omega) id).trans ?_
    exact if_pos ⟨rfl, rfl⟩
  have r1 : hp_r (hp_sr (hp_na (hp_sr (hp_na (hp_no h19) n) (hp_n h) 0 (some (hp_n h + 1))) n) (hp_n h) 1 (some (hp_n h + 2))) (hp_n h) 1 = some (hp_n h + 2) := if_pos ⟨rfl, rfl⟩
  have l1 : hp_l (hp_sr (hp_na (hp_sr (hp_na (hp_no h19) n) (hp_n h) 0 (some (hp_n h + 1))) n) (hp_n h) 1 (some (hp_n h + 2))) (hp_n h + 1) = n := by
    refine (F.2.1 (hp_n h + 1) (by rw [en7]; omega)).trans ?_
    exact if_pos en'.symm
  have l2 : hp_l (hp_sr (hp_na (hp_sr (hp_na (hp_no h19) n) (hp_n h) 0 (some (hp_n h + 1))) n) (hp_n h) 1 (some (hp_n h + 2))) (hp_n h + 2) = n := if_pos en7.symm
  have l92 : hp_l (hp_sr (hp_na (hp_sr (hp_na (hp_no h19) n) (hp_n h) 0 (some (hp_n h + 1))) n) (hp_n h) 1 (some (hp_n h + 2))) 92 = 60 := by
    rw [E2.2.1 92 (by omega)]
    exact hw.2.2 92 (by decide) (by decide)
  have i92 : ∀ i, hp_i (hp_sr (hp_na (hp_sr (hp_na (hp_no h19) n) (hp_n h) 0 (some (hp_n h + 1))) n) (hp_n h) 1 (some (hp_n h + 2))) 92 i = hp_i h19 92 i := by
    intro i
    have G : ex (fun _ _ => False) (fun _ _ => False) h19 (hp_na (hp_no h19) n) := ex_no.trans ex_na
    refine (F.2.2.2 92 i (by rw [en7]; omega) id).trans ?_
    exact G.2.2.2 92 i (by rw [en]; omega) id
  refine ⟨by show hp_n h < hp_n _; rw [show hp_n (hp_sr (hp_na (hp_sr (hp_na (hp_no h19) n) (hp_n h) 0 (some (hp_n h + 1))) n) (hp_n h) 1 (some (hp_n h + 2))) = hp_n h + 3 from en9]; omega, hp_n h + 1, r0, ?_, k16', ?_, ?_, ?_⟩
  · rw [show hp_n (hp_sr (hp_na (hp_sr (hp_na (hp_no h19) n) (hp_n h) 0 (some (hp_n h + 1))) n) (hp_n h) 1 (some (hp_n h + 2))) = hp_n h + 3 from en9]; omega
  · rw [show hp_n (hp_sr (hp_na (hp_sr (hp_na (hp_no h19) n) (hp_n h) 0 (some (hp_n h + 1))) n) (hp_n h) 1 (some (hp_n h + 2))) = hp_n h + 3 from en9]; omega
  · rw [l92, l1]
    unfold cp_ok
    rw [nI_clamp (n := n) (by omega)]
    exact ⟨by decide, by decide, q0, by show 0 + n ≤ 60; omega, by show 0 + n ≤ n; omega⟩
  · rintro h24 rfl
    have E3 := E2.cpn (a := 92) (i := 0) (b := hp_n h + 1) (j := 0) (n := n) (Nat.le_succ _)
    refine ⟨wf_ex E3 (fun a j z => ?_) hw, hq _ ⟨E3, en9, r0, r1, l1, l2, fun i hi => ?_⟩ (wf_ex E3 (fun a j z => ?_) hw)⟩
    · obtain ⟨rfl, rfl⟩ := z; decide
    · rw [cp_in hi]; exact i92 i
    · obtain ⟨rfl, rfl⟩ := z; decide
theorem w_read {h : hp_T} {L u : Nat} {T : Nat → Int32} {Q : Option Nat → hp_T → Prop} (hu : u < 2) (hw : wf h) (h3 : hp_n h % 3 = 0) (L60 : L ≤ 60) (hT : ∀ j, j < L → rg (T j) 0 255 ∧ hp_i h 6 j = (T j).toInt8.toInt32)
    (q0 : ¬ gd T L u → ∀ h1, ex PTx RTx h h1 → hp_n h1 = hp_n h → hp_i h1 91 6 = nI (sT T L u).1 → Q none h1)
    (q1 : gd T L u → ∀ h1 h19, nt h h1 (sT T L u).2.2.length h19 → wf h1 → (∀ i, i < (sT T L u).2.2.length → okx (hp_i h19 92 i) ∧ tr (hp_i h19 92 i) = (sT T L u).2.2.getD i 0) → Q (some (hp_n h)) h1) : wp_X5_read 6 (nI L) (thr u) h Q := by
  obtain ⟨B, C0⟩ := rdB_CB (u := u) L60 hT
  have P := ps_ok hu 60 5 0 0 [] (Nat.zero_le L) (T := T)
  have eL : (if nI 60 < nI L then nI 60 else nI L) = nI L := if_neg (nI_nlt (by omega) (by decide))
  unfold wp_X5_read
  rintro h1 rfl
  rw [eL]
  rintro h4 rfl
  rintro h7 rfl
  rintro h10 rfl
  rintro h13 rfl
  rintro h16 rfl
  have go : wl (wr_X5 60) 5 (nI 0) (rdB h L u) (fun h_19 => (((hp_i h_19 91 1) ≤ (hp_i h_19 91 3) → ((0 ≤ (hp_i h_19 91 6) → (Q none h_19)) ∧ (¬ (0 ≤ (hp_i h_19 91 6)) → (ab_k (hp_n h_19) = 4) ∧ (∀ h_23, h_23 = hp_no h_19 → ((hp_n h_19) < hp_n h_23) ∧ wp_X4_init (hp_n h_19) (hp_i h_23 91 5) h_23 (fun h_28 => (wf h_28) ∧ (Q (some (hp_n h_19)) h_28)))))) ∧ (¬ ((hp_i h_19 91 1) ≤ (hp_i h_19 91 3)) → wp_X5_fail h_19 (fun h_30 => ((0 ≤ (hp_i h_30 91 6) → (Q none h_30)) ∧ (¬ (0 ≤ (hp_i h_30 91 6)) → (ab_k (hp_n h_30) = 4) ∧ (∀ h_33, h_33 = hp_no h_30 → ((hp_n h_30) < hp_n h_33) ∧ wp_X4_init (hp_n h_30) (hp_i h_33 91 5) h_33 (fun h_38 => (wf h_38) ∧ (Q (some (hp_n h_30)) h_38))))))))) := by
    refine Wrd hu B 60 5 0 0 [] (rdB h L u) _ (by decide) (by decide) (by decide) (Nat.zero_le L) (Nat.le_refl 0) C0 (fun h19 C => ?_)
    have ee : ∀ h1, fr PXc (rdB h L u) h1 → ex PTx RTx h h1 := fun h1 f => rdB_ex.trans (f.ex.mono (fun a j z => by rcases z with z | z <;> omega) (fun _ _ z => z))
    have en : ∀ h1, fr PXc (rdB h L u) h1 → hp_n h1 = hp_n h := fun h1 f => f.n
    have bad : ¬ gd T L u → ∀ h1, CS (rdB h L u) T L ((sT T L u).1, 1, (sT T L u).2.2) h1 → hp_i h1 91 6 = nI (sT T L u).1 ∧ Q none h1 := by
      intro g h1 C1
      have e6 : hp_i h1 91 6 = nI (sT T L u).1 := by
        rcases C1.2.2.2 with ⟨m, -⟩ | ⟨m, e⟩ | ⟨m, -⟩
        · exact absurd m (by decide : ¬ (1 : Nat) = 0)
        · exact e
        · exact absurd m (by decide : ¬ (1 : Nat) = 2)
      exact ⟨e6, q0 g h1 (ee h1 C1.1) (en h1 C1.1) e6⟩
    have sL := P.2.1
    rw [CS_L B C, C.2.1]
    refine ⟨fun z => ?_, fun z => ?_⟩
    · rw [nI_leI (by omega) (by omega)] at z
      rcases C.2.2.2 with ⟨m, e6, e5, et⟩ | ⟨m, e6⟩ | ⟨m, e6, lt, -⟩
      · rw [e6]
        have g : gd T L u := ⟨m, z⟩
        refine br_n (by decide) ⟨by rw [en h19 C.1]; exact (ab_k4 hw.1 h3).1, ?_⟩
        have n60 : (ps T L u 60 5 0 0 []).2.2.length ≤ 60 := by
          obtain ⟨b1, e, b2, b3, b4⟩ := P.2.2.2.1 m
          rw [b2]
          show ([] ++ e).length ≤ 60
          rw [List.nil_append]
          omega
        have := w_new (Q := fun h1 => Q (some (hp_n h)) h1) hw h3 (ee h19 C.1) (en h19 C.1) e5 n60 (fun h1 N w1 => q1 g h1 h19 N w1 et)
        rw [en h19 C.1] at this ⊢
        exact this
      · rw [e6]
        have ng : ¬ gd T L u := fun w => by
          have w1 : (ps T L u 60 5 0 0 []).2.1 = 0 := w.1
          omega
        exact br_y (nI_pos' (by omega)) (q0 ng h19 (ee h19 C.1) (en h19 C.1) e6)
      · omega
    · rw [nI_leI (by omega) (by omega)] at z
      have ng : ¬ gd T L u := fun w => z w.2
      refine w_fail C L60 (fun h30 C30 => ?_)
      obtain ⟨a, b⟩ := bad ng h30 C30
      rw [a]
      have sL' : (sT T L u).1 ≤ L := sL
      exact br_y (nI_pos' (by omega)) b
  exact go
