/-! ===== WHAT STANDS STILL: the references that no method writes, the rows' lengths ===== -/
def ab_len (k : Nat) : Nat := ([0, 0, 0, 0, 0, 0, 0, 0, 0, 0, 0, 60, 6, 4, 2, 4, 0, 0, 0, 0, 12, 12, 24, 6, 6, 24, 60, 30, 7, 0, 357, 357, 357, 6, 64, 60, 30, 4, 4, 96, 24] : List Nat).getD k 0
/-- the reference in place j of the cell a, where no method writes it -/
def ab_sr (a j : Nat) : Option Nat :=
  if ab_k a = 2 ∧ j = 0 then some (a + 1) else
  if ab_k a = 2 ∧ j = 2 then some (a + 2) else
  if ab_k a = 2 ∧ j = 3 then some (a + 3) else
  if ab_k a = 2 ∧ j = 7 then some (a + 4) else
  if ab_k a = 2 ∧ j = 11 then some (a + 5) else
  if ab_k a = 2 ∧ j = 13 then some (a + 6) else
  if ab_k a = 2 ∧ j = 14 then some (a + 7) else
  if ab_k a = 0 ∧ j = 5 then some (a + 1) else
  if ab_k a = 0 ∧ j = 6 then some (a + 2) else
  if ab_k a = 1 ∧ j = 2 then some (a + 1) else
  if ab_k a = 5 ∧ j = 4 then some (92) else
  if ab_k a = 6 ∧ j = 3 then some (94) else
  if ab_k a = 7 ∧ j = 0 then some (1) else
  if ab_k a = 7 ∧ j = 1 then some (31) else
  if ab_k a = 7 ∧ j = 2 then some (61) else
  if ab_k a = 7 ∧ j = 3 then some (91) else
  if ab_k a = 7 ∧ j = 4 then some (93) else
  if ab_k a = 7 ∧ j = 5 then some (95) else
  if ab_k a = 7 ∧ j = 6 then some (96) else
  if ab_k a = 8 ∧ j = 0 then some (106) else
  if ab_k a = 8 ∧ j = 1 then some (107) else
  if ab_k a = 8 ∧ j = 2 then some (108) else
  if ab_k a = 8 ∧ j = 3 then some (109) else
  if ab_k a = 8 ∧ j = 5 then some (110) else
  if ab_k a = 8 ∧ j = 11 then some (111) else
  if ab_k a = 8 ∧ j = 14 then some (112) else
  if ab_k a = 8 ∧ j = 18 then some (113) else
  if ab_k a = 8 ∧ j = 19 then some (114) else
  if ab_k a = 8 ∧ j = 20 then some (115) else
  if ab_k a = 8 ∧ j = 21 then some (116) else
  if ab_k a = 12 ∧ j < 6 then some (a + 7 + 3 * j) else
  if ab_k a = 13 ∧ j < 4 then some (a + 22 + j) else
  if ab_k a = 15 ∧ j < 4 then some (97 + 2 * j) else none
def wf (h : hp_T) : Prop := 117 ≤ hp_n h ∧ (∀ a j t, a < 117 → ab_sr a j = some t → hp_r h a j = some t) ∧ ∀ a, a < 117 → ab_len (ab_k a) ≠ 0 → hp_l h a = ab_len (ab_k a)
theorem wf_si {h h1 : hp_T} {a k : Nat} {v : Int32} (e : h1 = hp_si h a k v) (hw : wf h) : wf h1 := by subst e; exact hw
theorem wf_cp {h h1 : hp_T} {a i b j n : Nat} (e : h1 = hp_cp h a i b j n) (hw : wf h) : wf h1 := by subst e; exact hw
theorem wf_sr {h h1 : hp_T} {a k : Nat} {v : Option Nat} (e : h1 = hp_sr h a k v) (hs : ab_sr a k = none) (hw : wf h) : wf h1 := by
  subst e
  refine ⟨hw.1, fun b j t hb ht => ?_, hw.2.2⟩
  show (if b = a ∧ j = k then v else h.2.1 b j) = some t
  rw [if_neg (by rintro ⟨rfl, rfl⟩; rw [hs] at ht; cases ht)]
  exact hw.2.1 b j t hb ht
theorem wf_no {h h1 : hp_T} (e : h1 = hp_no h) (hw : wf h) : wf h1 := by
  subst e
  have h0 := hw.1
  refine ⟨Nat.le_succ_of_le hw.1, fun b j t hb ht => ?_, hw.2.2⟩
  show (if b = hp_n h then none else h.2.1 b j) = some t
  rw [if_neg (by omega)]
  exact hw.2.1 b j t hb ht
theorem wf_na {h h1 : hp_T} {n : Nat} (e : h1 = hp_na h n) (hw : wf h) : wf h1 := by
  subst e
  have h0 := hw.1
  refine ⟨Nat.le_succ_of_le hw.1, fun b j t hb ht => ?_, fun b hb hl => ?_⟩
  · show (if b = hp_n h then none else h.2.1 b j) = some t
    rw [if_neg (by omega)]
    exact hw.2.1 b j t hb ht
  · show (if b = hp_n h then n else h.2.2.1 b) = _
    rw [if_neg (by omega)]
    exact hw.2.2 b hb hl
/-- a kind that no new cell has -/
def ab_old (c : Nat) : Bool := c != 4 && c != 16 && c != 17 && c != 99
theorem ab_k_lt {a c : Nat} (h : ab_k a = c) (hc : ab_old c = true) : a < 117 := by
  rcases Nat.lt_or_ge a 117 with q | q
  · exact q
  · subst h
    unfold ab_k at hc
    rw [if_neg (by omega)] at hc
    by_cases h0 : a % 3 = 0
    · rw [if_pos h0] at hc; cases hc
    · rw [if_neg h0] at hc
      by_cases h1 : a % 3 = 1
      · rw [if_pos h1] at hc; cases hc
      · rw [if_neg h1] at hc; cases hc
theorem wf_lt {h : hp_T} {a c : Nat} (hw : wf h) (hk : ab_k a = c) (hc : ab_old c = true) : a < hp_n h := Nat.lt_of_lt_of_le (ab_k_lt hk hc) hw.1
theorem wf_len {h : hp_T} {a c n : Nat} (hw : wf h) (hk : ab_k a = c) (hc : ab_old c = true) (hn : ab_len c = n) (h0 : n ≠ 0) : hp_l h a = n := by
  have := hw.2.2 a (ab_k_lt hk hc) (by rw [hk, hn]; exact h0)
  rw [this, hk, hn]
theorem vp_in_lt {i : Int32} {n : Nat} (h : vp_in i n) : i.toNatClampNeg < n := Nat.not_le.mp fun q => h (Or.inr q)
/-- by all cells of the fixed part -/
theorem ab_all {P : Nat → Prop} [DecidablePred P] (c : Nat) (hc : ab_old c = true) (hd : (List.range 117).all (fun a => !(ab_k a == c) || decide (P a)) = true) {a : Nat} (h : ab_k a = c) : P a := by
  have ha := ab_k_lt h hc
  have h1 := List.all_eq_true.mp hd a (List.mem_range.mpr ha)
  simp [h] at h1
  exact h1
theorem kd_0 : ab_k 0 = 7 := by decide
theorem kd_1 : ab_k 1 = 2 := by decide
theorem kd_2 : ab_k 2 = 12 := by decide
theorem kd_3 : ab_k 3 = 20 := by decide
theorem kd_4 : ab_k 4 = 21 := by decide
theorem kd_5 : ab_k 5 = 13 := by decide
theorem kd_6 : ab_k 6 = 11 := by decide
theorem kd_7 : ab_k 7 = 14 := by decide
theorem kd_8 : ab_k 8 = 22 := by decide
theorem kd_9 : ab_k 9 = 0 := by decide
theorem kd_10 : ab_k 10 = 23 := by decide
theorem kd_11 : ab_k 11 = 24 := by decide
theorem kd_12 : ab_k 12 = 0 := by decide
theorem kd_13 : ab_k 13 = 23 := by decide
theorem kd_14 : ab_k 14 = 24 := by decide
theorem kd_15 : ab_k 15 = 0 := by decide
theorem kd_16 : ab_k 16 = 23 := by decide
theorem kd_17 : ab_k 17 = 24 := by decide
theorem kd_18 : ab_k 18 = 0 := by decide
theorem kd_19 : ab_k 19 = 23 := by decide
theorem kd_20 : ab_k 20 = 24 := by decide
theorem kd_21 : ab_k 21 = 0 := by decide
theorem kd_22 : ab_k 22 = 23 := by decide
theorem kd_23 : ab_k 23 = 24 := by decide
theorem kd_24 : ab_k 24 = 0 := by decide
theorem kd_25 : ab_k 25 = 23 := by decide
theorem kd_26 : ab_k 26 = 24 := by decide
theorem kd_27 : ab_k 27 = 3 := by decide
theorem kd_28 : ab_k 28 = 3 := by decide
theorem kd_29 : ab_k 29 = 3 := by decide
theorem kd_30 : ab_k 30 = 3 := by decide
theorem kd_31 : ab_k 31 = 2 := by decide
theorem kd_32 : ab_k 32 = 12 := by decide
theorem kd_33 : ab_k 33 = 20 := by decide
theorem kd_34 : ab_k 34 = 21 := by decide
theorem kd_35 : ab_k 35 = 13 := by decide
theorem kd_36 : ab_k 36 = 11 := by decide
theorem kd_37 : ab_k 37 = 14 := by decide
theorem kd_38 : ab_k 38 = 22 := by decide
theorem kd_39 : ab_k 39 = 0 := by decide
theorem kd_40 : ab_k 40 = 23 := by decide
theorem kd_41 : ab_k 41 = 24 := by decide
theorem kd_42 : ab_k 42 = 0 := by decide
theorem kd_43 : ab_k 43 = 23 := by decide
theorem kd_44 : ab_k 44 = 24 := by decide
theorem kd_45 : ab_k 45 = 0 := by decide
theorem kd_46 : ab_k 46 = 23 := by decide
theorem kd_47 : ab_k 47 = 24 := by decide
theorem kd_48 : ab_k 48 = 0 := by decide
theorem kd_49 : ab_k 49 = 23 := by decide
theorem kd_50 : ab_k 50 = 24 := by decide
theorem kd_51 : ab_k 51 = 0 := by decide
theorem kd_52 : ab_k 52 = 23 := by decide
theorem kd_53 : ab_k 53 = 24 := by decide
theorem kd_54 : ab_k 54 = 0 := by decide
theorem kd_55 : ab_k 55 = 23 := by decide
theorem kd_56 : ab_k 56 = 24 := by decide
theorem kd_57 : ab_k 57 = 3 := by decide
theorem kd_58 : ab_k 58 = 3 := by decide
theorem kd_59 : ab_k 59 = 3 := by decide
theorem kd_60 : ab_k 60 = 3 := by decide
theorem kd_61 : ab_k 61 = 2 := by decide
theorem kd_62 : ab_k 62 = 12 := by decide
theorem kd_63 : ab_k 63 = 20 := by decide
theorem kd_64 : ab_k 64 = 21 := by decide
theorem kd_65 : ab_k 65 = 13 := by decide
theorem kd_66 : ab_k 66 = 11 := by decide
theorem kd_67 : ab_k 67 = 14 := by decide
theorem kd_68 : ab_k 68 = 22 := by decide
theorem kd_69 : ab_k 69 = 0 := by decide
theorem kd_70 : ab_k 70 = 23 := by decide
theorem kd_71 : ab_k 71 = 24 := by decide
theorem kd_72 : ab_k 72 = 0 := by decide
theorem kd_73 : ab_k 73 = 23 := by decide
theorem kd_74 : ab_k 74 = 24 := by decide
theorem kd_75 : ab_k 75 = 0 := by decide
theorem kd_76 : ab_k 76 = 23 := by decide
theorem kd_77 : ab_k 77 = 24 := by decide
theorem kd_78 : ab_k 78 = 0 := by decide
theorem kd_79 : ab_k 79 = 23 := by decide
theorem kd_80 : ab_k 80 = 24 := by decide
theorem kd_81 : ab_k 81 = 0 := by decide
theorem kd_82 : ab_k 82 = 23 := by decide
theorem kd_83 : ab_k 83 = 24 := by decide
theorem kd_84 : ab_k 84 = 0 := by decide
theorem kd_85 : ab_k 85 = 23 := by decide
theorem kd_86 : ab_k 86 = 24 := by decide
theorem kd_87 : ab_k 87 = 3 := by decide
theorem kd_88 : ab_k 88 = 3 := by decide
theorem kd_89 : ab_k 89 = 3 := by decide
theorem kd_90 : ab_k 90 = 3 := by decide
theorem kd_91 : ab_k 91 = 5 := by decide
theorem kd_92 : ab_k 92 = 26 := by decide
theorem kd_93 : ab_k 93 = 6 := by decide
theorem kd_94 : ab_k 94 = 27 := by decide
theorem kd_95 : ab_k 95 = 15 := by decide
theorem kd_96 : ab_k 96 = 28 := by decide
theorem kd_97 : ab_k 97 = 1 := by decide
theorem kd_98 : ab_k 98 = 25 := by decide
theorem kd_99 : ab_k 99 = 1 := by decide
theorem kd_100 : ab_k 100 = 25 := by decide
theorem kd_101 : ab_k 101 = 1 := by decide
theorem kd_102 : ab_k 102 = 25 := by decide
theorem kd_103 : ab_k 103 = 1 := by decide
theorem kd_104 : ab_k 104 = 25 := by decide
theorem kd_105 : ab_k 105 = 8 := by decide
theorem kd_106 : ab_k 106 = 30 := by decide
theorem kd_107 : ab_k 107 = 31 := by decide
theorem kd_108 : ab_k 108 = 32 := by decide
theorem kd_109 : ab_k 109 = 33 := by decide
theorem kd_110 : ab_k 110 = 34 := by decide
theorem kd_111 : ab_k 111 = 35 := by decide
theorem kd_112 : ab_k 112 = 36 := by decide
theorem kd_113 : ab_k 113 = 37 := by decide
theorem kd_114 : ab_k 114 = 38 := by decide
theorem kd_115 : ab_k 115 = 39 := by decide
theorem kd_116 : ab_k 116 = 40 := by decide
theorem kn_2_0 {a : Nat} (h : ab_k a = 2) : ab_k (a + 1) = 12 := ab_all (P := fun a => ab_k (a + 1) = 12) 2 rfl (by decide +kernel) h
theorem wr_2_0 {h : hp_T} (hw : wf h) {a : Nat} (hk : ab_k a = 2) : hp_r h a 0 = some (a + 1) := hw.2.1 a 0 _ (ab_k_lt hk rfl) (ab_all (P := fun a => ab_sr a 0 = some (a + 1)) 2 rfl (by decide +kernel) hk)
theorem kn_2_2 {a : Nat} (h : ab_k a = 2) : ab_k (a + 2) = 20 := ab_all (P := fun a => ab_k (a + 2) = 20) 2 rfl (by decide +kernel) h
theorem wr_2_2 {h : hp_T} (hw : wf h) {a : Nat} (hk : ab_k a = 2) : hp_r h a 2 = some (a + 2) := hw.2.1 a 2 _ (ab_k_lt hk rfl) (ab_all (P := fun a => ab_sr a 2 = some (a + 2)) 2 rfl (by decide +kernel) hk)
theorem kn_2_3 {a : Nat} (h : ab_k a = 2) : ab_k (a + 3) = 21 := ab_all (P := fun a => ab_k (a + 3) = 21) 2 rfl (by decide +kernel) h
theorem wr_2_3 {h : hp_T} (hw : wf h) {a : Nat} (hk : ab_k a = 2) : hp_r h a 3 = some (a + 3) := hw.2.1 a 3 _ (ab_k_lt hk rfl) (ab_all (P := fun a => ab_sr a 3 = some (a + 3)) 2 rfl (by decide +kernel) hk)
theorem kn_2_7 {a : Nat} (h : ab_k a = 2) : ab_k (a + 4) = 13 := ab_all (P := fun a => ab_k (a + 4) = 13) 2 rfl (by decide +kernel) h
theorem wr_2_7 {h : hp_T} (hw : wf h) {a : Nat} (hk : ab_k a = 2) : hp_r h a 7 = some (a + 4) := hw.2.1 a 7 _ (ab_k_lt hk rfl) (ab_all (P := fun a => ab_sr a 7 = some (a + 4)) 2 rfl (by decide +kernel) hk)
theorem kn_2_11 {a : Nat} (h : ab_k a = 2) : ab_k (a + 5) = 11 := ab_all (P := fun a => ab_k (a + 5) = 11) 2 rfl (by decide +kernel) h
theorem wr_2_11 {h : hp_T} (hw : wf h) {a : Nat} (hk : ab_k a = 2) : hp_r h a 11 = some (a + 5) := hw.2.1 a 11 _ (ab_k_lt hk rfl) (ab_all (P := fun a => ab_sr a 11 = some (a + 5)) 2 rfl (by decide +kernel) hk)
theorem kn_2_13 {a : Nat} (h : ab_k a = 2) : ab_k (a + 6) = 14 := ab_all (P := fun a => ab_k (a + 6) = 14) 2 rfl (by decide +kernel) h
theorem wr_2_13 {h : hp_T} (hw : wf h) {a : Nat} (hk : ab_k a = 2) : hp_r h a 13 = some (a + 6) := hw.2.1 a 13 _ (ab_k_lt hk rfl) (ab_all (P := fun a => ab_sr a 13 = some (a + 6)) 2 rfl (by decide +kernel) hk)
theorem kn_2_14 {a : Nat} (h : ab_k a = 2) : ab_k (a + 7) = 22 := ab_all (P := fun a => ab_k (a + 7) = 22) 2 rfl (by decide +kernel) h
theorem wr_2_14 {h : hp_T} (hw : wf h) {a : Nat} (hk : ab_k a = 2) : hp_r h a 14 = some (a + 7) := hw.2.1 a 14 _ (ab_k_lt hk rfl) (ab_all (P := fun a => ab_sr a 14 = some (a + 7)) 2 rfl (by decide +kernel) hk)
theorem kn_0_5 {a : Nat} (h : ab_k a = 0) : ab_k (a + 1) = 23 := ab_all (P := fun a => ab_k (a + 1) = 23) 0 rfl (by decide +kernel) h
theorem wr_0_5 {h : hp_T} (hw : wf h) {a : Nat} (hk : ab_k a = 0) : hp_r h a 5 = some (a + 1) := hw.2.1 a 5 _ (ab_k_lt hk rfl) (ab_all (P := fun a => ab_sr a 5 = some (a + 1)) 0 rfl (by decide +kernel) hk)
theorem kn_0_6 {a : Nat} (h : ab_k a = 0) : ab_k (a + 2) = 24 := ab_all (P := fun a => ab_k (a + 2) = 24) 0 rfl (by decide +kernel) h
theorem wr_0_6 {h : hp_T} (hw : wf h) {a : Nat} (hk : ab_k a = 0) : hp_r h a 6 = some (a + 2) := hw.2.1 a 6 _ (ab_k_lt hk rfl) (ab_all (P := fun a => ab_sr a 6 = some (a + 2)) 0 rfl (by decide +kernel) hk)
theorem kn_1_2 {a : Nat} (h : ab_k a = 1) : ab_k (a + 1) = 25 := ab_all (P := fun a => ab_k (a + 1) = 25) 1 rfl (by decide +kernel) h
theorem wr_1_2 {h : hp_T} (hw : wf h) {a : Nat} (hk : ab_k a = 1) : hp_r h a 2 = some (a + 1) := hw.2.1 a 2 _ (ab_k_lt hk rfl) (ab_all (P := fun a => ab_sr a 2 = some (a + 1)) 1 rfl (by decide +kernel) hk)
theorem wr_5_4 {h : hp_T} (hw : wf h) : hp_r h 91 4 = some 92 := hw.2.1 91 4 _ (by decide) (by decide +kernel)
theorem wr_6_3 {h : hp_T} (hw : wf h) : hp_r h 93 3 = some 94 := hw.2.1 93 3 _ (by decide) (by decide +kernel)
theorem wr_7_0 {h : hp_T} (hw : wf h) : hp_r h 0 0 = some 1 := hw.2.1 0 0 _ (by decide) (by decide +kernel)
theorem wr_7_1 {h : hp_T} (hw : wf h) : hp_r h 0 1 = some 31 := hw.2.1 0 1 _ (by decide) (by decide +kernel)
theorem wr_7_2 {h : hp_T} (hw : wf h) : hp_r h 0 2 = some 61 := hw.2.1 0 2 _ (by decide) (by decide +kernel)
theorem wr_7_3 {h : hp_T} (hw : wf h) : hp_r h 0 3 = some 91 := hw.2.1 0 3 _ (by decide) (by decide +kernel)
theorem wr_7_4 {h : hp_T} (hw : wf h) : hp_r h 0 4 = some 93 := hw.2.1 0 4 _ (by decide) (by decide +kernel)
theorem wr_7_5 {h : hp_T} (hw : wf h) : hp_r h 0 5 = some 95 := hw.2.1 0 5 _ (by decide) (by decide +kernel)
theorem wr_7_6 {h : hp_T} (hw : wf h) : hp_r h 0 6 = some 96 := hw.2.1 0 6 _ (by decide) (by decide +kernel)
theorem wr_8_0 {h : hp_T} (hw : wf h) : hp_r h 105 0 = some 106 := hw.2.1 105 0 _ (by decide) (by decide +kernel)
theorem wr_8_1 {h : hp_T} (hw : wf h) : hp_r h 105 1 = some 107 := hw.2.1 105 1 _ (by decide) (by decide +kernel)
theorem wr_8_2 {h : hp_T} (hw : wf h) : hp_r h 105 2 = some 108 := hw.2.1 105 2 _ (by decide) (by decide +kernel)
theorem wr_8_3 {h : hp_T} (hw : wf h) : hp_r h 105 3 = some 109 := hw.2.1 105 3 _ (by decide) (by decide +kernel)
theorem wr_8_5 {h : hp_T} (hw : wf h) : hp_r h 105 5 = some 110 := hw.2.1 105 5 _ (by decide) (by decide +kernel)
theorem wr_8_11 {h : hp_T} (hw : wf h) : hp_r h 105 11 = some 111 := hw.2.1 105 11 _ (by decide) (by decide +kernel)
theorem wr_8_14 {h : hp_T} (hw : wf h) : hp_r h 105 14 = some 112 := hw.2.1 105 14 _ (by decide) (by decide +kernel)
theorem wr_8_18 {h : hp_T} (hw : wf h) : hp_r h 105 18 = some 113 := hw.2.1 105 18 _ (by decide) (by decide +kernel)
theorem wr_8_19 {h : hp_T} (hw : wf h) : hp_r h 105 19 = some 114 := hw.2.1 105 19 _ (by decide) (by decide +kernel)
theorem wr_8_20 {h : hp_T} (hw : wf h) : hp_r h 105 20 = some 115 := hw.2.1 105 20 _ (by decide) (by decide +kernel)
theorem wr_8_21 {h : hp_T} (hw : wf h) : hp_r h 105 21 = some 116 := hw.2.1 105 21 _ (by decide) (by decide +kernel)
theorem kx_bunk {a j : Nat} (h : ab_k a = 2) (hj : j < 6) : ab_k (a + 8 + 3 * j) = 0 := by
  have key := ab_all (P := fun a => (List.range 6).all (fun j => ab_k (a + 8 + 3 * j) == 0) = true) 2 rfl (by decide +kernel) h
  simpa using List.all_eq_true.mp key j (List.mem_range.mpr hj)
theorem wx_bunk {h : hp_T} (hw : wf h) {a j : Nat} (hk : ab_k a = 2) (hj : j < 6) : hp_r h (a + 1) j = some (a + 8 + 3 * j) := by
  have key := ab_all (P := fun a => (List.range 6).all (fun j => ab_sr (a + 1) j == some (a + 8 + 3 * j)) = true) 2 rfl (by decide +kernel) hk
  have h2 : ab_k (a + 1) = 12 := kn_2_0 hk
  exact hw.2.1 _ j _ (ab_k_lt h2 rfl) (by simpa using List.all_eq_true.mp key j (List.mem_range.mpr hj))
theorem kx_task {a j : Nat} (h : ab_k a = 2) (hj : j < 4) : ab_k (a + 26 + j) = 3 := by
  have key := ab_all (P := fun a => (List.range 4).all (fun j => ab_k (a + 26 + j) == 3) = true) 2 rfl (by decide +kernel) h
  simpa using List.all_eq_true.mp key j (List.mem_range.mpr hj)
theorem wx_task {h : hp_T} (hw : wf h) {a j : Nat} (hk : ab_k a = 2) (hj : j < 4) : hp_r h (a + 4) j = some (a + 26 + j) := by
  have key := ab_all (P := fun a => (List.range 4).all (fun j => ab_sr (a + 4) j == some (a + 26 + j)) = true) 2 rfl (by decide +kernel) hk
  have h2 : ab_k (a + 4) = 13 := kn_2_7 hk
  exact hw.2.1 _ j _ (ab_k_lt h2 rfl) (by simpa using List.all_eq_true.mp key j (List.mem_range.mpr hj))
theorem kx_sheet {j : Nat} (hj : j < 4) : ab_k (97 + 2 * j) = 1 := by
  have key : (List.range 4).all (fun j => ab_k (97 + 2 * j) == 1) = true := by decide +kernel
  simpa using List.all_eq_true.mp key j (List.mem_range.mpr hj)
theorem wx_sheet {h : hp_T} (hw : wf h) {j : Nat} (hj : j < 4) : hp_r h 95 j = some (97 + 2 * j) := by
  have key : (List.range 4).all (fun j => ab_sr 95 j == some (97 + 2 * j)) = true := by decide +kernel
  exact hw.2.1 95 j _ (by decide) (by simpa using List.all_eq_true.mp key j (List.mem_range.mpr hj))
theorem sr_text {a j : Nat} (h : ab_k a = 14) : ab_sr a j = none := by simp [ab_sr, h]
theorem sr_tape : ab_sr 91 0 = none := by decide +kernel
/-! what a method's end says: without a change of the heap, with one, without an answer, with a reference or none, a constructor's -/
def po_p (h : hp_T) (Q : Int32 → Prop) : Option Value → hp_T → Prop := fun r h1 => h1 = h ∧ ∃ v, r = some (.int v) ∧ Q v
def po_h (Q : Int32 → hp_T → Prop) : Option Value → hp_T → Prop := fun r h1 => wf h1 ∧ ∃ v, r = some (.int v) ∧ Q v h1
def po_v (Q : hp_T → Prop) : Option Value → hp_T → Prop := fun r h1 => wf h1 ∧ r = none ∧ Q h1
def po_q (G : ab_G) (Q : Option Nat → hp_T → Prop) : Option Value → hp_T → Prop := fun r h1 => wf h1 ∧ ∃ q : Option Nat, r = some (va_rf (q.map (fun x => G.1 + x))) ∧ Q q h1
def po_r (Q : hp_T → Prop) : Option Value → hp_T → Prop := fun r h1 => r = none ∧ Q h1
def bo_ok (v : Int32) : Prop := v = 0 ∨ v = 1
theorem bo_nar {v : Int32} (h : bo_ok v) : narrow .boolean (.int v) = .int v := by rcases h with rfl | rfl <;> rfl
theorem bo_fit {v : Int32} (h : bo_ok v) : fits .boolean (.int v) = true := by rcases h with rfl | rfl <;> rfl
section AB
variable {l : Launch} {G : ab_G} {F : ab_F} {nL : Nat} {S : State → Prop} {k n : Nat} {h : hp_T} {lv : List (Nat × Value)} {rest : List Value} {pc : Nat}
theorem ab_kp {Qi : Int32 → Prop} (kk : ∀ v, Qi v → ab_W l G F nL S k n h lv (.int v :: rest) pc) : ∀ r h1, po_p h Qi r h1 → ab_W l G F nL S k n h1 lv (r.toList ++ rest) pc := by
  rintro _ _ ⟨rfl, v, rfl, hq⟩
  exact kk v hq
theorem ab_kh {Qi : Int32 → hp_T → Prop} (kk : ∀ v h1, wf h1 → Qi v h1 → ab_W l G F nL S k n h1 lv (.int v :: rest) pc) : ∀ r h1, po_h Qi r h1 → ab_W l G F nL S k n h1 lv (r.toList ++ rest) pc := by
  rintro _ h1 ⟨hw, v, rfl, hq⟩
  exact kk v h1 hw hq
theorem ab_kv {Qi : hp_T → Prop} (kk : ∀ h1, wf h1 → Qi h1 → ab_W l G F nL S k n h1 lv rest pc) : ∀ r h1, po_v Qi r h1 → ab_W l G F nL S k n h1 lv (r.toList ++ rest) pc := by
  rintro _ h1 ⟨hw, rfl, hq⟩
  exact kk h1 hw hq
theorem ab_kr {Qi : hp_T → Prop} (kk : ∀ h1, Qi h1 → ab_W l G F nL S k n h1 lv rest pc) : ∀ r h1, po_r Qi r h1 → ab_W l G F nL S k n h1 lv (r.toList ++ rest) pc := by
  rintro _ h1 ⟨rfl, hq⟩
  exact kk h1 hq
theorem ab_kq {Qi : Option Nat → hp_T → Prop} (k0 : ∀ h1, wf h1 → Qi none h1 → ab_W l G F nL S k n h1 lv (.null :: rest) pc) (k1 : ∀ q h1, wf h1 → Qi (some q) h1 → ab_W l G F nL S k n h1 lv (.ref (G.1 + q) :: rest) pc) : ∀ r h1, po_q G Qi r h1 → ab_W l G F nL S k n h1 lv (r.toList ++ rest) pc := by
  rintro _ h1 ⟨hw, q, rfl, hq⟩
  cases q with
  | none => exact k0 h1 hw hq
  | some q => exact k1 q h1 hw hq
end AB
section AB
variable {l : Launch} {G : ab_G} {F : ab_F} {R : Room} {cc : ByteArray} {nL : Nat} {own : String} {ret : Option FieldType} {nm : String} {Q : State → Prop} {k n : Nat} {h : hp_T} {lv : List (Nat × Value)} {st : List Value} {pc : Nat}
theorem ab_newF (C : ab_C G F R cc nL own ret nm) {idx ci N0 : Nat} {CN : String} {T : u_T} {N : Nat} {t0 : Nat → FieldType} (hcl : ab_cls ci CN T N t0) (hw : Cond.classLink own idx CN ∈ ab_ws ∧ Cond.instantiable CN N ∈ ab_ws ∧ Cond.initialized CN ∈ ab_ws) (hN : hp_n h = N0) (ht : ab_k N0 = ci) (hcells : k + 1 ≤ R.cells) (hslots : n + N ≤ R.slots) (hd : decode cc pc = .ok (.new idx, 3)) (kk : ∀ h1, h1 = hp_no h → ab_W l G F nL Q (k + 1) (n + N) h1 lv (.ref (G.1 + N0) :: st) (pc + 3)) : ab_W l G F nL Q k n h lv st pc := by
  subst hN
  exact ab_new C hcl hw ht hcells hslots hd kk
theorem ab_tabC (C : ab_C G F R cc nL own ret nm) {dflt lo hi : Int} {offs : Array Int} {len : Nat} {x v : Int32} {off : Int} {tgt : Nat} (hd : decode cc pc = .ok (.tableswitch dflt lo hi offs, len)) (hx : x = v) (h1 : ¬ v.toInt < lo) (h2 : ¬ hi < v.toInt) (ho : offs[(v.toInt - lo).toNat]? = some off) (ht : (pc : Int) + off = (tgt : Int)) (kk : ab_W l G F nL Q k n h lv st tgt) : ab_W l G F nL Q k n h lv (.int x :: st) pc := by
  subst hx
  exact ab_tabIn C hd h1 h2 ho ht kk
theorem ab_lookC (C : ab_C G F R cc nL own ret nm) {dflt : Int} {ps : Array (Int × Int)} {len : Nat} {x v : Int32} {off : Int} {tgt : Nat} (hd : decode cc pc = .ok (.lookupswitch dflt ps, len)) (hx : x = v) (hp : (ps.toList.zip (ps.toList.drop 1)).all (fun (a, next) => a.1 < next.1) = true) (ho : Op.lookupswitch.offset ps.toList dflt v.toInt = off) (ht : (pc : Int) + off = (tgt : Int)) (kk : ab_W l G F nL Q k n h lv st tgt) : ab_W l G F nL Q k n h lv (.int x :: st) pc := by
  subst hx
  exact ab_lookup C hd hp ho ht kk
end AB
theorem vp_lit {i : Int32} {n : Nat} (h : decide (¬ (i < 0 ∨ n ≤ i.toNatClampNeg)) = true) : vp_in i n := show ¬ (i < 0 ∨ n ≤ i.toNatClampNeg) from of_decide_eq_true h
/-- a stretch that may be copied -/
def cp_ok (sp dp z : Int32) (Na Nb : Nat) : Prop := ¬ sp < 0 ∧ ¬ dp < 0 ∧ ¬ z < 0 ∧ sp.toNatClampNeg + z.toNatClampNeg ≤ Na ∧ dp.toNatClampNeg + z.toNatClampNeg ≤ Nb
def cp_by (h : hp_T) (a : Nat) (sp z : Int32) : Prop := ∀ i, i < z.toNatClampNeg → fits .byte (.int (hp_i h a (sp.toNatClampNeg + i))) = true
/-! tables of jumps: what is outside -/
theorem ab_tout {x : Int32} {lo hi : Int} (h : ∀ j : Int, lo ≤ j → j ≤ hi → ¬ x.toInt = j) : x.toInt < lo ∨ hi < x.toInt := by
  rcases Int.lt_or_le x.toInt lo with q | q
  · exact Or.inl q
  · rcases Int.lt_or_le hi x.toInt with r | r
    · exact Or.inr r
    · exact absurd rfl (h _ q r)
theorem ab_lout {x : Int32} {dflt : Int} : ∀ (l : List (Int × Int)), (∀ a ∈ l.map Prod.fst, ¬ x.toInt = a) → Op.lookupswitch.offset l dflt x.toInt = dflt
  | [], _ => rfl
  | (a, o) :: r, h => by
    rw [Op.lookupswitch.offset_cons, if_neg (fun e => h a (by simp) e.symm)]
    exact ab_lout r (fun b hb => h b (by simp at hb ⊢; exact Or.inr hb))
theorem ab_ne {x v : Int32} (h : ¬ x = v) : ¬ x.toInt = v.toInt := fun e => h (Int32.toInt_inj.mp e)

