/-! ===== THE ABSTRACT HEAP: all cells from a base on, by their offsets: ints, references, lengths, how many ===== -/
abbrev hp_T : Type := (Nat → Nat → Int32) × (Nat → Nat → Option Nat) × (Nat → Nat) × Nat
def hp_i (h : hp_T) (a k : Nat) : Int32 := h.1 a k
def hp_r (h : hp_T) (a k : Nat) : Option Nat := h.2.1 a k
def hp_l (h : hp_T) (a : Nat) : Nat := h.2.2.1 a
def hp_n (h : hp_T) : Nat := h.2.2.2
/-- an int is written -/
def hp_si (h : hp_T) (a k : Nat) (v : Int32) : hp_T := (fun b j => if b = a ∧ j = k then v else h.1 b j, h.2)
/-- a reference is written -/
def hp_sr (h : hp_T) (a k : Nat) (v : Option Nat) : hp_T := (h.1, fun b j => if b = a ∧ j = k then v else h.2.1 b j, h.2.2)
/-- a new object -/
def hp_no (h : hp_T) : hp_T := (fun b j => if b = h.2.2.2 then 0 else h.1 b j, fun b j => if b = h.2.2.2 then none else h.2.1 b j, h.2.2.1, h.2.2.2 + 1)
/-- a new array of n -/
def hp_na (h : hp_T) (n : Nat) : hp_T := (fun b j => if b = h.2.2.2 then 0 else h.1 b j, fun b j => if b = h.2.2.2 then none else h.2.1 b j, fun b => if b = h.2.2.2 then n else h.2.2.1 b, h.2.2.2 + 1)
/-- n ints of a, from i on, to b, from j on -/
def hp_cp (h : hp_T) (a i b j n : Nat) : hp_T := (fun c k => if c = b then va_cpy (h.1 a) (h.1 b) i j n k else h.1 c k, h.2)
/-- the kinds of the cells: 0 .. 8 the classes in the order of vwCl; 11 bytes; 12 .. 15 rows of references; from 16 on rows of ints, by what they are -/
def ab_ship : List Nat := [2, 12, 20, 21, 13, 11, 14, 22, 0, 23, 24, 0, 23, 24, 0, 23, 24, 0, 23, 24, 0, 23, 24, 0, 23, 24, 3, 3, 3, 3]
def ab_kinds : List Nat := [7] ++ ab_ship ++ ab_ship ++ ab_ship ++ [5, 26, 6, 27, 15, 28, 1, 25, 1, 25, 1, 25, 1, 25, 8, 30, 31, 32, 33, 34, 35, 36, 37, 38, 39, 40]
def ab_k (a : Nat) : Nat := if a < 117 then ab_kinds.getD a 99 else if a % 3 = 0 then 4 else if a % 3 = 1 then 16 else 17
def ab_fields : List Nat := [7, 3, 16, 4, 2, 7, 6, 8, 22]
def ab_nf (k : Nat) : Nat := ab_fields.getD k 0
def ab_refs : List (List Nat) := [[5, 6], [2], [0, 2, 3, 7, 11, 13, 14], [], [0, 1], [0, 4], [3], [0, 1, 2, 3, 4, 5, 6], [0, 1, 2, 3, 5, 11, 14, 18, 19, 20, 21]]
def ab_rf (k j : Nat) : Bool := (ab_refs.getD k []).contains j
/-- the world: base, class numbers and slots, array classes, where the two static rows lie -/
abbrev ab_G : Type := Nat × va_G × (Nat → ClassId) × Nat × Nat
def ab_v (G : ab_G) (h : hp_T) (a j : Nat) : Value := if ab_rf (ab_k a) j = true then va_rf ((hp_r h a j).map (fun q => G.1 + q)) else .int (hp_i h a j)
def ab_o (G : ab_G) (h : hp_T) (a : Nat) : List Value := (List.range (ab_nf (ab_k a))).map (ab_v G h a)
def ab_q (G : ab_G) (h : hp_T) (a : Nat) : Nat → Option Nat := fun j => (hp_r h a j).map (fun q => G.1 + q)
def ab_e (G : ab_G) (h : hp_T) (a : Nat) : va_E := if ab_k a < 9 then .inr (ab_k a, ab_o G h a) else if ab_k a < 12 then .inl (G.2.2.1 11, hp_l h a, .inl (hp_i h a)) else if ab_k a < 16 then .inl (G.2.2.1 (ab_k a), hp_l h a, .inr (.inr (.inr (.inr (ab_q G h a))))) else .inl (G.2.2.1 10, hp_l h a, .inl (hp_i h a))
def ab_P (G : ab_G) (h : hp_T) (H : Heap) : Prop := H.size = G.1 + hp_n h ∧ ∀ a, a < hp_n h → va_at G.2.1 vwCl (G.1 + a, ab_e G h a) H
theorem ab_o_get {G : ab_G} {h : hp_T} {a k c : Nat} (ht : ab_k a = c) (hk : k < ab_nf c) : (ab_o G h a)[k]? = some (ab_v G h a k) := by
  subst ht
  simp [ab_o, hk]
theorem ab_o_len {G : ab_G} {h : hp_T} {a : Nat} : (ab_o G h a).length = ab_nf (ab_k a) := by simp [ab_o]
theorem ab_e_o {G : ab_G} {h : hp_T} {a c : Nat} (ht : ab_k a = c) (hc : c < 9) : ab_e G h a = .inr (c, ab_o G h a) := by
  subst ht
  simp [ab_e, hc]
theorem ab_e_b {G : ab_G} {h : hp_T} {a : Nat} (ht : ab_k a = 11) : ab_e G h a = .inl (G.2.2.1 11, hp_l h a, .inl (hp_i h a)) := by
  simp [ab_e, ht]
theorem ab_e_i {G : ab_G} {h : hp_T} {a : Nat} (ht : 16 ≤ ab_k a) : ab_e G h a = .inl (G.2.2.1 10, hp_l h a, .inl (hp_i h a)) := by
  unfold ab_e
  rw [if_neg (by omega), if_neg (by omega), if_neg (by omega)]
theorem ab_e_q {G : ab_G} {h : hp_T} {a c : Nat} (ht : ab_k a = c) (h1 : 12 ≤ c) (h2 : c < 16) : ab_e G h a = .inl (G.2.2.1 c, hp_l h a, .inr (.inr (.inr (.inr (ab_q G h a))))) := by
  subst ht
  unfold ab_e
  rw [if_neg (by omega), if_neg (by omega), if_pos (by omega)]
theorem ab_at1 {D : va_G} {cl : List vw_C} {q : Nat × va_E} {H : Heap} (h : va_at D cl q H) : va_P D cl [q] H := by
  intro k x hx
  have hz : k < 1 := (List.getElem?_eq_some_iff.mp hx).1
  rw [show k = 0 by omega] at hx
  cases hx
  exact h
theorem ab_e_eq {G : ab_G} {h h1 : hp_T} {b : Nat} (hi : hp_i h1 b = hp_i h b) (hr : hp_r h1 b = hp_r h b) (hl : hp_l h1 b = hp_l h b) : ab_e G h1 b = ab_e G h b := by
  have ho : ab_o G h1 b = ab_o G h b := by
    unfold ab_o
    congr 1
    funext j
    unfold ab_v
    rw [hi, hr]
  have hq : ab_q G h1 b = ab_q G h b := by
    unfold ab_q
    rw [hr]
  unfold ab_e
  rw [ho, hq, hi, hl]
/-- one cell is written, the others stay -/
theorem ab_P.put {G : ab_G} {h h1 : hp_T} {H H1 : Heap} {a : Nat} (hP : ab_P G h H) (hn : hp_n h1 = hp_n h) (z : H1.size = H.size) (oq : ∀ q : Nat, q ≠ G.1 + a → H1[q]? = H[q]?) (he : va_at G.2.1 vwCl (G.1 + a, ab_e G h1 a) H1) (hs : ∀ b, b ≠ a → ab_e G h1 b = ab_e G h b) : ab_P G h1 H1 := by
  refine ⟨by rw [z, hP.1, hn], fun b hb => ?_⟩
  by_cases hba : b = a
  · subst hba
    exact he
  · rw [hs b hba]
    exact (hP.2 b (by rw [← hn]; exact hb)).kept (oq _ (by show G.1 + b ≠ G.1 + a; omega))
/-- one cell is new, the others stay -/
theorem ab_P.push {G : ab_G} {h h1 : hp_T} {H H1 : Heap} (hP : ab_P G h H) (hn : hp_n h1 = hp_n h + 1) (z : H1.size = H.size + 1) (oq : ∀ q : Nat, q < H.size → H1[q]? = H[q]?) (he : va_at G.2.1 vwCl (G.1 + hp_n h, ab_e G h1 (hp_n h)) H1) (hs : ∀ b, b ≠ hp_n h → ab_e G h1 b = ab_e G h b) : ab_P G h1 H1 := by
  refine ⟨by rw [z, hP.1, hn]; omega, fun b hb => ?_⟩
  by_cases hba : b = hp_n h
  · subst hba
    exact he
  · rw [hs b hba]
    have hb' : b < hp_n h := by omega
    exact (hP.2 b hb').kept (oq _ (by show G.1 + b < H.size; rw [hP.1]; omega))
theorem ab_si_n {h : hp_T} {a k : Nat} {v : Int32} : hp_n (hp_si h a k v) = hp_n h := rfl
theorem ab_sr_n {h : hp_T} {a k : Nat} {v : Option Nat} : hp_n (hp_sr h a k v) = hp_n h := rfl
theorem ab_cp_n {h : hp_T} {a i b j n : Nat} : hp_n (hp_cp h a i b j n) = hp_n h := rfl
theorem ab_no_n {h : hp_T} : hp_n (hp_no h) = hp_n h + 1 := rfl
theorem ab_na_n {h : hp_T} {n : Nat} : hp_n (hp_na h n) = hp_n h + 1 := rfl
theorem ab_si_o {G : ab_G} {h : hp_T} {a k c : Nat} {v : Int32} (ht : ab_k a = c) (hk : k < ab_nf c) (hr : ab_rf c k = false) : ab_o G (hp_si h a k v) a = (ab_o G h a).set k (.int v) := by
  subst ht
  apply List.ext_getElem?
  intro j
  by_cases hj : j < ab_nf (ab_k a)
  · rw [ab_o_get rfl hj]
    by_cases hjk : j = k
    · subst hjk
      rw [List.getElem?_set_self (by rw [ab_o_len]; exact hj)]
      simp [ab_v, hr, hp_si, hp_i]
    · rw [List.getElem?_set_ne (Ne.symm hjk), ab_o_get rfl hj]
      simp [ab_v, hp_si, hp_i, hp_r, hjk]
  · have h1 : (ab_o G (hp_si h a k v) a).length ≤ j := by rw [ab_o_len]; omega
    have h2 : ((ab_o G h a).set k (.int v)).length ≤ j := by rw [List.length_set, ab_o_len]; omega
    rw [List.getElem?_eq_none h1, List.getElem?_eq_none h2]
theorem ab_sr_o {G : ab_G} {h : hp_T} {a k c : Nat} {v : Option Nat} (ht : ab_k a = c) (hk : k < ab_nf c) (hr : ab_rf c k = true) : ab_o G (hp_sr h a k v) a = (ab_o G h a).set k (va_rf (v.map (fun q => G.1 + q))) := by
  subst ht
  apply List.ext_getElem?
  intro j
  by_cases hj : j < ab_nf (ab_k a)
  · rw [ab_o_get rfl hj]
    by_cases hjk : j = k
    · subst hjk
      rw [List.getElem?_set_self (by rw [ab_o_len]; exact hj)]
      simp [ab_v, hr, hp_sr, hp_r]
    · rw [List.getElem?_set_ne (Ne.symm hjk), ab_o_get rfl hj]
      simp [ab_v, hp_sr, hp_i, hp_r, hjk]
  · have h1 : (ab_o G (hp_sr h a k v) a).length ≤ j := by rw [ab_o_len]; omega
    have h2 : ((ab_o G h a).set k (va_rf (v.map (fun q => G.1 + q)))).length ≤ j := by rw [List.length_set, ab_o_len]; omega
    rw [List.getElem?_eq_none h1, List.getElem?_eq_none h2]
theorem ab_si_ne {G : ab_G} {h : hp_T} {a k b : Nat} {v : Int32} (hb : b ≠ a) : ab_e G (hp_si h a k v) b = ab_e G h b :=
  ab_e_eq (by funext j; simp [hp_si, hp_i, hb]) rfl rfl
theorem ab_sr_ne {G : ab_G} {h : hp_T} {a k b : Nat} {v : Option Nat} (hb : b ≠ a) : ab_e G (hp_sr h a k v) b = ab_e G h b :=
  ab_e_eq rfl (by funext j; simp [hp_sr, hp_r, hb]) rfl
theorem ab_cp_ne {G : ab_G} {h : hp_T} {a i b j n c : Nat} (hb : c ≠ b) : ab_e G (hp_cp h a i b j n) c = ab_e G h c :=
  ab_e_eq (by funext k; simp [hp_cp, hp_i, hb]) rfl rfl
theorem ab_no_ne {G : ab_G} {h : hp_T} {b : Nat} (hb : b ≠ hp_n h) : ab_e G (hp_no h) b = ab_e G h b :=
  ab_e_eq (by funext j; show (if b = h.2.2.2 then _ else _) = _; exact if_neg hb) (by funext j; show (if b = h.2.2.2 then _ else _) = _; exact if_neg hb) rfl
theorem ab_na_ne {G : ab_G} {h : hp_T} {b n : Nat} (hb : b ≠ hp_n h) : ab_e G (hp_na h n) b = ab_e G h b :=
  ab_e_eq (by funext j; show (if b = h.2.2.2 then _ else _) = _; exact if_neg hb) (by funext j; show (if b = h.2.2.2 then _ else _) = _; exact if_neg hb) (by show (if b = h.2.2.2 then _ else _) = _; exact if_neg hb)
/-! ===== THE WORDS: those of the tables that every call keeps ===== -/
def ab_ws : List Cond := lw_tbl.filter goodWord
theorem ab_w {w : Cond} (h : w ∈ lw_tbl) (hg : goodWord w = true) : w ∈ ab_ws := List.mem_filter.mpr ⟨h, hg⟩
theorem ab_good : ∀ w ∈ ab_ws, ((w.onTables && w.keeps) = true ∨ ∃ ty, w = .arrayClass ty) := fun w h => good_of_word (List.mem_filter.mp h).2
theorem ab_goodIn {c c' : Cond} (h : c' ∈ ab_ws) : GoodIn (c :: ab_ws) (c' :: ab_ws) := by
  intro w hw
  rcases List.mem_cons.mp hw with rfl | hw
  · exact ⟨List.mem_cons_of_mem _ h, ab_good _ h⟩
  · exact ⟨List.mem_cons_of_mem _ hw, ab_good _ hw⟩
theorem ab_goodIn0 {c' : Cond} (h : c' ∈ ab_ws) : GoodIn ab_ws (c' :: ab_ws) := by
  intro w hw
  rcases List.mem_cons.mp hw with rfl | hw
  · exact ⟨h, ab_good _ h⟩
  · exact ⟨hw, ab_good _ hw⟩
/-- a class, its fields, and which of them are references -/
def ab_cls (ci : Nat) (CN : String) (T : u_T) (N : Nat) (t0 : Nat → FieldType) : Prop := ci < 9 ∧ vwCl[ci]? = some (CN, T, N) ∧ (∀ w ∈ u_ws CN T N, w ∈ ab_ws) ∧ ab_nf ci = N ∧ (∀ k, k < N → parseFieldDescriptor (T k).2.2.1 = some (t0 k)) ∧ (∀ a, a < N → ∀ b, b < N → a ≠ b → (T a).2.1 ≠ (T b).2.1) ∧ ∀ k, k < N → defaultValue (t0 k) = if ab_rf ci k = true then .null else .int 0
/-- a field of a class, as a method of the class own names it -/
def ab_fld (own : String) (idx ci k : Nat) (ty : FieldType) (fin wr : Bool) : Prop := ∃ (CN : String) (T : u_T) (N : Nat) (t0 : Nat → FieldType), ab_cls ci CN T N t0 ∧ k < N ∧ Cond.fieldLink own idx (T k).1 (T k).2.1 (T k).2.2.1 ∈ ab_ws ∧ t0 k = ty ∧ (T k).2.2.2 = fin ∧ (wr = true → fin = true → (T k).1 = own)
