/-! ===== PURE: the reference's row of ints, and a ship that agrees with it ===== -/
abbrev st_T : Type := Nat → Int32
def ss (S : st_T) (i : Nat) (v : Int32) : st_T := fun j => if j = i then v else S j
theorem ss_i {S : st_T} {i : Nat} {v : Int32} : ss S i v i = v := if_pos rfl
theorem ss_n {S : st_T} {i j : Nat} {v : Int32} (h : j ≠ i) : ss S i v j = S j := if_neg h
theorem si_row {h : hp_T} {a i : Nat} {v : Int32} : hp_i (hp_si h a i v) a = ss (hp_i h a) i v := by
  funext j
  show (if a = a ∧ j = i then v else _) = if j = i then v else _
  by_cases e : j = i <;> simp [e]
  rfl
theorem si_row_ne {h : hp_T} {a b i : Nat} {v : Int32} (hb : b ≠ a) : hp_i (hp_si h a i v) b = hp_i h b := by
  funext j
  show (if b = a ∧ j = i then v else _) = _
  rw [if_neg (fun e => hb e.1)]
  rfl
abbrev cr (S : st_T) : Nat := (S 0).toNatClampNeg
abbrev en (S : st_T) : Nat := (S 1).toNatClampNeg
abbrev wt (S : st_T) : Nat := (S 8).toNatClampNeg
/-- place i of the row is place j of the ship's k-th cell -/
def Lc (i k j : Nat) : Prop := (k = 0 ∧ ((i = 0 ∧ j = 1) ∨ (i = 1 ∧ j = 4) ∨ (i = 2 ∧ j = 5) ∨ (i = 3 ∧ j = 8) ∨ (i = 4 ∧ j = 6) ∨ (i = 5 ∧ j = 9) ∨ (i = 6 ∧ j = 10) ∨ (i = 7 ∧ j = 12) ∨ (i = 8 ∧ j = 15))) ∨
  (∃ b w, b < 6 ∧ w < 5 ∧ i = 11 + 17 * b + w ∧ k = 8 + 3 * b ∧ j = w) ∨ (∃ b w, b < 6 ∧ w < 6 ∧ i = 16 + 17 * b + w ∧ k = 9 + 3 * b ∧ j = w) ∨ (∃ b w, b < 6 ∧ w < 6 ∧ i = 22 + 17 * b + w ∧ k = 10 + 3 * b ∧ j = w) ∨
  (∃ r, r < 12 ∧ i = 113 + 2 * r ∧ k = 2 ∧ j = r) ∨ (∃ r, r < 12 ∧ i = 114 + 2 * r ∧ k = 3 ∧ j = r) ∨ (∃ t w, t < 4 ∧ w < 4 ∧ i = 137 + 4 * t + w ∧ k = 26 + t ∧ j = w) ∨ (∃ q, q < 24 ∧ i = 213 + q ∧ k = 7 ∧ j = q)
/-- it is alive: such a bunk, man of the roster, number that waits, there is -/
def Lv (S : st_T) (i : Nat) : Prop := (∀ b, b < 6 → 11 + 17 * b ≤ i → i < 28 + 17 * b → b < cr S) ∧ (∀ r, r < 12 → 113 + 2 * r ≤ i → i < 115 + 2 * r → r < en S) ∧ ∀ q, q < 24 → i = 213 + q → q < wt S
theorem Lc_fn {i k j k' j' : Nat} (h1 : Lc i k j) (h2 : Lc i k' j') : k = k' ∧ j = j' := by
  rcases h1 with ⟨rfl, h1⟩ | ⟨b, w, hb, hw, rfl, rfl, rfl⟩ | ⟨b, w, hb, hw, rfl, rfl, rfl⟩ | ⟨b, w, hb, hw, rfl, rfl, rfl⟩ | ⟨r, hr, rfl, rfl, rfl⟩ | ⟨r, hr, rfl, rfl, rfl⟩ | ⟨t, w, ht, hw, rfl, rfl, rfl⟩ | ⟨q, hq, rfl, rfl, rfl⟩ <;>
  rcases h2 with ⟨rfl, h2⟩ | ⟨b', w', hb', hw', e, rfl, rfl⟩ | ⟨b', w', hb', hw', e, rfl, rfl⟩ | ⟨b', w', hb', hw', e, rfl, rfl⟩ | ⟨r', hr', e, rfl, rfl⟩ | ⟨r', hr', e, rfl, rfl⟩ | ⟨t', w', ht', hw', e, rfl, rfl⟩ | ⟨q', hq', e, rfl, rfl⟩ <;> omega
theorem Lc_in {i i' k j : Nat} (h1 : Lc i k j) (h2 : Lc i' k j) : i = i' := by
  rcases h1 with ⟨rfl, h1⟩ | ⟨b, w, hb, hw, rfl, rfl, rfl⟩ | ⟨b, w, hb, hw, rfl, rfl, rfl⟩ | ⟨b, w, hb, hw, rfl, rfl, rfl⟩ | ⟨r, hr, rfl, rfl, rfl⟩ | ⟨r, hr, rfl, rfl, rfl⟩ | ⟨t, w, ht, hw, rfl, rfl, rfl⟩ | ⟨q, hq, rfl, rfl, rfl⟩ <;>
  rcases h2 with ⟨e1, h2⟩ | ⟨b', w', hb', hw', e, e1, e2⟩ | ⟨b', w', hb', hw', e, e1, e2⟩ | ⟨b', w', hb', hw', e, e1, e2⟩ | ⟨r', hr', e, e1, e2⟩ | ⟨r', hr', e, e1, e2⟩ | ⟨t', w', ht', hw', e, e1, e2⟩ | ⟨q', hq', e, e1, e2⟩ <;> omega
theorem Lc_k {i k j : Nat} (h1 : Lc i k j) : k < 30 ∧ k ≠ 5 := by
  rcases h1 with ⟨rfl, h1⟩ | ⟨b, w, hb, hw, rfl, rfl, rfl⟩ | ⟨b, w, hb, hw, rfl, rfl, rfl⟩ | ⟨b, w, hb, hw, rfl, rfl, rfl⟩ | ⟨r, hr, rfl, rfl, rfl⟩ | ⟨r, hr, rfl, rfl, rfl⟩ | ⟨t, w, ht, hw, rfl, rfl, rfl⟩ | ⟨q, hq, rfl, rfl, rfl⟩ <;> omega
theorem Lv_eq {S S' : st_T} {i : Nat} (e0 : S' 0 = S 0) (e1 : S' 1 = S 1) (e8 : S' 8 = S 8) : Lv S' i = Lv S i := by
  unfold Lv cr en wt
  rw [e0, e1, e8]
theorem Lv_ss {S : st_T} {i0 i : Nat} {v : Int32} (h : i0 ≠ 0 ∧ i0 ≠ 1 ∧ i0 ≠ 8) : Lv (ss S i0 v) i = Lv S i := Lv_eq (ss_n (Ne.symm h.1)) (ss_n (Ne.symm h.2.1)) (ss_n (Ne.symm h.2.2))
/-- the ship's ints agree -/
def RI (h : hp_T) (p : Nat) (S : st_T) : Prop := ∀ i k j, Lc i k j → Lv S i → hp_i h (p + k) j = S i
theorem RI.upd {h : hp_T} {p : Nat} {S S' : st_T} {i0 k0 j0 : Nat} {v : Int32} (hR : RI h p S) (hL : Lc i0 k0 j0) (e0 : S' i0 = v) (e : ∀ i, i ≠ i0 → Lv S' i → S' i = S i ∧ Lv S i) : RI (hp_si h (p + k0) j0 v) p S' := by
  intro i k j hi hv
  rw [hp_i_si]
  by_cases hii : i = i0
  · subst hii
    obtain ⟨rfl, rfl⟩ := Lc_fn hi hL
    rw [if_pos ⟨rfl, rfl⟩, e0]
  · rw [if_neg (fun ⟨x1, x2⟩ => hii (by
      have hk : k = k0 := by omega
      subst hk; subst x2
      exact Lc_in hi hL)), hR i k j hi (e i hii hv).2, (e i hii hv).1]
/-- one place is written in both -/
theorem RI.wss {h : hp_T} {p : Nat} {S : st_T} {i0 k0 j0 : Nat} {v : Int32} (hR : RI h p S) (hL : Lc i0 k0 j0) (hi : i0 ≠ 0 ∧ i0 ≠ 1 ∧ i0 ≠ 8) : RI (hp_si h (p + k0) j0 v) p (ss S i0 v) :=
  hR.upd hL ss_i fun i hi0 hv => ⟨ss_n hi0, by rw [← Lv_ss hi]; exact hv⟩
theorem RI.keep {h h1 : hp_T} {p : Nat} {S : st_T} (hR : RI h p S) (e : ∀ k j, k < 30 → k ≠ 5 → hp_i h1 (p + k) j = hp_i h (p + k) j) : RI h1 p S := fun i k j hi hv => by rw [e k j (Lc_k hi).1 (Lc_k hi).2]; exact hR i k j hi hv
section RD
variable {h : hp_T} {p : Nat} {S : st_T}
theorem Lv_lo {i : Nat} (hi : i < 11) : Lv S i := ⟨fun b _ _ _ => by omega, fun r _ _ _ => by omega, fun q _ _ => by omega⟩
theorem Lv_task {i : Nat} (h1 : 137 ≤ i) (h2 : i < 213) : Lv S i := ⟨fun b _ _ _ => by omega, fun r _ _ _ => by omega, fun q _ _ => by omega⟩
theorem Lv_bunk {b w : Nat} (hb : b < cr S) (h6 : b < 6) (hw : w < 17) : Lv S (11 + 17 * b + w) := ⟨fun b' _ _ _ => Nat.lt_of_le_of_lt (show b' ≤ b by omega) hb, fun r _ _ _ => by omega, fun q _ _ => by omega⟩
theorem RI.crew (hR : RI h p S) : hp_i h p 1 = S 0 := hR 0 0 1 (Or.inl ⟨rfl, by omega⟩) (Lv_lo (by omega))
theorem RI.enl (hR : RI h p S) : hp_i h p 4 = S 1 := hR 1 0 4 (Or.inl ⟨rfl, by omega⟩) (Lv_lo (by omega))
theorem RI.next (hR : RI h p S) : hp_i h p 5 = S 2 := hR 2 0 5 (Or.inl ⟨rfl, by omega⟩) (Lv_lo (by omega))
theorem RI.day (hR : RI h p S) : hp_i h p 8 = S 3 := hR 3 0 8 (Or.inl ⟨rfl, by omega⟩) (Lv_lo (by omega))
theorem RI.book (hR : RI h p S) : hp_i h p 6 = S 4 := hR 4 0 6 (Or.inl ⟨rfl, by omega⟩) (Lv_lo (by omega))
theorem RI.mis (hR : RI h p S) : hp_i h p 9 = S 5 := hR 5 0 9 (Or.inl ⟨rfl, by omega⟩) (Lv_lo (by omega))
theorem RI.z (hR : RI h p S) : hp_i h p 10 = S 6 := hR 6 0 10 (Or.inl ⟨rfl, by omega⟩) (Lv_lo (by omega))
theorem RI.taped (hR : RI h p S) : hp_i h p 12 = S 7 := hR 7 0 12 (Or.inl ⟨rfl, by omega⟩) (Lv_lo (by omega))
theorem RI.wait (hR : RI h p S) : hp_i h p 15 = S 8 := hR 8 0 15 (Or.inl ⟨rfl, by omega⟩) (Lv_lo (by omega))
theorem RI.bk (hR : RI h p S) {b : Nat} (w : Nat) (hb : b < cr S) (h6 : b < 6) (hw : w < 5) : hp_i h (p + 8 + 3 * b) w = S (11 + 17 * b + w) := by
  rw [Nat.add_assoc]
  exact hR _ _ _ (Or.inr (Or.inl ⟨b, w, h6, hw, rfl, rfl, rfl⟩)) (Lv_bunk hb h6 (by omega))
theorem RI.bk0 (hR : RI h p S) {b : Nat} (hb : b < cr S) (h6 : b < 6) : hp_i h (p + 8 + 3 * b) 0 = S (11 + 17 * b) := hR.bk 0 hb h6 (by omega)
theorem RI.ver (hR : RI h p S) {b k : Nat} (hb : b < cr S) (h6 : b < 6) (hk : k < 6) : hp_i h (p + 8 + 3 * b + 1) k = S (11 + 17 * b + 5 + k) := by
  have e : p + 8 + 3 * b + 1 = p + (9 + 3 * b) := by omega
  have e2 : 11 + 17 * b + 5 + k = 11 + 17 * b + (5 + k) := by omega
  rw [e, e2]
  exact hR _ _ _ (Or.inr (Or.inr (Or.inl ⟨b, k, h6, hk, by omega, rfl, rfl⟩))) (Lv_bunk hb h6 (by omega))
theorem RI.les (hR : RI h p S) {b k : Nat} (hb : b < cr S) (h6 : b < 6) (hk : k < 6) : hp_i h (p + 8 + 3 * b + 2) k = S (11 + 17 * b + 11 + k) := by
  have e : p + 8 + 3 * b + 2 = p + (10 + 3 * b) := by omega
  have e2 : 11 + 17 * b + 11 + k = 11 + 17 * b + (11 + k) := by omega
  rw [e, e2]
  exact hR _ _ _ (Or.inr (Or.inr (Or.inr (Or.inl ⟨b, k, h6, hk, by omega, rfl, rfl⟩)))) (Lv_bunk hb h6 (by omega))
theorem RI.km (hR : RI h p S) {r : Nat} (hr : r < en S) (h12 : r < 12) : hp_i h (p + 2) r = S (113 + 2 * r) :=
  hR _ _ _ (Or.inr (Or.inr (Or.inr (Or.inr (Or.inl ⟨r, h12, rfl, rfl, rfl⟩))))) ⟨fun b _ _ _ => by omega, fun r' _ _ _ => Nat.lt_of_le_of_lt (show r' ≤ r by omega) hr, fun q _ _ => by omega⟩
theorem RI.br (hR : RI h p S) {r : Nat} (hr : r < en S) (h12 : r < 12) : hp_i h (p + 3) r = S (114 + 2 * r) :=
  hR _ _ _ (Or.inr (Or.inr (Or.inr (Or.inr (Or.inr (Or.inl ⟨r, h12, rfl, rfl, rfl⟩)))))) ⟨fun b _ _ _ => by omega, fun r' _ _ _ => Nat.lt_of_le_of_lt (show r' ≤ r by omega) hr, fun q _ _ => by omega⟩
theorem RI.tk (hR : RI h p S) {t : Nat} (w : Nat) (ht : t < 4) (hw : w < 4) : hp_i h (p + 26 + t) w = S (137 + 4 * t + w) := by
  rw [Nat.add_assoc]
  exact hR _ _ _ (Or.inr (Or.inr (Or.inr (Or.inr (Or.inr (Or.inr (Or.inl ⟨t, w, ht, hw, rfl, rfl, rfl⟩))))))) (Lv_task (by omega) (by omega))
theorem RI.tk0 (hR : RI h p S) {t : Nat} (ht : t < 4) : hp_i h (p + 26 + t) 0 = S (137 + 4 * t) := hR.tk 0 ht (by omega)
theorem RI.wts (hR : RI h p S) {q : Nat} (hq : q < wt S) (h24 : q < 24) : hp_i h (p + 7) q = S (213 + q) :=
  hR _ _ _ (Or.inr (Or.inr (Or.inr (Or.inr (Or.inr (Or.inr (Or.inr ⟨q, h24, rfl, rfl, rfl⟩))))))) ⟨fun b _ _ _ => by omega, fun r _ _ _ => by omega, fun q' _ _ => Nat.lt_of_le_of_lt (show q' ≤ q by omega) hq⟩
/-! writes -/
theorem RI.w0 {v : Int32} (hR : RI h p S) (i j : Nat) (hL : Lc i 0 j) (hi : i ≠ 0 ∧ i ≠ 1 ∧ i ≠ 8) : RI (hp_si h p j v) p (ss S i v) := hR.wss (k0 := 0) hL hi
theorem RI.wbk {v : Int32} (hR : RI h p S) {b : Nat} (w : Nat) (h6 : b < 6) (hw : w < 5) : RI (hp_si h (p + 8 + 3 * b) w v) p (ss S (11 + 17 * b + w) v) := by
  rw [Nat.add_assoc]
  exact hR.wss (Or.inr (Or.inl ⟨b, w, h6, hw, rfl, rfl, rfl⟩)) (by omega)
theorem RI.wver {v : Int32} (hR : RI h p S) {b k : Nat} (h6 : b < 6) (hk : k < 6) : RI (hp_si h (p + 8 + 3 * b + 1) k v) p (ss S (11 + 17 * b + 5 + k) v) := by
  have e : p + 8 + 3 * b + 1 = p + (9 + 3 * b) := by omega
  rw [e]
  exact hR.wss (Or.inr (Or.inr (Or.inl ⟨b, k, h6, hk, by omega, rfl, rfl⟩))) (by omega)
theorem RI.wles {v : Int32} (hR : RI h p S) {b k : Nat} (h6 : b < 6) (hk : k < 6) : RI (hp_si h (p + 8 + 3 * b + 2) k v) p (ss S (11 + 17 * b + 11 + k) v) := by
  have e : p + 8 + 3 * b + 2 = p + (10 + 3 * b) := by omega
  rw [e]
  exact hR.wss (Or.inr (Or.inr (Or.inr (Or.inl ⟨b, k, h6, hk, by omega, rfl, rfl⟩)))) (by omega)
theorem RI.wtk {v : Int32} (hR : RI h p S) {t : Nat} (w : Nat) (ht : t < 4) (hw : w < 4) : RI (hp_si h (p + 26 + t) w v) p (ss S (137 + 4 * t + w) v) := by
  rw [Nat.add_assoc]
  exact hR.wss (Or.inr (Or.inr (Or.inr (Or.inr (Or.inr (Or.inr (Or.inl ⟨t, w, ht, hw, rfl, rfl, rfl⟩))))))) (by omega)
end RD
