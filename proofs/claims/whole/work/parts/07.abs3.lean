/-! ===== fields, arrays, statics ===== -/
section AB
variable {l : Launch} {G : ab_G} {F : ab_F} {R : Room} {cc : ByteArray} {nL : Nat} {own : String} {ret : Option FieldType} {nm : String} {Q : State → Prop} {k n : Nat} {h : hp_T} {lv : List (Nat × Value)} {st : List Value} {pc : Nat} {post : Option Value → hp_T → Prop}
theorem ab_getV (C : ab_C G F R cc nL own ret nm) {a idx ci j : Nat} {ty : FieldType} {fin wr : Bool} (f : ab_fld own idx ci j ty fin wr) (ht : ab_k a = ci) (hn : a < hp_n h) (hd : decode cc pc = .ok (.getfield idx, 3)) (kk : ab_W l G F nL Q k n h lv (ab_v G h a j :: st) (pc + 3)) : ab_W l G F nL Q k n h lv (.ref (G.1 + a) :: st) pc := by
  obtain ⟨p, e, R', s, m, args, below, meth, c⟩ := F
  obtain ⟨hR, hx, hb, hml, hown, hts, hU, hr, hlk, hnm, hB⟩ := C
  intro H locs ls hP hS hl
  obtain ⟨CN, T, N, t0, ⟨hc9, hc, hin, hnf, hty, hnd, hdf⟩, hj, hw, hty0, hfin, hdc⟩ := f
  have hat := hP.2 a hn
  rw [ab_e_o ht hc9] at hat
  exact va_get hx hb hts hin hown hU.1.1 (ab_at1 hat) 0 rfl hc j hj (hts _ hw) (fun _ z => z) (ab_o_get ht (by rw [hnf]; exact hj)) hd (kk H locs ls hP hS hl)
theorem ab_getI (C : ab_C G F R cc nL own ret nm) {a idx ci j : Nat} {ty : FieldType} {fin wr : Bool} (f : ab_fld own idx ci j ty fin wr) (hr : ab_rf ci j = false) (ht : ab_k a = ci) (hn : a < hp_n h) (hd : decode cc pc = .ok (.getfield idx, 3)) (kk : ab_W l G F nL Q k n h lv (.int (hp_i h a j) :: st) (pc + 3)) : ab_W l G F nL Q k n h lv (.ref (G.1 + a) :: st) pc := by
  refine ab_getV C f ht hn hd ?_
  have e : ab_v G h a j = .int (hp_i h a j) := by simp [ab_v, ht, hr]
  rw [e]
  exact kk
theorem ab_getR (C : ab_C G F R cc nL own ret nm) {a idx ci j q : Nat} {ty : FieldType} {fin wr : Bool} (f : ab_fld own idx ci j ty fin wr) (hr : ab_rf ci j = true) (ht : ab_k a = ci) (hn : a < hp_n h) (hv : hp_r h a j = some q) (hd : decode cc pc = .ok (.getfield idx, 3)) (kk : ab_W l G F nL Q k n h lv (.ref (G.1 + q) :: st) (pc + 3)) : ab_W l G F nL Q k n h lv (.ref (G.1 + a) :: st) pc := by
  refine ab_getV C f ht hn hd ?_
  have e : ab_v G h a j = .ref (G.1 + q) := by simp [ab_v, ht, hr, hv, va_rf]
  rw [e]
  exact kk
theorem ab_putI (C : ab_C G F R cc nL own ret nm) {a idx ci j : Nat} {ty : FieldType} {v : Int32} (f : ab_fld own idx ci j ty false true) (hrf : ab_rf ci j = false) (ht : ab_k a = ci) (hn : a < hp_n h) (hnar : narrow ty (.int v) = .int v) (hfit : fits ty (.int v) = true) (hd : decode cc pc = .ok (.putfield idx, 3)) (kk : ∀ h1, h1 = hp_si h a j v → ab_W l G F nL Q k n h1 lv st (pc + 3)) : ab_W l G F nL Q k n h lv (.int v :: .ref (G.1 + a) :: st) pc := by
  obtain ⟨p, e, R', s, m, args, below, meth, c⟩ := F
  obtain ⟨hR, hx, hb, hml, hown, hts, hU, hr, hlk, hnm, hB⟩ := C
  intro H locs ls hP hS hl
  obtain ⟨CN, T, N, t0, ⟨hc9, hc, hin, hnf, hty, hnd, hdf⟩, hj, hw, hty0, hfin, hdc⟩ := f
  have hat := hP.2 a hn
  rw [ab_e_o ht hc9] at hat
  have hap := va_apart (own := own) hts hin t0 hty hnd hU.1.1 hc
  obtain ⟨r, h1, cell, q1, q2, q3, q4⟩ := hat
  have hr1 : r = (CN, T, N) := Option.some.inj (h1.symm.trans hc)
  subst hr1
  obtain ⟨hSl, hfc, kC, hkC, hkind⟩ := hU.1.1.1 ci _ hc
  obtain ⟨cf, kf, fi, fd, hi, hsl⟩ := hSl j hj
  have hlay := hts _ (hin _ (u_in_lay hj))
  unfold u_lay at hlay
  rw [if_neg (by rw [hfin]; decide)] at hlay
  have hst := (u_facts hfc hkC (u_lays hts hin hj) hi).1
  have h6 := u_store hfc hkC hkind hlay hi (by rw [hty j hj, hty0]) hnar hfit
  refine W.putK hx hb (f := fd) ⟨hown, hts _ hw, ⟨_, _, _, hi⟩, hst⟩ (by rw [q2]; exact h6) q1 q3 (by rw [hsl]; exact k2_hasslot (q4 j hj)) rfl rfl hd fun H' e1 e2 e3 => ?_
  rw [hsl] at e1 ⊢
  refine kk _ rfl H' _ ls (hP.put ab_si_n e2 e3 ?_ (fun b hb => ab_si_ne hb)) (hS.put e2 e3 (Nat.le_add_right _ _)) hl
  rw [ab_e_o ht hc9, ab_si_o ht (by rw [hnf]; exact hj) hrf]
  exact ⟨_, hc, t_OB.to (V := updV (vp_V (ab_o G h a)) j (.int v)) ⟨_, e1, q2, q3, t_set q4 hap hj _⟩ (fun x _ => vp_updV_set (by rw [ab_o_len, ht, hnf]; exact hj) _ x)⟩
theorem ab_putR (C : ab_C G F R cc nL own ret nm) {a idx ci j q : Nat} {ty : FieldType} {fin : Bool} (f : ab_fld own idx ci j ty fin true) (hrf : ab_rf ci j = true) (hi0 : fin = true → nm = "<init>") (ht : ab_k a = ci) (hn : a < hp_n h) (hnar : ∀ x : Nat, narrow ty (.ref x) = .ref x) (hfit : ∀ x : Nat, fits ty (.ref x) = true) (hd : decode cc pc = .ok (.putfield idx, 3)) (kk : ∀ h1, h1 = hp_sr h a j (some q) → ab_W l G F nL Q k n h1 lv st (pc + 3)) : ab_W l G F nL Q k n h lv (.ref (G.1 + q) :: .ref (G.1 + a) :: st) pc := by
  obtain ⟨p, e, R', s, m, args, below, meth, c⟩ := F
  obtain ⟨hR, hx, hb, hml, hown, hts, hU, hr, hlk, hnm, hB⟩ := C
  intro H locs ls hP hS hl
  obtain ⟨CN, T, N, t0, ⟨hc9, hc, hin, hnf, hty, hnd, hdf⟩, hj, hw, hty0, hfin, hdc⟩ := f
  have hat := hP.2 a hn
  rw [ab_e_o ht hc9] at hat
  have hap := va_apart (own := own) hts hin t0 hty hnd hU.1.1 hc
  obtain ⟨r, h1, cell, q1, q2, q3, q4⟩ := hat
  have hr1 : r = (CN, T, N) := Option.some.inj (h1.symm.trans hc)
  subst hr1
  obtain ⟨hSl, hfc, kC, hkC, hkind⟩ := hU.1.1.1 ci _ hc
  obtain ⟨cf, kf, fi, fd, hi, hsl⟩ := hSl j hj
  have hlay := hts _ (hin _ (u_in_lay hj))
  have hst := (u_facts hfc hkC (u_lays hts hin hj) hi).1
  have key : ∀ H' : Heap, H'[G.1 + a]? = some (cell.setSlot fd.slot (.ref (G.1 + q))) → H'.size = H.size → (∀ x, x ≠ G.1 + a → H'[x]? = H[x]?) → W p l e R' s m args below meth c H' (locs ++ [⟨G.1 + a, fd.slot⟩]) k n Q (F0 m (pc + 3) ls st) := by
    intro H' e1 e2 e3
    rw [hsl] at e1 ⊢
    refine kk _ rfl H' _ ls (hP.put ab_sr_n e2 e3 ?_ (fun b hb => ab_sr_ne hb)) (hS.put e2 e3 (Nat.le_add_right _ _)) hl
    rw [ab_e_o ht hc9, ab_sr_o ht (by rw [hnf]; exact hj) hrf]
    exact ⟨_, hc, t_OB.to (V := updV (vp_V (ab_o G h a)) j (.ref (G.1 + q))) ⟨_, e1, q2, q3, t_set q4 hap hj _⟩ (fun x _ => vp_updV_set (by rw [ab_o_len, ht, hnf]; exact hj) _ x)⟩
  unfold u_lay at hlay
  cases fin with
  | false =>
    rw [if_neg (by rw [hfin]; decide)] at hlay
    have h6 := u_store hfc hkC hkind hlay hi (by rw [hty j hj, hty0]) (hnar (G.1 + q)) (hfit (G.1 + q))
    exact W.putK hx hb (f := fd) ⟨hown, hts _ hw, ⟨_, _, _, hi⟩, hst⟩ (by rw [q2]; exact h6) q1 q3 (by rw [hsl]; exact k2_hasslot (q4 j hj)) rfl rfl hd key
  | true =>
    rw [if_pos hfin] at hlay
    have hcf : m.cls = cf := by
      obtain ⟨_, _, c', _, _, _, -, -, hf', -, -, -, hown2, -⟩ := Cond.laysFinal_spec hlay
      have e1 : c' = cf := by have := hi.symm.trans hf'; simp at this; exact this.1.symm
      rw [hdc rfl rfl] at hown2
      rw [← e1]; exact Option.some.inj (hown.symm.trans hown2)
    have h6 := u_fits hfc hkC hkind (Or.inr hlay) hi (by rw [hty j hj, hty0]) (hnar (G.1 + q)) (hfit (G.1 + q))
    exact W.putFinK hx hb hown (hts _ hw) hi hst hcf (by rw [hnm]; exact hi0 rfl) (by rw [q2]; exact h6) q1 q3 (by rw [hsl]; exact k2_hasslot (q4 j hj)) rfl rfl hd key
theorem ab_iald (C : ab_C G F R cc nL own ret nm) {a N : Nat} {i : Int32} (ht : 16 ≤ ab_k a) (hn : a < hp_n h) (hL : hp_l h a = N) (hin : vp_in i N) {j : Nat} (hj : i.toNatClampNeg = j) (hd : decode cc pc = .ok (.iaload, 1)) (kk : ab_W l G F nL Q k n h lv (.int (hp_i h a j) :: st) (pc + 1)) : ab_W l G F nL Q k n h lv (.int i :: .ref (G.1 + a) :: st) pc := by
  subst hj
  obtain ⟨p, e, R', s, m, args, below, meth, c⟩ := F
  obtain ⟨hR, hx, hb, hml, hown, hts, hU, hr, hlk, hnm, hB⟩ := C
  intro H locs ls hP hS hl
  subst hL
  have hat := hP.2 a hn
  rw [ab_e_i ht] at hat
  exact va_iald hx hb hU.1.1 (ab_at1 hat) 0 0 rfl rfl hin hd (kk H locs ls hP hS hl)
theorem ab_bald (C : ab_C G F R cc nL own ret nm) {a N : Nat} {i : Int32} (ht : ab_k a = 11) (hn : a < hp_n h) (hL : hp_l h a = N) (hin : vp_in i N) {j : Nat} (hj : i.toNatClampNeg = j) (hd : decode cc pc = .ok (.baload, 1)) (kk : ab_W l G F nL Q k n h lv (.int (hp_i h a j) :: st) (pc + 1)) : ab_W l G F nL Q k n h lv (.int i :: .ref (G.1 + a) :: st) pc := by
  subst hj
  obtain ⟨p, e, R', s, m, args, below, meth, c⟩ := F
  obtain ⟨hR, hx, hb, hml, hown, hts, hU, hr, hlk, hnm, hB⟩ := C
  intro H locs ls hP hS hl
  subst hL
  have hat := hP.2 a hn
  rw [ab_e_b ht] at hat
  exact va_bald hx hb hU.1.1 (ab_at1 hat) 0 1 rfl rfl hin hd (kk H locs ls hP hS hl)
theorem ab_aald (C : ab_C G F R cc nL own ret nm) {a N ca : Nat} {i : Int32} (ht : ab_k a = ca) (hca : ca = 12 ∨ ca = 13 ∨ ca = 14 ∨ ca = 15) (hn : a < hp_n h) (hL : hp_l h a = N) (hin : vp_in i N) {j : Nat} (hj : i.toNatClampNeg = j) (hd : decode cc pc = .ok (.aaload, 1)) (kk : ab_W l G F nL Q k n h lv (va_rf ((hp_r h a j).map (fun q => G.1 + q)) :: st) (pc + 1)) : ab_W l G F nL Q k n h lv (.int i :: .ref (G.1 + a) :: st) pc := by
  subst hj
  obtain ⟨p, e, R', s, m, args, below, meth, c⟩ := F
  obtain ⟨hR, hx, hb, hml, hown, hts, hU, hr, hlk, hnm, hB⟩ := C
  intro H locs ls hP hS hl
  subst hL
  have hat := hP.2 a hn
  rcases hca with rfl | rfl | rfl | rfl
  · rw [ab_e_q ht (by decide) (by decide)] at hat
    exact va_aldq hx hb hU.1.1 (ab_at1 hat) 0 2 rfl rfl hin hd (kk H locs ls hP hS hl)
  · rw [ab_e_q ht (by decide) (by decide)] at hat
    exact va_aldq hx hb hU.1.1 (ab_at1 hat) 0 3 rfl rfl hin hd (kk H locs ls hP hS hl)
  · rw [ab_e_q ht (by decide) (by decide)] at hat
    exact va_aldq hx hb hU.1.1 (ab_at1 hat) 0 4 rfl rfl hin hd (kk H locs ls hP hS hl)
  · rw [ab_e_q ht (by decide) (by decide)] at hat
    exact va_aldq hx hb hU.1.1 (ab_at1 hat) 0 5 rfl rfl hin hd (kk H locs ls hP hS hl)
theorem ab_aaldR (C : ab_C G F R cc nL own ret nm) {a N ca q : Nat} {i : Int32} (ht : ab_k a = ca) (hca : ca = 12 ∨ ca = 13 ∨ ca = 14 ∨ ca = 15) (hn : a < hp_n h) (hL : hp_l h a = N) (hin : vp_in i N) {j : Nat} (hj : i.toNatClampNeg = j) (hv : hp_r h a j = some q) (hd : decode cc pc = .ok (.aaload, 1)) (kk : ab_W l G F nL Q k n h lv (.ref (G.1 + q) :: st) (pc + 1)) : ab_W l G F nL Q k n h lv (.int i :: .ref (G.1 + a) :: st) pc :=
  ab_aald C ht hca hn hL hin hj hd (by rw [hv]; exact kk)
theorem ab_aaldQ (C : ab_C G F R cc nL own ret nm) {a N ca : Nat} {i : Int32} (ht : ab_k a = ca) (hca : ca = 12 ∨ ca = 13 ∨ ca = 14 ∨ ca = 15) (hn : a < hp_n h) (hL : hp_l h a = N) (hin : vp_in i N) {j : Nat} (hj : i.toNatClampNeg = j) (hd : decode cc pc = .ok (.aaload, 1)) (k0 : hp_r h a j = none → ab_W l G F nL Q k n h lv (.null :: st) (pc + 1)) (k1 : ∀ q, hp_r h a j = some q → ab_W l G F nL Q k n h lv (.ref (G.1 + q) :: st) (pc + 1)) : ab_W l G F nL Q k n h lv (.int i :: .ref (G.1 + a) :: st) pc := by
  subst hj
  refine ab_aald C ht hca hn hL hin rfl hd ?_
  cases hv : hp_r h a i.toNatClampNeg with
  | none => exact k0 hv
  | some q => exact k1 q hv
theorem ab_alen (C : ab_C G F R cc nL own ret nm) {a N : Nat} (ht : 16 ≤ ab_k a ∨ ab_k a = 11) (hn : a < hp_n h) (hL : hp_l h a = N) (hd : decode cc pc = .ok (.arraylength, 1)) (kk : ab_W l G F nL Q k n h lv (.int (nI N) :: st) (pc + 1)) : ab_W l G F nL Q k n h lv (.ref (G.1 + a) :: st) pc := by
  obtain ⟨p, e, R', s, m, args, below, meth, c⟩ := F
  obtain ⟨hR, hx, hb, hml, hown, hts, hU, hr, hlk, hnm, hB⟩ := C
  intro H locs ls hP hS hl
  subst hL
  have hat := hP.2 a hn
  rcases ht with ht | ht
  · rw [ab_e_i ht] at hat
    exact va_alen hx hb hU.1.1 (ab_at1 hat) 0 0 rfl rfl rfl hd (kk H locs ls hP hS hl)
  · rw [ab_e_b ht] at hat
    exact va_alen hx hb hU.1.1 (ab_at1 hat) 0 1 rfl rfl rfl hd (kk H locs ls hP hS hl)
theorem ab_upd_eq (h : hp_T) (a i : Nat) (x : Int32) : (fun q => updV (fun j => .int (hp_i h a j)) i (.int x) q) = fun q => Value.int (hp_i (hp_si h a i x) a q) := by
  funext q
  by_cases hq : q = i
  · subst hq
    simp [updV, hp_si, hp_i]
  · simp [updV, hp_si, hp_i, hq]
theorem ab_iast (C : ab_C G F R cc nL own ret nm) {a N : Nat} {i x : Int32} (ht : 16 ≤ ab_k a) (hn : a < hp_n h) (hL : hp_l h a = N) (hin : vp_in i N) {j : Nat} (hj : i.toNatClampNeg = j) (hd : decode cc pc = .ok (.iastore, 1)) (kk : ∀ h1, h1 = hp_si h a j x → ab_W l G F nL Q k n h1 lv st (pc + 1)) : ab_W l G F nL Q k n h lv (.int x :: .int i :: .ref (G.1 + a) :: st) pc := by
  subst hj
  obtain ⟨p, e, R', s, m, args, below, meth, c⟩ := F
  obtain ⟨hR, hx, hb, hml, hown, hts, hU, hr, hlk, hnm, hB⟩ := C
  intro H locs ls hP hS hl
  subst hL
  have hat := hP.2 a hn
  rw [ab_e_i ht] at hat
  refine W.iast hx hb hat ((hU.1.1.2 0 _ rfl).1 (hp_l h a) (fun j => .int (hp_i h a j))) (fun q => by cases q) (by show ¬ (i < 0 ∨ (arrV _ _ _).slots.size ≤ _); rw [arrV_size]; exact hin) rfl rfl hd fun H1 e1 z oq => ?_
  refine kk _ rfl H1 _ ls (hP.put ab_si_n z oq ?_ (fun b hb => ab_si_ne hb)) (hS.put z oq (Nat.le_add_right _ _)) hl
  rw [ab_e_i ht]
  show H1[G.1 + a]? = some (vp_cell _ _)
  rw [e1, vp_cell_i, vp_cell_i, arrV_store, ← ab_upd_eq]
  rfl
theorem ab_bast (C : ab_C G F R cc nL own ret nm) {a N : Nat} {i x : Int32} (ht : ab_k a = 11) (hn : a < hp_n h) (hL : hp_l h a = N) (hin : vp_in i N) {j : Nat} (hj : i.toNatClampNeg = j) (hd : decode cc pc = .ok (.bastore, 1)) (kk : ∀ h1, h1 = hp_si h a j (vp_nar .byte x) → ab_W l G F nL Q k n h1 lv st (pc + 1)) : ab_W l G F nL Q k n h lv (.int x :: .int i :: .ref (G.1 + a) :: st) pc := by
  subst hj
  obtain ⟨p, e, R', s, m, args, below, meth, c⟩ := F
  obtain ⟨hR, hx, hb, hml, hown, hts, hU, hr, hlk, hnm, hB⟩ := C
  intro H locs ls hP hS hl
  subst hL
  have hat := hP.2 a hn
  rw [ab_e_b ht] at hat
  refine W.bast hx hb hat ((hU.1.1.2 1 _ rfl).1 (hp_l h a) (fun j => .int (hp_i h a j))) (fun q => by cases q) (by show ¬ (i < 0 ∨ (arrV _ _ _).slots.size ≤ _); rw [arrV_size]; exact hin) rfl rfl hd fun H1 e1 z oq => ?_
  refine kk _ rfl H1 _ ls (hP.put ab_si_n z oq ?_ (fun b hb => ab_si_ne hb)) (hS.put z oq (Nat.le_add_right _ _)) hl
  rw [ab_e_b ht]
  show H1[G.1 + a]? = some (vp_cell _ _)
  rw [e1, vp_cell_i, vp_cell_i, arrV_store, ← ab_upd_eq]
  rfl
/-- a reference into a row of references; null into one -/
theorem ab_updq_eq (G : ab_G) (h : hp_T) (a i : Nat) (x : Option Nat) : (fun q => updV (fun j => va_rf (ab_q G h a j)) i (va_rf (x.map (fun q => G.1 + q))) q) = fun q => va_rf (ab_q G (hp_sr h a i x) a q) := by
  funext q
  by_cases hq : q = i
  · subst hq
    simp [updV, hp_sr, ab_q, hp_r]
  · simp [updV, hp_sr, ab_q, hp_r, hq]
theorem ab_aast (C : ab_C G F R cc nL own ret nm) {a N ca ci t0 v : Nat} {CN : String} {T : u_T} {NF : Nat} {i : Int32} (ht : ab_k a = ca) (h1 : 12 ≤ ca) (h2 : ca < 16) (hty : ∀ G : ab_G, (ab_tys G)[t0]? = some (G.2.2.1 ca, .object CN)) (hc : vwCl[ci]? = some (CN, T, NF)) (hn : a < hp_n h) (hL : hp_l h a = N) (hin : vp_in i N) {j : Nat} (hj : i.toNatClampNeg = j) (hv : ab_k v = ci) (hci : ci < 9) (hvn : v < hp_n h) (hd : decode cc pc = .ok (.aastore, 1)) (kk : ∀ h1, h1 = hp_sr h a j (some v) → ab_W l G F nL Q k n h1 lv st (pc + 1)) : ab_W l G F nL Q k n h lv (.ref (G.1 + v) :: .int i :: .ref (G.1 + a) :: st) pc := by
  subst hj
  obtain ⟨p, e, R', s, m, args, below, meth, c⟩ := F
  obtain ⟨hR, hx, hb, hml, hown, hts, hU, hr, hlk, hnm, hB⟩ := C
  intro H locs ls hP hS hl
  subst hL
  have hat := hP.2 a hn
  rw [ab_e_q ht h1 h2] at hat
  have hav := hP.2 v hvn
  rw [ab_e_o hv hci] at hav
  have hlt : i.toNatClampNeg < hp_l h a := Nat.not_le.mp fun q => hin (Or.inr q)
  have h0 : ¬ i < 0 := fun q => hin (Or.inl q)
  obtain ⟨r', hr', cellV, g1, g2, g3, -⟩ := hav
  have hcls := (hU.1.1.1 ci _ hc).2
  obtain ⟨kA, comp, k1, k2, k3, -⟩ := (hU.1.1.2 t0 _ (hty G)).2
  have hcomp : comp = G.2.1.1 ci := Option.some.inj (k3.symm.trans hcls.1)
  subst hcomp
  obtain ⟨kC, hkC, -⟩ := hcls.2
  refine W.aast hx hb hat (fun q h => by cases h) (fun h => by cases h) k1 k2 rfl hkC ⟨h0, by show _ < (arrV _ _ _).slots.size; rw [arrV_size]; exact hlt⟩ g1 (fun q h => by rw [g3] at h; cases h) (by rw [g2]; exact hkC) (by rw [g2]; exact va_assign hcls) rfl rfl hd fun H1 e1 z oq => ?_
  refine kk _ rfl H1 _ ls (hP.put ab_sr_n z oq ?_ (fun b hb => ab_sr_ne hb)) (hS.put z oq (Nat.le_add_right _ _)) hl
  rw [ab_e_q ht h1 h2]
  show H1[G.1 + a]? = some (vp_cell _ _)
  rw [e1, vp_cell_q, vp_cell_q, arrV_store, ← ab_updq_eq]
  rfl
theorem ab_aastN (C : ab_C G F R cc nL own ret nm) {a N ca t0 : Nat} {CN : String} {i : Int32} (ht : ab_k a = ca) (h1 : 12 ≤ ca) (h2 : ca < 16) (hty : ∀ G : ab_G, (ab_tys G)[t0]? = some (G.2.2.1 ca, .object CN)) (hn : a < hp_n h) (hL : hp_l h a = N) (hin : vp_in i N) {j : Nat} (hj : i.toNatClampNeg = j) (hd : decode cc pc = .ok (.aastore, 1)) (kk : ∀ h1, h1 = hp_sr h a j none → ab_W l G F nL Q k n h1 lv st (pc + 1)) : ab_W l G F nL Q k n h lv (.null :: .int i :: .ref (G.1 + a) :: st) pc := by
  subst hj
  obtain ⟨p, e, R', s, m, args, below, meth, c⟩ := F
  obtain ⟨hR, hx, hb, hml, hown, hts, hU, hr, hlk, hnm, hB⟩ := C
  intro H locs ls hP hS hl
  subst hL
  have hat := hP.2 a hn
  rw [ab_e_q ht h1 h2] at hat
  refine va_WaastN (C := CN) hx hb hat ((hU.1.1.2 t0 _ (hty G)).1 (hp_l h a) (fun j => va_rf (ab_q G h a j))) (fun h => by cases h) (by show ¬ (i < 0 ∨ (arrV _ _ _).slots.size ≤ _); rw [arrV_size]; exact hin) rfl rfl hd fun H1 e1 z oq => ?_
  refine kk _ rfl H1 _ ls (hP.put ab_sr_n z oq ?_ (fun b hb => ab_sr_ne hb)) (hS.put z oq (Nat.le_add_right _ _)) hl
  rw [ab_e_q ht h1 h2]
  show H1[G.1 + a]? = some (vp_cell _ _)
  rw [e1, vp_cell_q, vp_cell_q, arrV_store, ← ab_updq_eq]
  rfl
/-! the two static rows -/
theorem ab_getsA (C : ab_C G F R cc nL own ret nm) {idx : Nat} (hw : ∀ U, ab_N U → va_Nw (.fieldLinkNest own idx RX7 "ABOVE" "[I" RX7) U) (hd : decode cc pc = .ok (.getstatic idx, 3)) (kk : ab_W l G F nL Q k n h lv (.ref G.2.2.2.1 :: st) (pc + 3)) : ab_W l G F nL Q k n h lv st pc := by
  obtain ⟨p, e, R', s, m, args, below, meth, c⟩ := F
  obtain ⟨hR, hx, hb, hml, hown, hts, hU, hr, hlk, hnm, hB⟩ := C
  intro H locs ls hP hS hl
  exact va_getsN hx hb (C := "DailyRelief") (n := "ABOVE") (d := "[I") (ref := RX7) hU.2.1.1 hS hown ((hw s hU.1.2).use rfl) (fun _ z => z) hd (kk H locs ls hP hS hl)
theorem ab_getsB (C : ab_C G F R cc nL own ret nm) {idx : Nat} (hw : Cond.fieldLink own idx "DailyRelief$Voices" "BODIES" "[I" ∈ ab_ws) (hd : decode cc pc = .ok (.getstatic idx, 3)) (kk : ab_W l G F nL Q k n h lv (.ref G.2.2.2.2 :: st) (pc + 3)) : ab_W l G F nL Q k n h lv st pc := by
  obtain ⟨p, e, R', s, m, args, below, meth, c⟩ := F
  obtain ⟨hR, hx, hb, hml, hown, hts, hU, hr, hlk, hnm, hB⟩ := C
  intro H locs ls hP hS hl
  exact va_gets hx hb (C := "DailyRelief$Voices") (n := "BODIES") (d := "[I") (ref := "DailyRelief$Voices") hU.2.2.1 hS hown (hts _ hw) (fun _ z => z) hd (kk H locs ls hP hS hl)
theorem ab_taldA (C : ab_C G F R cc nL own ret nm) {i : Int32} (hin : vp_in i 7) {j : Nat} (hj : i.toNatClampNeg = j) (hd : decode cc pc = .ok (.iaload, 1)) (kk : ab_W l G F nL Q k n h lv (.int (ab_abv j) :: st) (pc + 1)) : ab_W l G F nL Q k n h lv (.int i :: .ref G.2.2.2.1 :: st) pc := by
  subst hj
  obtain ⟨p, e, R', s, m, args, below, meth, c⟩ := F
  obtain ⟨hR, hx, hb, hml, hown, hts, hU, hr, hlk, hnm, hB⟩ := C
  intro H locs ls hP hS hl
  exact va_ti hx hb hU.2.1.2 hS hin rfl hd (kk H locs ls hP hS hl)
theorem ab_taldB (C : ab_C G F R cc nL own ret nm) {i : Int32} (hin : vp_in i 28) {j : Nat} (hj : i.toNatClampNeg = j) (hd : decode cc pc = .ok (.iaload, 1)) (kk : ab_W l G F nL Q k n h lv (.int (ab_bod j) :: st) (pc + 1)) : ab_W l G F nL Q k n h lv (.int i :: .ref G.2.2.2.2 :: st) pc := by
  subst hj
  obtain ⟨p, e, R', s, m, args, below, meth, c⟩ := F
  obtain ⟨hR, hx, hb, hml, hown, hts, hU, hr, hlk, hnm, hB⟩ := C
  intro H locs ls hP hS hl
  exact va_ti hx hb hU.2.2.2 hS hin rfl hd (kk H locs ls hP hS hl)
/-! new objects, new rows -/
theorem ab_new (C : ab_C G F R cc nL own ret nm) {idx ci : Nat} {CN : String} {T : u_T} {N : Nat} {t0 : Nat → FieldType} (hcl : ab_cls ci CN T N t0) (hw : Cond.classLink own idx CN ∈ ab_ws ∧ Cond.instantiable CN N ∈ ab_ws ∧ Cond.initialized CN ∈ ab_ws) (ht : ab_k (hp_n h) = ci) (hcells : k + 1 ≤ R.cells) (hslots : n + N ≤ R.slots) (hd : decode cc pc = .ok (.new idx, 3)) (kk : ∀ h1, h1 = hp_no h → ab_W l G F nL Q (k + 1) (n + N) h1 lv (.ref (G.1 + hp_n h) :: st) (pc + 3)) : ab_W l G F nL Q k n h lv st pc := by
  obtain ⟨p, e, R', s, m, args, below, meth, c⟩ := F
  obtain ⟨hR, hx, hb, hml, hown, hts, hU, hr, hlk, hnm, hB⟩ := C
  intro H locs ls hP hS hl
  obtain ⟨hc9, hc, hin, hnf, hty, hnd, hdf⟩ := hcl
  subst hR
  have hKn := hU.1.1.1 ci _ hc
  refine W.newcK hx hb hown (hts _ hw.1) (hts _ hw.2.1) (hts _ hw.2.2) rfl hd hcells hslots hKn.2.1 rfl fun H1 kC hkC e1 z1 o1 => ?_
  rw [hP.1]
  refine kk _ rfl H1 locs ls (hP.push ab_no_n z1 o1 ?_ (fun b hb => ab_no_ne hb)) ⟨Nat.le_trans hS.1 (by omega), fun x g1 g2 => (o1 x (Nat.lt_of_lt_of_le g1 hS.1)).trans (hS.2.1 x g1 g2), hS.2.2⟩ hl
  rw [ab_e_o ht hc9]
  rw [hP.1] at e1
  refine ⟨_, hc, (u_born t0 hts hin hKn hkC e1 hty).to ?_⟩
  intro j hj
  show _ = (ab_o G (hp_no h) (hp_n h)).getD j .null
  rw [List.getD_eq_getElem?_getD, ab_o_get ht (by rw [hnf]; exact hj), hdf j hj]
  simp only [ab_v, ht, Option.getD_some]
  have er : hp_r (hp_no h) (hp_n h) j = none := by exact if_pos rfl
  have ei : hp_i (hp_no h) (hp_n h) j = 0 := by exact if_pos rfl
  rw [er, ei]
  rfl
theorem ab_na_i (h : hp_T) (N j : Nat) : hp_i (hp_na h N) (hp_n h) j = 0 := by exact if_pos rfl
theorem ab_na_r (h : hp_T) (N j : Nat) : hp_r (hp_na h N) (hp_n h) j = none := by exact if_pos rfl
theorem ab_na_l (h : hp_T) (N : Nat) : hp_l (hp_na h N) (hp_n h) = N := by exact if_pos rfl
theorem ab_newI (C : ab_C G F R cc nL own ret nm) {i : Int32} {N : Nat} (hw : Cond.arrayClass .int ∈ ab_ws) (ht : 16 ≤ ab_k (hp_n h)) (hi : ¬ i < 0) (hN : i.toNatClampNeg = N) (hsm : N ≤ 1000) (hcells : k + 1 ≤ R.cells) (hslots : n + N ≤ R.slots) (hd : decode cc pc = .ok (.newarray .int, 2)) (kk : ∀ h1, h1 = hp_na h N → ab_W l G F nL Q (k + 1) (n + N) h1 lv (.ref (G.1 + hp_n h) :: st) (pc + 2)) : ab_W l G F nL Q k n h lv (.int i :: st) pc := by
  obtain ⟨p, e, R', s, m, args, below, meth, c⟩ := F
  obtain ⟨hR, hx, hb, hml, hown, hts, hU, hr, hlk, hnm, hB⟩ := C
  intro H locs ls hP hS hl
  subst hR
  refine va_newaK (atype := .int) hx hb (hts _ hw) rfl hd rfl hi hN (by show N * 4 ≤ 536870912; omega) hcells hslots rfl fun H1 cA e1 z1 o1 hAr hNm => ?_
  have hcA : cA = G.2.2.1 10 := Option.some.inj (hNm.symm.trans (hU.1.1.2 0 _ rfl).2)
  subst hcA
  rw [hP.1]
  refine kk _ rfl H1 locs ls (hP.push ab_na_n z1 o1 ?_ (fun b hb => ab_na_ne hb)) ⟨Nat.le_trans hS.1 (by omega), fun x g1 g2 => (o1 x (Nat.lt_of_lt_of_le g1 hS.1)).trans (hS.2.1 x g1 g2), hS.2.2⟩ hl
  rw [ab_e_i ht, ab_na_l]
  rw [hP.1] at e1
  show H1[_]? = some (vp_cell _ _)
  rw [e1, vp_cell_i, show hp_i (hp_na h N) (hp_n h) = fun _ => 0 from funext fun j => ab_na_i h N j]
  rfl
theorem ab_newB (C : ab_C G F R cc nL own ret nm) {i : Int32} {N : Nat} (hw : Cond.arrayClass .byte ∈ ab_ws) (ht : ab_k (hp_n h) = 11) (hi : ¬ i < 0) (hN : i.toNatClampNeg = N) (hsm : N ≤ 1000) (hcells : k + 1 ≤ R.cells) (hslots : n + N ≤ R.slots) (hd : decode cc pc = .ok (.newarray .byte, 2)) (kk : ∀ h1, h1 = hp_na h N → ab_W l G F nL Q (k + 1) (n + N) h1 lv (.ref (G.1 + hp_n h) :: st) (pc + 2)) : ab_W l G F nL Q k n h lv (.int i :: st) pc := by
  obtain ⟨p, e, R', s, m, args, below, meth, c⟩ := F
  obtain ⟨hR, hx, hb, hml, hown, hts, hU, hr, hlk, hnm, hB⟩ := C
  intro H locs ls hP hS hl
  subst hR
  refine va_newaK (atype := .byte) hx hb (hts _ hw) rfl hd rfl hi hN (by show N * 1 ≤ 536870912; omega) hcells hslots rfl fun H1 cA e1 z1 o1 hAr hNm => ?_
  have hcA : cA = G.2.2.1 11 := Option.some.inj (hNm.symm.trans (hU.1.1.2 1 _ rfl).2)
  subst hcA
  rw [hP.1]
  refine kk _ rfl H1 locs ls (hP.push ab_na_n z1 o1 ?_ (fun b hb => ab_na_ne hb)) ⟨Nat.le_trans hS.1 (by omega), fun x g1 g2 => (o1 x (Nat.lt_of_lt_of_le g1 hS.1)).trans (hS.2.1 x g1 g2), hS.2.2⟩ hl
  rw [ab_e_b ht, ab_na_l]
  rw [hP.1] at e1
  show H1[_]? = some (vp_cell _ _)
  rw [e1, vp_cell_i, show hp_i (hp_na h N) (hp_n h) = fun _ => 0 from funext fun j => ab_na_i h N j]
  rfl
theorem ab_newQ (C : ab_C G F R cc nL own ret nm) {idx ca t0 : Nat} {CN : String} {i : Int32} {N : Nat} (hw : Cond.classLink own idx CN ∈ ab_ws) (hover : ∀ U, ab_N U → va_AO CN U) (hty : ∀ G : ab_G, (ab_tys G)[t0]? = some (G.2.2.1 ca, .object CN)) (h1 : 12 ≤ ca) (h2 : ca < 16) (ht : ab_k (hp_n h) = ca) (hi : ¬ i < 0) (hN : i.toNatClampNeg = N) (hsm : N ≤ 1000) (hcells : k + 1 ≤ R.cells) (hslots : n + N ≤ R.slots) (hd : decode cc pc = .ok (.anewarray idx, 3)) (kk : ∀ h1, h1 = hp_na h N → ab_W l G F nL Q (k + 1) (n + N) h1 lv (.ref (G.1 + hp_n h) :: st) (pc + 3)) : ab_W l G F nL Q k n h lv (.int i :: st) pc := by
  obtain ⟨p, e, R', s, m, args, below, meth, c⟩ := F
  obtain ⟨hR, hx, hb, hml, hown, hts, hU, hr, hlk, hnm, hB⟩ := C
  intro H locs ls hP hS hl
  subst hR
  subst hN
  refine W.anew hx hb hown (hts _ hw) (va_AO.use (hover s hU.1.2)) rfl hd rfl hi (by omega) hcells hslots fun cA kA comp f1 f2 f3 f4 => ?_
  obtain ⟨kA', comp', k1, k2, k3, k4⟩ := (hU.1.1.2 t0 _ (hty G)).2
  have hcA : cA = G.2.2.1 ca := Option.some.inj (f1.symm.trans k4)
  subst hcA
  generalize hH1 : H.push ({ cls := G.2.2.1 ca, slots := Array.replicate i.toNatClampNeg .null, vm := .none } : Cell) = H1
  have z1 : H1.size = H.size + 1 := by rw [← hH1, Array.size_push]
  have e1 : H1[H.size]? = some (arrV (G.2.2.1 ca) i.toNatClampNeg (fun _ => .null)) := by rw [← hH1, Array.getElem?_push_size, ← arrV_new]
  have o1 : ∀ q : Nat, q < H.size → H1[q]? = H[q]? := fun q hq => by rw [← hH1, Array.getElem?_push, if_neg (Nat.ne_of_lt hq)]
  rw [hP.1]
  refine kk _ rfl H1 locs ls (hP.push ab_na_n z1 o1 ?_ (fun b hb => ab_na_ne hb)) ⟨Nat.le_trans hS.1 (by omega), fun x g1 g2 => (o1 x (Nat.lt_of_lt_of_le g1 hS.1)).trans (hS.2.1 x g1 g2), hS.2.2⟩ hl
  rw [ab_e_q ht h1 h2, ab_na_l]
  rw [hP.1] at e1
  show H1[_]? = some (vp_cell _ _)
  rw [e1, vp_cell_q, show ab_q G (hp_na h i.toNatClampNeg) (hp_n h) = fun _ => none from funext fun j => by unfold ab_q; rw [ab_na_r]; rfl]
  rfl
end AB
