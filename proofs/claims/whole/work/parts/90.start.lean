/-! THE CLAIM OUT OF ONE WALK OF THE LAW'S BODY. Your part is whole_start (and what it stands on); all else here is the same for every law, but numbers. -/
def R_law : String := "DailyReliefLaw"
def lw_P (b : Addr) (xs : List Int32) (args : Array Value) (s : State) : Prop := args = #[.ref b] ∧ s.IntsAt b xs ∧ xs.length ≤ 3072 ∧ (Jvm.Cond.and given_1 narrow_1).before args s = true
def lw_Q (_ : Array Value) (s : State) (o : Outcome) (t : State) : Prop := o = .returned (some (.int 1)) ∧ Framed s o t [] 600000 7302249
def lw_Z (below : List Frame) (a : Array Value) (s : State) : State → Prop := fun t => ∃ o, t.status = .running ∧ Ended t below o ∧ lw_Q a s o t
/-- the law's own end, with 1 on the stack, nothing written that was there before, its room as the claim has it -/
theorem lw_ret {p : Program} {l : Launch} {e : Env} {s : State} {m : MethodId} {below : List Frame} {meth : Method} {c : Code} {b : Nat} (hx : p.tables.exec = Jvm.exec) (hb : c.code = code) (hr : meth.sig.returnType = ret) (hlocks : meth.locks = false) {pc : Nat} {H : Heap} {ls : Array Slot} (hdg : decode code pc = .ok (.ireturn, 1)) : W p l e room_1 s m #[Value.ref b] below meth c H [] 600000 7302249 (lw_Z below #[Value.ref b] s) (F0 m pc ls [.int 1]) := by
  intro T hT X
  obtain ⟨fs, hret, hrun, hended, hW, hframe⟩ := X.leave (v := some (.int 1)) (hlocks := hlocks) (fun h => by rw [hr] at h; cases h)
  have hmeth' : T.vm.method? m = some meth := X.method'
  refine ⟨T.setFrames fs, ?_, .returned (some (.int 1)), hrun, hended, rfl, ⟨_, rfl⟩, hW, hframe⟩
  jvm_step X.here [X.here.top, hx, hb, hdg, hmeth', hr, ret, narrow_b1]
  (try refine ⟨rfl, ?_⟩); (try refine ⟨rfl, ?_⟩)
  first | (intro acts; rw [hret _ acts rfl rfl rfl]) | rw [hret _ _ rfl rfl rfl]
  exact Steps.refl _
/-- what holds at the law's entry: the machine, the code, the tables' words (any of lw_tbl by 'hts w (by decide +kernel)'), the script of L ints xs at the cell b, what the Statement gives of the start (any of its parts by flat_of_before) -/
def lw_At (p : Program) (s : State) (m : MethodId) (meth : Method) (c : Code) (b L : Nat) (xs : Nat → Int32) : Prop :=
  p.tables.exec = Jvm.exec ∧ c.code = code ∧ meth.sig.returnType = ret ∧ c.maxLocals = 4 ∧ s.vm.findClass R_law = some m.cls ∧ (∀ w ∈ lw_tbl, w.before #[Value.ref b] s = true) ∧ va_X b L xs s s.heap ∧ b < s.heap.size ∧ meth.locks = false ∧ (Jvm.Cond.and given_1 narrow_1).before #[Value.ref b] s = true
theorem st_N {s : State} {b : Nat} (hts : ∀ w ∈ lw_tbl, w.before #[Value.ref b] s = true) : ab_N s := by
  exact ⟨va_Nw.of rfl (hts (.methodLinkNest RX2 50 yX0_init RX7) (List.mem_append_right _ (List.mem_of_getElem? (i := 34) (by decide +kernel)))),
    va_Nw.of rfl (hts (.methodLinkNest RX2 51 yX3_init RX7) (List.mem_append_right _ (List.mem_of_getElem? (i := 76) (by decide +kernel)))),
    va_Nw.of rfl (hts (.methodLinkNest RX7 24 yX5_init RX7) (List.mem_append_right _ (List.mem_of_getElem? (i := 164) (by decide +kernel)))),
    va_Nw.of rfl (hts (.methodLinkNest RX7 31 yX6_init RX7) (List.mem_append_right _ (List.mem_of_getElem? (i := 193) (by decide +kernel)))),
    va_Nw.of rfl (hts (.methodLinkNest RX7 46 yX1_init RX7) (List.mem_append_right _ (List.mem_of_getElem? (i := 222) (by decide +kernel)))),
    va_Nw.of rfl (hts (.methodLinkNest RX0 48 yX7_isKnack RX7) (List.mem_append_right _ (List.mem_of_getElem? (i := 359) (by decide +kernel)))),
    va_Nw.of rfl (hts (.fieldLinkNest RX0 52 RX7 "ABOVE" "[I" RX7) (List.mem_append_right _ (List.mem_of_getElem? (i := 339) (by decide +kernel)))),
    va_Nw.of rfl (hts (.fieldLinkNest RX6 36 RX7 "ABOVE" "[I" RX7) (List.mem_append_right _ (List.mem_of_getElem? (i := 664) (by decide +kernel)))),
    va_AO.of (hts (.arrayOver (.object RX0)) (List.mem_append_right _ (List.mem_of_getElem? (i := 28) (by decide +kernel)))),
    va_AO.of (hts (.arrayOver (.object RX1)) (List.mem_append_right _ (List.mem_of_getElem? (i := 220) (by decide +kernel)))),
    va_AO.of (hts (.arrayOver (.object RX3)) (List.mem_append_right _ (List.mem_of_getElem? (i := 30) (by decide +kernel)))),
    va_AO.of (hts (.arrayOver (.object RX4)) (List.mem_append_right _ (List.mem_of_getElem? (i := 32) (by decide +kernel))))⟩
theorem st_A {s : State} {b : Nat} {ty : FieldType} (hp : ∀ C, ty ≠ .object C) (h : (Cond.arrayClass ty).before #[Value.ref b] s = true) : ∃ cA, ArrOfT s cA ty ∧ va_RA s cA ty := by
  obtain ⟨c, k, comp, h1, h2, h3⟩ := Cond.arrayClass_spec h
  refine ⟨c, fun n z => ⟨(fun k h => by cases h), k, h2, comp, h3⟩, ?_⟩
  cases ty with
  | object C => exact absurd rfl (hp C)
  | _ => exact h1
theorem st_O {s : State} {C : String} (h : va_AO C s) : ∃ cA, ArrOfT s cA (.object C) ∧ va_RA s cA (.object C) := by
  obtain ⟨comp, c, k, h1, -, h2, h3, h4⟩ := Cond.arrayOver_spec (va_AO.use (A := #[]) h)
  exact ⟨c, fun n z => ⟨(fun k h => by cases h), k, h2, comp, h3⟩, k, comp, h2, h3, h1, h4⟩
set_option maxRecDepth 100000 in
set_option maxHeartbeats 4000000 in
theorem sta_T {s : State} {b : Nat} (hgv : (Jvm.Cond.and given_1 narrow_1).before #[Value.ref b] s = true) (A : Nat → Prop) (hA : ∀ a : Nat, a < s.heap.size → ¬ A a) : (∃ t : Nat, (Term.static "DailyRelief" "ABOVE" "[I").eval #[Value.ref b] s none [] s = some (.ref t) ∧ va_T .int t 7 (fun j => .int (ab_abv j)) A s s.heap) ∧ ∃ t : Nat, (Term.static "DailyRelief$Voices" "BODIES" "[I").eval #[Value.ref b] s none [] s = some (.ref t) ∧ va_T .int t 28 (fun j => .int (ab_bod j)) A s s.heap := by
  have hs := flat_of_before _ hgv
  refine ⟨va_Tof (N := 7) (by decide) (hs _ (by decide +kernel)) (va_eqt (hs _ (by decide +kernel))) (fun j hj => ?_) hA, va_Tof (N := 28) (by decide) (hs _ (by decide +kernel)) (va_eqt (hs _ (by decide +kernel))) (fun j hj => ?_) hA⟩
  · rcases (show j = 0 ∨ j = 1 ∨ j = 2 ∨ j = 3 ∨ j = 4 ∨ j = 5 ∨ j = 6 by omega) with rfl | rfl | rfl | rfl | rfl | rfl | rfl <;> exact va_eqt (hs _ (by decide +kernel))
  · rcases (show j = 0 ∨ j = 1 ∨ j = 2 ∨ j = 3 ∨ j = 4 ∨ j = 5 ∨ j = 6 ∨ j = 7 ∨ j = 8 ∨ j = 9 ∨ j = 10 ∨ j = 11 ∨ j = 12 ∨ j = 13 ∨ j = 14 ∨ j = 15 ∨ j = 16 ∨ j = 17 ∨ j = 18 ∨ j = 19 ∨ j = 20 ∨ j = 21 ∨ j = 22 ∨ j = 23 ∨ j = 24 ∨ j = 25 ∨ j = 26 ∨ j = 27 by omega) with rfl | rfl | rfl | rfl | rfl | rfl | rfl | rfl | rfl | rfl | rfl | rfl | rfl | rfl | rfl | rfl | rfl | rfl | rfl | rfl | rfl | rfl | rfl | rfl | rfl | rfl | rfl | rfl <;> exact va_eqt (hs _ (by decide +kernel))
/-- the world at the law's entry: the classes, the rows' classes, the two static rows -/
theorem st_U {s : State} {b : Nat} (hts : ∀ w ∈ lw_tbl, w.before #[Value.ref b] s = true) (hgv : (Jvm.Cond.and given_1 narrow_1).before #[Value.ref b] s = true) : ∃ G : ab_G, G.1 = s.heap.size ∧ ab_U G s := by
  have htw : ∀ w ∈ ab_ws, w.before #[Value.ref b] s = true := fun w h => hts w (List.mem_filter.mp h).1
  have hN := st_N hts
  obtain ⟨c0, i0, K0⟩ := u_known (C := RX0) (T := TX0) (N := 7) (n := 7) htw kc_0 (htw _ cn_X2_9.2.1)
  obtain ⟨c1, i1, K1⟩ := u_known (C := RX1) (T := TX1) (N := 3) (n := 3) htw kc_1 (htw _ cn_X7_36.2.1)
  obtain ⟨c2, i2, K2⟩ := u_known (C := RX2) (T := TX2) (N := 16) (n := 16) htw kc_2 (htw _ cn_X7_7.2.1)
  obtain ⟨c3, i3, K3⟩ := u_known (C := RX3) (T := TX3) (N := 4) (n := 4) htw kc_3 (htw _ cn_X2_24.2.1)
  obtain ⟨c4, i4, K4⟩ := u_known (C := RX4) (T := TX4) (N := 2) (n := 2) htw kc_4 (htw _ cn_X5_48.2.1)
  obtain ⟨c5, i5, K5⟩ := u_known (C := RX5) (T := TX5) (N := 7) (n := 7) htw kc_5 (htw _ cn_X7_22.2.1)
  obtain ⟨c6, i6, K6⟩ := u_known (C := RX6) (T := TX6) (N := 6) (n := 6) htw kc_6 (htw _ cn_X7_29.2.1)
  obtain ⟨c7, i7, K7⟩ := u_known (C := RX7) (T := TX7) (N := 8) (n := 8) htw kc_7 (htw _ cn_L_7.2.1)
  obtain ⟨c8, i8, K8⟩ := u_known (C := RX8) (T := TX8) (N := 22) (n := 22) htw kc_8 (htw _ cn_L_10.2.1)
  obtain ⟨a10, A10⟩ := st_A (ty := .int) (fun _ h => by cases h) (hts (.arrayClass .int) (List.mem_append_right _ (List.mem_of_getElem? (i := 73) (by decide +kernel))))
  obtain ⟨a11, A11⟩ := st_A (ty := .byte) (fun _ h => by cases h) (hts (.arrayClass .byte) (List.mem_append_right _ (List.mem_of_getElem? (i := 74) (by decide +kernel))))
  obtain ⟨a12, A12⟩ := st_O hN.2.2.2.2.2.2.2.2.1
  obtain ⟨a15, A15⟩ := st_O hN.2.2.2.2.2.2.2.2.2.1
  obtain ⟨a13, A13⟩ := st_O hN.2.2.2.2.2.2.2.2.2.2.1
  obtain ⟨a14, A14⟩ := st_O hN.2.2.2.2.2.2.2.2.2.2.2
  obtain ⟨⟨tA, hA1, hA2⟩, tB, hB1, hB2⟩ := sta_T hgv (fun q => s.heap.size ≤ q) (fun a h1 h2 => by omega)
  refine ⟨(s.heap.size, (fun k => if k = 0 then c0 else if k = 1 then c1 else if k = 2 then c2 else if k = 3 then c3 else if k = 4 then c4 else if k = 5 then c5 else if k = 6 then c6 else if k = 7 then c7 else c8, fun k => if k = 0 then i0 else if k = 1 then i1 else if k = 2 then i2 else if k = 3 then i3 else if k = 4 then i4 else if k = 5 then i5 else if k = 6 then i6 else if k = 7 then i7 else i8), (fun k => if k = 10 then a10 else if k = 11 then a11 else if k = 12 then a12 else if k = 13 then a13 else if k = 14 then a14 else a15), tA, tB), rfl, ⟨⟨fun k q hq => ?_, fun k q hq => ?_⟩, hN⟩, ⟨?_, hA2⟩, ?_, hB2⟩
  · match k, hq with
    | 0, hq => cases hq; exact K0
    | 1, hq => cases hq; exact K1
    | 2, hq => cases hq; exact K2
    | 3, hq => cases hq; exact K3
    | 4, hq => cases hq; exact K4
    | 5, hq => cases hq; exact K5
    | 6, hq => cases hq; exact K6
    | 7, hq => cases hq; exact K7
    | 8, hq => cases hq; exact K8
    | k + 9, hq => simp [vwCl] at hq
  · match k, hq with
    | 0, hq => cases hq; exact A10
    | 1, hq => cases hq; exact A11
    | 2, hq => cases hq; exact A12
    | 3, hq => cases hq; exact A13
    | 4, hq => cases hq; exact A14
    | 5, hq => cases hq; exact A15
    | k + 6, hq => simp [ab_tys] at hq
  · exact va_Zref (hts (.laysStatic "DailyRelief" "ABOVE" "[I") (List.mem_append_right _ (List.mem_of_getElem? (i := 340) (by decide +kernel)))) (hts (.initialized "DailyRelief") (List.mem_append_right _ (List.mem_of_getElem? (i := 1) (by decide +kernel)))) hA1 (fun a h1 h2 => by have h3 : s.heap.size ≤ a := h2; omega)
  · exact va_Zref (hts (.laysStatic "DailyRelief$Voices" "BODIES" "[I") (List.mem_append_right _ (List.mem_of_getElem? (i := 643) (by decide +kernel)))) (hts (.initialized "DailyRelief$Voices") (List.mem_append_right _ (List.mem_of_getElem? (i := 6) (by decide +kernel)))) hB1 (fun a h1 h2 => by have h3 : s.heap.size ≤ a := h2; omega)
def hp_0 : hp_T := (fun _ _ => 0, fun _ _ => none, fun _ => 0, 0)
/-- from the entry, for every script, the law comes to its end with true -/
theorem whole_start {p : Program} {e : Env} {s : State} {m : MethodId} {below : List Frame} {meth : Method} {c : Code} (l : Launch) (hflags : l.flags = flags0) {b L : Nat} {xs : Nat → Int32} (hL : L ≤ 3072) (C0 : lw_At p s m meth c b L xs) : W p l e room_1 s m #[Value.ref b] below meth c s.heap [] 0 0 (lw_Z below #[Value.ref b] s) (entryFrame m ([Value.ref b] : List Value).toArray 4) := by
  obtain ⟨hx, hb, hr, hml, hown, hts, hX, hbl, hlocks, hgv⟩ := id C0
  have htw : ∀ w ∈ ab_ws, w.before #[Value.ref b] s = true := fun w h => hts w (List.mem_filter.mp h).1
  obtain ⟨G, hG1, hU⟩ := st_U hts hgv
  have C : ab_C G (p, e, room_1, s, m, #[Value.ref b], below, meth, c) room_1 cL_law 4 RL (some .boolean) meth.name := ⟨rfl, hx, hb, hml, hown, htw, hU, hr, hlocks, rfl, Nat.le_of_eq hG1⟩
  have hXX : ab_X G (p, e, room_1, s, m, #[Value.ref b], below, meth, c) b L xs := ⟨hX, hbl, by rw [hG1]; omega⟩
  have hl := lv_entry ([.ref b]) (n := 4) (Nat.le_of_ble_eq_true rfl)
  rw [lg_entry_eq]
  refine mt_L_law (Z := lw_Z below #[Value.ref b] s) (l := l) C hXX ?_ (law_true b L xs hL hp_0 rfl) s.heap [] _ ⟨hG1.symm, fun a h => absurd h (Nat.not_lt_zero a)⟩ va_S.rf hl
  intro k n h lv pc hd hk hn H locs ls hP hS hl
  refine va_forget (fun q hq => by rw [← hG1]; exact hS.2.2 q hq) ?_
  refine W.widen hk hn ?_
  exact lw_ret hx hb hr hlocks hd
set_option maxHeartbeats 4000000 in
theorem lw_walk (l : Launch) (hflags : l.flags = flags0) (b : Addr) (xs : List Int32) : MetFree l x (headSpec (Jvm.Cond.code x code maxLocals ret :: tables_1) room_1) (lw_P b xs) (fun _ _ _ _ _ => True) lw_Q := by
  refine MetFree.of_bodyS (code := code) (maxLocals := maxLocals) (ret := ret) (by decide) ?_ ?_
  · intro args s m h hn
    obtain ⟨meth, c, h1, h2, h3, h4, h5, h6, -, -⟩ := Cond.code_spec hn (atoms_spec (ws := Jvm.Cond.code x code maxLocals ret :: tables_1) h _ List.mem_cons_self)
    exact ⟨meth, c, h1, h2, h3, h4, h5, h6⟩
  · intro p e s m args below meth c s₁ B hml0 hP _
    obtain ⟨rfl, hx, hbd, hgv⟩ := hP
    obtain ⟨scr, harrAt, hlist, hof, hsmall⟩ := hx
    obtain ⟨hcb, hkn, -, -⟩ := State.arrayAt?_spec harrAt
    have hown : s.vm.findClass R_law = some m.cls := findClass_of_methodNamed B.named
    have hts0 : ∀ c ∈ (Jvm.Cond.code x code maxLocals ret :: tables_1), c.before #[Value.ref b] s = true := atoms_spec (ws := Jvm.Cond.code x code maxLocals ret :: tables_1) B.pre
    have hts : ∀ w ∈ lw_tbl, w.before #[Value.ref b] s = true := k2_hts_sels lw_privs (fun w hw => hts0 w (List.mem_cons_of_mem _ hw)) lw_privs_ok
    have hml : c.maxLocals = 4 := B.maxLocals_eq (hts0 _ List.mem_cons_self)
    have X₀ : Stand p l e room_1 s m #[Value.ref b] below meth c s₁ [] 0 0 := Stand.of_body B
    have hh0 : s₁.heap = s.heap := by rw [B.state]; rfl
    have hsz : scr.slots.size = xs.length := by rw [← Array.length_toList, hlist, List.length_map]
    have hval : ∀ j : Nat, j < xs.length → scr.slots[j]? = some (.int (xs.getD j 0)) := fun j hj => by
      rw [← Array.getElem?_toList, hlist]
      simp [hj]
    have hbl : b < s.heap.size := (Array.getElem?_eq_some_iff.mp hcb).1
    have hX : va_X b xs.length (fun j => xs.getD j 0) s s.heap := ⟨scr, hcb, hof, hkn, hsz, hval⟩
    have K : W p l e room_1 s m #[Value.ref b] below meth c s₁.heap [] 0 0 (lw_Z below #[Value.ref b] s) (entryFrame m ([Value.ref b] : List Value).toArray 4) := by
      rw [hh0]
      exact whole_start l hflags hbd ⟨B.exec, B.bytes, B.returns, hml, hown, hts, hX, hbl, B.notSynchronized, hgv⟩
    obtain ⟨t, a1, o, b1, b2, b3⟩ := K s₁ rfl X₀
    exact ⟨t, o, a1, b1, b2, b3⟩
theorem lw_pre_spec {args : Array Value} {s : State} (h : (Jvm.Cond.and given_1 narrow_1).before args s = true) (hr : rest_1_c.before args s = true) : ∃ (b : Addr) (xs : List Int32), lw_P b xs args s := by
  have hs := flat_of_before _ h
  have hq := flat_of_before _ hr
  have hc : (Cond.count 1).before args s = true := hs _ (by decide +kernel)
  have harr : (Cond.arrayOf (.arg 0) .int).before args s = true := hs _ (by decide +kernel)
  have hle : (Cond.le (.length (.arg 0)) (.int 3072)).before args s = true := hs _ (by decide +kernel)
  have hlen : (Cond.isInt (.length (.arg 0))).before args s = true := hq _ (by decide +kernel)
  have hall : (Cond.all (.arg 0) (.isInt (.elem (.arg 0) (.index 0)))).before args s = true := hq _ (by decide +kernel)
  obtain ⟨b, xs, hb, hx⟩ := State.ints_of_pre rfl harr hlen hall
  have hsm : xs.length < 2 ^ 31 := hx.choose_spec.2.2.2
  have hev : (Term.length (.arg 0)).eval args s none [] s = some (.int xs.length.toInt32) := hx.length_eval hb
  have hv := Cond.le_ints hev (show (Term.int 3072).eval args s none [] s = some (.int 3072) from rfl)
  have hd : xs.length.toInt32 ≤ 3072 := by
    simpa [Cond.before, Cond.holds, hv] using hle
  have hN : xs.length ≤ 3072 := (Int32.ofNat_le_ofNat hsm (by decide)).mp (show Int32.ofNat xs.length ≤ Int32.ofNat 3072 from hd)
  exact ⟨b, xs, Cond.one_arg hc (show args[0]? = some (.ref b) from hb), hx, hN, h⟩
theorem lw_comes (l : Launch) (hflags : l.flags = flags0) : Comes l x (Jvm.Cond.code x code maxLocals ret :: tables_1) room_1 (fun tb e args s => Calls_1 tb e args s ∧ rest_1 tb e args s ∧ Pre_1 tb e args s)
    (fun _ _ args s o t => lw_Q args s o t) := by
  intro p e ha hc hk s m args below hf hfit hheap happ hpre
  obtain ⟨b, xs, hP⟩ := lw_pre_spec hpre.2.2 hpre.2.1
  obtain ⟨k, o, h1, h2, h3, hQ⟩ := lw_walk l hflags b xs p e ha hc hk s m args below hf ((Spec.applies_iff_loose hf).mp happ).1 hP trivial
  exact ⟨k, o, h1, h2, h3, hQ⟩
theorem lw_frame {s t : State} {o : Outcome} {args : Array Value} (h : Framed s o t [] 600000 7302249) :
    Framed s o t (fieldLocs frame_1_writes args s ++ arrayLocs frame_1_arrays args s ++ staticLocs frame_1_statics s) 600000 7302249 := h
theorem lw_limb (L : Cond) (hL : ∀ (args : Array Value) (s t : State), L.after args s (.returned (some (.int 1))) t = true) :
    ArmFor flags0 classFile x code maxLocals ret World_1 tables_1 room_1 Calls_1 rest_1 Pre_1
      (fun tb e a s o t => postC L tb e a s o t ∧ Framed s o t (fieldLocs frame_1_writes a s ++ arrayLocs frame_1_arrays a s ++ staticLocs frame_1_statics s) 600000 7302249) := by
  intro l hflags _ _ p e ha hc hk s m args below hf hfit hheap happ hpre
  obtain ⟨k, o, h1, h2, h3, rfl, hF⟩ := lw_comes l hflags p e ha hc hk s m args below hf hfit hheap happ hpre
  exact ⟨k, _, h1, h2, h3, hL args s _, lw_frame hF⟩
theorem i_vc : Claimed_1_1 ∧ Claimed_1_2 := ⟨lw_limb limb_1_1 (fun args s t => by simp [limb_1_1, Cond.after, Cond.holds, Cond.value]), lw_limb limb_1_2 (fun args s t => Cond.after_iff.mpr (by
  first | (rw [show limb_1_2 = Cond.eq .result (.int 1) from rfl, Cond.eq_ints (x := 1) (y := 1) rfl rfl]; simp; done) | (simp [limb_1_2, Cond.value, Term.eval]; done)))⟩

