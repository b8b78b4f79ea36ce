/-! ===== THE JUDGEMENT over the abstract heap ===== -/
abbrev ab_F : Type := Program × Env × Room × State × MethodId × Array Value × List Frame × Method × Code
def ab_abv : Nat → Int32 := fun j => ([-1, 0, 0, 0, 1, 2, 0] : List Int32).getD j 0
def ab_bod : Nat → Int32 := fun j => ([10, 11, 12, 13, 20, 0, 0, 21, 0, 30, 0, 0, 0, 0, 40, 0, 50, 0, 51, 0, 0, 60, 0, 0, 70, 71, 0, 0] : List Int32).getD j 0
def ab_tys (G : ab_G) : List (ClassId × FieldType) := [(G.2.2.1 10, .int), (G.2.2.1 11, .byte), (G.2.2.1 12, .object "DailyRelief$Bunk"), (G.2.2.1 13, .object "DailyRelief$Task"), (G.2.2.1 14, .object "DailyRelief$Text"), (G.2.2.1 15, .object "DailyRelief$Sheet")]
/-- what the tables say that no call's words carry: private members of nest mates, rows of references -/
def ab_N (U : State) : Prop := va_Nw (.methodLinkNest RX2 50 yX0_init RX7) U ∧ va_Nw (.methodLinkNest RX2 51 yX3_init RX7) U ∧ va_Nw (.methodLinkNest RX7 24 yX5_init RX7) U ∧ va_Nw (.methodLinkNest RX7 31 yX6_init RX7) U ∧ va_Nw (.methodLinkNest RX7 46 yX1_init RX7) U ∧ va_Nw (.methodLinkNest RX0 48 yX7_isKnack RX7) U ∧ va_Nw (.fieldLinkNest RX0 52 RX7 "ABOVE" "[I" RX7) U ∧ va_Nw (.fieldLinkNest RX6 36 RX7 "ABOVE" "[I" RX7) U ∧ va_AO RX0 U ∧ va_AO RX1 U ∧ va_AO RX3 U ∧ va_AO RX4 U
def ab_K (G : ab_G) (U : State) : Prop := va_K G.2.1 vwCl (ab_tys G) U ∧ ab_N U
def ab_S (G : ab_G) (U : State) : Prop := (va_Z "DailyRelief" "ABOVE" "[I" (.ref G.2.2.2.1) (fun q => G.1 ≤ q) U U.heap ∧ va_T .int G.2.2.2.1 7 (fun j => .int (ab_abv j)) (fun q => G.1 ≤ q) U U.heap) ∧ va_Z "DailyRelief$Voices" "BODIES" "[I" (.ref G.2.2.2.2) (fun q => G.1 ≤ q) U U.heap ∧ va_T .int G.2.2.2.2 28 (fun j => .int (ab_bod j)) (fun q => G.1 ≤ q) U U.heap
def ab_U (G : ab_G) (U : State) : Prop := ab_K G U ∧ ab_S G U
theorem ab_N.moved {s U : State} (h : ab_N s) (hW : s.WarmedH U.vm) : ab_N U := by
  obtain ⟨h1, h2, h3, h4, h5, h6, h7, h8, h9, h10, h11, h12⟩ := h
  exact ⟨va_Nw.warmM hW h1, va_Nw.warmM hW h2, va_Nw.warmM hW h3, va_Nw.warmM hW h4, va_Nw.warmM hW h5, va_Nw.warmM hW h6, va_Nw.warmF hW h7, va_Nw.warmF hW h8, h9.moved hW.alike, h10.moved hW.alike, h11.moved hW.alike, h12.moved hW.alike⟩
theorem ab_U.moved {G : ab_G} {s U : State} (h : ab_U G s) (hq : ∀ q : Nat, q < s.heap.size → ¬ G.1 ≤ q → U.heap[q]? = s.heap[q]?) (hW : s.WarmedH U.vm) : ab_U G U := by
  obtain ⟨⟨h1, h2⟩, ⟨h3, h4⟩, h5, h6⟩ := h
  exact ⟨⟨va_K.moved hW.alike h1, h2.moved hW⟩, ⟨(h3.moved hW.alike).kept hq, (h4.moved hW.alike).kept hq⟩, (h5.moved hW.alike).kept hq, (h6.moved hW.alike).kept hq⟩
theorem ab_U.blind {G : ab_G} {U : State} (h : ab_U G U) (g : JFrame) (mk : MethodId) (a : Array Value) : ab_U G (U.calling g mk a) :=
  h.moved (fun _ _ _ => rfl) (State.WarmedH.refl U)
def ab_C (G : ab_G) (F : ab_F) (R : Room) (cc : ByteArray) (nL : Nat) (own : String) (ret : Option FieldType) (nm : String) : Prop := match F with
  | (p, _, R', s, m, args, _, meth, c) => R' = R ∧ p.tables.exec = Jvm.exec ∧ c.code = cc ∧ c.maxLocals = nL ∧ s.vm.findClass own = some m.cls ∧ (∀ w ∈ ab_ws, w.before args s = true) ∧ ab_U G s ∧ meth.sig.returnType = ret ∧ meth.locks = false ∧ meth.name = nm ∧ G.1 ≤ s.heap.size
def ab_W (l : Launch) (G : ab_G) (F : ab_F) (nL : Nat) (Q : State → Prop) (k n : Nat) (h : hp_T) (lv : List (Nat × Value)) (st : List Value) (pc : Nat) : Prop := match F with
  | (p, e, R, s, m, args, below, meth, c) => ∀ (H : Heap) (locs : List Loc) (ls : Array Slot), ab_P G h H → va_S (fun q => G.1 ≤ q) s.heap H locs → lv_has ls nL lv → W p l e R s m args below meth c H locs k n Q (F0 m pc ls st)
def ab_Q (G : ab_G) (post : Option Value → hp_T → Prop) : Array Value → State → Outcome → State → Prop := fun _ st oc t => (∃ (r : Option Value) (h1 : hp_T), oc = .returned r ∧ post r h1 ∧ ab_P G h1 t.heap) ∧ va_F (fun q => G.1 ≤ q) st t
def ab_MQ (G : ab_G) (F : ab_F) (post : Option Value → hp_T → Prop) (mc ms : Nat) : State → Prop := match F with
  | (_, _, _, s, _, args, below, _, _) => MQ below (ab_Q G post) args s mc ms (fun q => G.1 ≤ q)
/-- A METHOD'S CONTRACT: from the arguments av and the heap h it returns, and 'post' holds of its answer and the heap -/
def ab_M (l : Launch) (G : ab_G) (y : MethodName) (cc : ByteArray) (nL : Nat) (ret : Option FieldType) (rm : Room) (mc ms : Nat) (av : List Value) (h : hp_T) (post : Option Value → hp_T → Prop) : Prop :=
  Met l y (.code y cc nL ret :: ab_ws) rm (va_Pc av (fun U => ab_P G h U.heap ∧ ab_U G U)) (ab_Q G post) mc ms (fun q => G.1 ≤ q)
theorem ab_intro {l : Launch} {G : ab_G} {y : MethodName} {cc : ByteArray} {nL : Nat} {ret : Option FieldType} {rm : Room} {mc ms : Nat} {av : List Value} {h : hp_T} {post : Option Value → hp_T → Prop} (hy : plainName y.cls = true) {own nm : String} (hon : y.cls = own) (hnn : y.name = nm) (hav : (lg_sl av).length ≤ nL)
    (body : ∀ F : ab_F, ab_C G F rm cc nL own ret nm → ab_W l G F nL (ab_MQ G F post mc ms) 0 0 h (lv_args 0 av) [] 0) : ab_M l G y cc nL ret rm mc ms av h post := by
  subst hon
  subst hnn
  refine Met.ofW (cc := cc) (maxL := nL) (ret := ret) hy rfl ?_
  intro p e s m args below meth c s₁ B hml hv
  obtain ⟨rfl, hP, hU⟩ := hv
  have hts := atoms_spec (ws := Cond.code y cc nL ret :: ab_ws) B.pre
  have hl := lv_entry av (n := nL) hav
  rw [lg_entry_eq]
  exact body (p, e, _, s, m, av.toArray, below, meth, c) ⟨rfl, B.exec, B.bytes, hml, findClass_of_methodNamed B.named, fun w hw => hts w (List.mem_cons_of_mem _ hw), hU, B.returns, B.notSynchronized, (name_of_methodNamed B.named B.method).1, by rw [hP.1]; exact Nat.le_add_right _ _⟩ s.heap [] _ hP va_S.rf hl

section AB
variable {l : Launch} {G : ab_G} {F : ab_F} {R : Room} {cc : ByteArray} {nL : Nat} {own : String} {ret : Option FieldType} {nm : String} {Q : State → Prop} {k n : Nat} {h : hp_T} {lv : List (Nat × Value)} {st : List Value} {pc : Nat} {post : Option Value → hp_T → Prop}
theorem ab_iconst (C : ab_C G F R cc nL own ret nm) {z : Int} {v : Int32} (hd : decode cc pc = .ok (.iconst z, 1)) (hv : Int32.ofInt z = v) (kk : ab_W l G F nL Q k n h lv (.int v :: st) (pc + 1)) : ab_W l G F nL Q k n h lv (st) pc := by
  obtain ⟨p, e, R', s, m, args, below, meth, c⟩ := F
  obtain ⟨hR, hx, hb, hml, hown, hts, hU, hr, hlk, hnm, hB⟩ := C
  intro H locs ls hP hS hl
  exact lv_iconst hx hb hd hv (kk H locs ls hP hS hl)
theorem ab_bipush (C : ab_C G F R cc nL own ret nm) {z : Int} {v : Int32} (hd : decode cc pc = .ok (.bipush z, 2)) (hv : (Int8.ofInt z).toInt32 = v) (kk : ab_W l G F nL Q k n h lv (.int v :: st) (pc + 2)) : ab_W l G F nL Q k n h lv (st) pc := by
  obtain ⟨p, e, R', s, m, args, below, meth, c⟩ := F
  obtain ⟨hR, hx, hb, hml, hown, hts, hU, hr, hlk, hnm, hB⟩ := C
  intro H locs ls hP hS hl
  exact lv_bipush hx hb hd hv (kk H locs ls hP hS hl)
theorem ab_sipush (C : ab_C G F R cc nL own ret nm) {z : Int} {v : Int32} (hd : decode cc pc = .ok (.sipush z, 3)) (hv : (Int16.ofInt z).toInt32 = v) (kk : ab_W l G F nL Q k n h lv (.int v :: st) (pc + 3)) : ab_W l G F nL Q k n h lv (st) pc := by
  obtain ⟨p, e, R', s, m, args, below, meth, c⟩ := F
  obtain ⟨hR, hx, hb, hml, hown, hts, hU, hr, hlk, hnm, hB⟩ := C
  intro H locs ls hP hS hl
  exact lv_sipush hx hb hd hv (kk H locs ls hP hS hl)
theorem ab_lconst (C : ab_C G F R cc nL own ret nm) {z : Fin 2} {v : Int64} (hd : decode cc pc = .ok (.lconst z, 1)) (hv : Int64.ofNat (z : Nat) = v) (kk : ab_W l G F nL Q k n h lv (.long v :: st) (pc + 1)) : ab_W l G F nL Q k n h lv (st) pc := by
  obtain ⟨p, e, R', s, m, args, below, meth, c⟩ := F
  obtain ⟨hR, hx, hb, hml, hown, hts, hU, hr, hlk, hnm, hB⟩ := C
  intro H locs ls hP hS hl
  exact lv_lconst hx hb hd hv (kk H locs ls hP hS hl)
theorem ab_null (C : ab_C G F R cc nL own ret nm) (hd : decode cc pc = .ok (.aconst_null, 1)) (kk : ab_W l G F nL Q k n h lv (.null :: st) (pc + 1)) : ab_W l G F nL Q k n h lv (st) pc := by
  obtain ⟨p, e, R', s, m, args, below, meth, c⟩ := F
  obtain ⟨hR, hx, hb, hml, hown, hts, hU, hr, hlk, hnm, hB⟩ := C
  intro H locs ls hP hS hl
  exact lv_null hx hb hd (kk H locs ls hP hS hl)
theorem ab_iload_n (C : ab_C G F R cc nL own ret nm) {q : Fin 4} {i : Nat} (j : Nat) {x : Int32} (hd : decode cc pc = .ok (.iload_n q, 1)) (hi : (q : Nat) = i) (hj : lv[j]? = some (i, .int x)) (kk : ab_W l G F nL Q k n h lv (.int x :: st) (pc + 1)) : ab_W l G F nL Q k n h lv (st) pc := by
  obtain ⟨p, e, R', s, m, args, below, meth, c⟩ := F
  obtain ⟨hR, hx, hb, hml, hown, hts, hU, hr, hlk, hnm, hB⟩ := C
  intro H locs ls hP hS hl
  exact lv_iload_n hx hb hd hi (lv_at hl j hj) (kk H locs ls hP hS hl)
theorem ab_iload (C : ab_C G F R cc nL own ret nm) {i : Nat} (j : Nat) {x : Int32} (hd : decode cc pc = .ok (.iload i, 2)) (hj : lv[j]? = some (i, .int x)) (kk : ab_W l G F nL Q k n h lv (.int x :: st) (pc + 2)) : ab_W l G F nL Q k n h lv (st) pc := by
  obtain ⟨p, e, R', s, m, args, below, meth, c⟩ := F
  obtain ⟨hR, hx, hb, hml, hown, hts, hU, hr, hlk, hnm, hB⟩ := C
  intro H locs ls hP hS hl
  exact lv_iload hx hb hd (lv_at hl j hj) (kk H locs ls hP hS hl)
theorem ab_lload_n (C : ab_C G F R cc nL own ret nm) {q : Fin 4} {i : Nat} (j : Nat) {x : Int64} (hd : decode cc pc = .ok (.lload_n q, 1)) (hi : (q : Nat) = i) (hj : lv[j]? = some (i, .long x)) (kk : ab_W l G F nL Q k n h lv (.long x :: st) (pc + 1)) : ab_W l G F nL Q k n h lv (st) pc := by
  obtain ⟨p, e, R', s, m, args, below, meth, c⟩ := F
  obtain ⟨hR, hx, hb, hml, hown, hts, hU, hr, hlk, hnm, hB⟩ := C
  intro H locs ls hP hS hl
  exact lv_lload_n hx hb hd hi (lv_at hl j hj) (kk H locs ls hP hS hl)
theorem ab_lload (C : ab_C G F R cc nL own ret nm) {i : Nat} (j : Nat) {x : Int64} (hd : decode cc pc = .ok (.lload i, 2)) (hj : lv[j]? = some (i, .long x)) (kk : ab_W l G F nL Q k n h lv (.long x :: st) (pc + 2)) : ab_W l G F nL Q k n h lv (st) pc := by
  obtain ⟨p, e, R', s, m, args, below, meth, c⟩ := F
  obtain ⟨hR, hx, hb, hml, hown, hts, hU, hr, hlk, hnm, hB⟩ := C
  intro H locs ls hP hS hl
  exact lv_lload hx hb hd (lv_at hl j hj) (kk H locs ls hP hS hl)
theorem ab_aload_n (C : ab_C G F R cc nL own ret nm) {q : Fin 4} {i : Nat} (j : Nat) {x : Nat} (hd : decode cc pc = .ok (.aload_n q, 1)) (hi : (q : Nat) = i) (hj : lv[j]? = some (i, .ref x)) (kk : ab_W l G F nL Q k n h lv (.ref x :: st) (pc + 1)) : ab_W l G F nL Q k n h lv (st) pc := by
  obtain ⟨p, e, R', s, m, args, below, meth, c⟩ := F
  obtain ⟨hR, hx, hb, hml, hown, hts, hU, hr, hlk, hnm, hB⟩ := C
  intro H locs ls hP hS hl
  exact lv_aload_n hx hb hd hi (lv_at hl j hj) (kk H locs ls hP hS hl)
theorem ab_aload (C : ab_C G F R cc nL own ret nm) {i : Nat} (j : Nat) {x : Nat} (hd : decode cc pc = .ok (.aload i, 2)) (hj : lv[j]? = some (i, .ref x)) (kk : ab_W l G F nL Q k n h lv (.ref x :: st) (pc + 2)) : ab_W l G F nL Q k n h lv (st) pc := by
  obtain ⟨p, e, R', s, m, args, below, meth, c⟩ := F
  obtain ⟨hR, hx, hb, hml, hown, hts, hU, hr, hlk, hnm, hB⟩ := C
  intro H locs ls hP hS hl
  exact lv_aload hx hb hd (lv_at hl j hj) (kk H locs ls hP hS hl)
theorem ab_aload_nN (C : ab_C G F R cc nL own ret nm) {q : Fin 4} {i : Nat} (j : Nat) (hd : decode cc pc = .ok (.aload_n q, 1)) (hi : (q : Nat) = i) (hj : lv[j]? = some (i, .null)) (kk : ab_W l G F nL Q k n h lv (.null :: st) (pc + 1)) : ab_W l G F nL Q k n h lv (st) pc := by
  obtain ⟨p, e, R', s, m, args, below, meth, c⟩ := F
  obtain ⟨hR, hx, hb, hml, hown, hts, hU, hr, hlk, hnm, hB⟩ := C
  intro H locs ls hP hS hl
  exact lv_aload_nN hx hb hd hi (lv_at hl j hj) (kk H locs ls hP hS hl)
theorem ab_aloadN (C : ab_C G F R cc nL own ret nm) {i : Nat} (j : Nat) (hd : decode cc pc = .ok (.aload i, 2)) (hj : lv[j]? = some (i, .null)) (kk : ab_W l G F nL Q k n h lv (.null :: st) (pc + 2)) : ab_W l G F nL Q k n h lv (st) pc := by
  obtain ⟨p, e, R', s, m, args, below, meth, c⟩ := F
  obtain ⟨hR, hx, hb, hml, hown, hts, hU, hr, hlk, hnm, hB⟩ := C
  intro H locs ls hP hS hl
  exact lv_aloadN hx hb hd (lv_at hl j hj) (kk H locs ls hP hS hl)
theorem ab_istore_n (C : ab_C G F R cc nL own ret nm) {lv' : List (Nat × Value)} {q : Fin 4} {i : Nat} {x : Int32} (hd : decode cc pc = .ok (.istore_n q, 1)) (hi : (q : Nat) = i) (hn : i < nL) (hf : (i, Value.int x) :: lv.filter (fun q => !(q.1 == i) && !(q.1 + 1 == i && q.2.category == 2)) = lv') (kk : ab_W l G F nL Q k n h lv' st (pc + 1)) : ab_W l G F nL Q k n h lv (.int x :: st) pc := by
  obtain ⟨p, e, R', s, m, args, below, meth, c⟩ := F
  obtain ⟨hR, hx, hb, hml, hown, hts, hU, hr, hlk, hnm, hB⟩ := C
  intro H locs ls hP hS hl
  exact lv_istore_n hx hb hd hi hl hn hf (fun ls' h' => kk H locs ls' hP hS h')
theorem ab_istore (C : ab_C G F R cc nL own ret nm) {lv' : List (Nat × Value)} {i : Nat} {x : Int32} (hd : decode cc pc = .ok (.istore i, 2)) (hn : i < nL) (hf : (i, Value.int x) :: lv.filter (fun q => !(q.1 == i) && !(q.1 + 1 == i && q.2.category == 2)) = lv') (kk : ab_W l G F nL Q k n h lv' st (pc + 2)) : ab_W l G F nL Q k n h lv (.int x :: st) pc := by
  obtain ⟨p, e, R', s, m, args, below, meth, c⟩ := F
  obtain ⟨hR, hx, hb, hml, hown, hts, hU, hr, hlk, hnm, hB⟩ := C
  intro H locs ls hP hS hl
  exact lv_istore hx hb hd hl hn hf (fun ls' h' => kk H locs ls' hP hS h')
theorem ab_astore_n (C : ab_C G F R cc nL own ret nm) {lv' : List (Nat × Value)} {q : Fin 4} {i : Nat} {x : Nat} (hd : decode cc pc = .ok (.astore_n q, 1)) (hi : (q : Nat) = i) (hn : i < nL) (hf : (i, Value.ref x) :: lv.filter (fun q => !(q.1 == i) && !(q.1 + 1 == i && q.2.category == 2)) = lv') (kk : ab_W l G F nL Q k n h lv' st (pc + 1)) : ab_W l G F nL Q k n h lv (.ref x :: st) pc := by
  obtain ⟨p, e, R', s, m, args, below, meth, c⟩ := F
  obtain ⟨hR, hx, hb, hml, hown, hts, hU, hr, hlk, hnm, hB⟩ := C
  intro H locs ls hP hS hl
  exact lv_astore_n hx hb hd hi hl hn hf (fun ls' h' => kk H locs ls' hP hS h')
theorem ab_astore (C : ab_C G F R cc nL own ret nm) {lv' : List (Nat × Value)} {i : Nat} {x : Nat} (hd : decode cc pc = .ok (.astore i, 2)) (hn : i < nL) (hf : (i, Value.ref x) :: lv.filter (fun q => !(q.1 == i) && !(q.1 + 1 == i && q.2.category == 2)) = lv') (kk : ab_W l G F nL Q k n h lv' st (pc + 2)) : ab_W l G F nL Q k n h lv (.ref x :: st) pc := by
  obtain ⟨p, e, R', s, m, args, below, meth, c⟩ := F
  obtain ⟨hR, hx, hb, hml, hown, hts, hU, hr, hlk, hnm, hB⟩ := C
  intro H locs ls hP hS hl
  exact lv_astore hx hb hd hl hn hf (fun ls' h' => kk H locs ls' hP hS h')
theorem ab_lstore_n (C : ab_C G F R cc nL own ret nm) {lv' : List (Nat × Value)} {q : Fin 4} {i : Nat} {x : Int64} (hd : decode cc pc = .ok (.lstore_n q, 1)) (hi : (q : Nat) = i) (hn : i + 1 < nL) (hf : (i, Value.long x) :: lv.filter (fun q => !(q.1 == i) && (!(q.1 == i + 1) && !(q.1 + 1 == i && q.2.category == 2))) = lv') (kk : ab_W l G F nL Q k n h lv' st (pc + 1)) : ab_W l G F nL Q k n h lv (.long x :: st) pc := by
  obtain ⟨p, e, R', s, m, args, below, meth, c⟩ := F
  obtain ⟨hR, hx, hb, hml, hown, hts, hU, hr, hlk, hnm, hB⟩ := C
  intro H locs ls hP hS hl
  exact lv_lstore_n hx hb hd hi hl hn hf (fun ls' h' => kk H locs ls' hP hS h')
theorem ab_lstore (C : ab_C G F R cc nL own ret nm) {lv' : List (Nat × Value)} {i : Nat} {x : Int64} (hd : decode cc pc = .ok (.lstore i, 2)) (hn : i + 1 < nL) (hf : (i, Value.long x) :: lv.filter (fun q => !(q.1 == i) && (!(q.1 == i + 1) && !(q.1 + 1 == i && q.2.category == 2))) = lv') (kk : ab_W l G F nL Q k n h lv' st (pc + 2)) : ab_W l G F nL Q k n h lv (.long x :: st) pc := by
  obtain ⟨p, e, R', s, m, args, below, meth, c⟩ := F
  obtain ⟨hR, hx, hb, hml, hown, hts, hU, hr, hlk, hnm, hB⟩ := C
  intro H locs ls hP hS hl
  exact lv_lstore hx hb hd hl hn hf (fun ls' h' => kk H locs ls' hP hS h')
theorem ab_astore_nN (C : ab_C G F R cc nL own ret nm) {lv' : List (Nat × Value)} {q : Fin 4} {i : Nat} (hd : decode cc pc = .ok (.astore_n q, 1)) (hi : (q : Nat) = i) (hn : i < nL) (hf : (i, Value.null) :: lv.filter (fun q => !(q.1 == i) && !(q.1 + 1 == i && q.2.category == 2)) = lv') (kk : ab_W l G F nL Q k n h lv' st (pc + 1)) : ab_W l G F nL Q k n h lv (.null :: st) pc := by
  obtain ⟨p, e, R', s, m, args, below, meth, c⟩ := F
  obtain ⟨hR, hx, hb, hml, hown, hts, hU, hr, hlk, hnm, hB⟩ := C
  intro H locs ls hP hS hl
  exact lv_astore_nN hx hb hd hi hl hn hf (fun ls' h' => kk H locs ls' hP hS h')
theorem ab_astoreN (C : ab_C G F R cc nL own ret nm) {lv' : List (Nat × Value)} {i : Nat} (hd : decode cc pc = .ok (.astore i, 2)) (hn : i < nL) (hf : (i, Value.null) :: lv.filter (fun q => !(q.1 == i) && !(q.1 + 1 == i && q.2.category == 2)) = lv') (kk : ab_W l G F nL Q k n h lv' st (pc + 2)) : ab_W l G F nL Q k n h lv (.null :: st) pc := by
  obtain ⟨p, e, R', s, m, args, below, meth, c⟩ := F
  obtain ⟨hR, hx, hb, hml, hown, hts, hU, hr, hlk, hnm, hB⟩ := C
  intro H locs ls hP hS hl
  exact lv_astoreN hx hb hd hl hn hf (fun ls' h' => kk H locs ls' hP hS h')
theorem ab_iinc (C : ab_C G F R cc nL own ret nm) {lv' : List (Nat × Value)} {i : Nat} (j : Nat) {z : Int} {x v : Int32} (hd : decode cc pc = .ok (.iinc i z, 3)) (hj : lv[j]? = some (i, .int x)) (hv : x + Int32.ofInt z = v) (hn : i < nL) (hf : (i, Value.int v) :: lv.filter (fun q => !(q.1 == i) && !(q.1 + 1 == i && q.2.category == 2)) = lv') (kk : ab_W l G F nL Q k n h lv' st (pc + 3)) : ab_W l G F nL Q k n h lv (st) pc := by
  obtain ⟨p, e, R', s, m, args, below, meth, c⟩ := F
  obtain ⟨hR, hx, hb, hml, hown, hts, hU, hr, hlk, hnm, hB⟩ := C
  intro H locs ls hP hS hl
  exact lv_iinc hx hb hd hl hj hv hn hf (fun ls' h' => kk H locs ls' hP hS h')
theorem ab_iadd (C : ab_C G F R cc nL own ret nm) {x y : Int32} (hd : decode cc pc = .ok (.iadd, 1)) (kk : ab_W l G F nL Q k n h lv (.int (x + y) :: st) (pc + 1)) : ab_W l G F nL Q k n h lv (.int y :: .int x :: st) pc := by
  obtain ⟨p, e, R', s, m, args, below, meth, c⟩ := F
  obtain ⟨hR, hx, hb, hml, hown, hts, hU, hr, hlk, hnm, hB⟩ := C
  intro H locs ls hP hS hl
  exact lv_iadd hx hb hd (kk H locs ls hP hS hl)
theorem ab_isub (C : ab_C G F R cc nL own ret nm) {x y : Int32} (hd : decode cc pc = .ok (.isub, 1)) (kk : ab_W l G F nL Q k n h lv (.int (x - y) :: st) (pc + 1)) : ab_W l G F nL Q k n h lv (.int y :: .int x :: st) pc := by
  obtain ⟨p, e, R', s, m, args, below, meth, c⟩ := F
  obtain ⟨hR, hx, hb, hml, hown, hts, hU, hr, hlk, hnm, hB⟩ := C
  intro H locs ls hP hS hl
  exact lv_isub hx hb hd (kk H locs ls hP hS hl)
theorem ab_imul (C : ab_C G F R cc nL own ret nm) {x y : Int32} (hd : decode cc pc = .ok (.imul, 1)) (kk : ab_W l G F nL Q k n h lv (.int (x * y) :: st) (pc + 1)) : ab_W l G F nL Q k n h lv (.int y :: .int x :: st) pc := by
  obtain ⟨p, e, R', s, m, args, below, meth, c⟩ := F
  obtain ⟨hR, hx, hb, hml, hown, hts, hU, hr, hlk, hnm, hB⟩ := C
  intro H locs ls hP hS hl
  exact lv_imul hx hb hd (kk H locs ls hP hS hl)
theorem ab_iand (C : ab_C G F R cc nL own ret nm) {x y : Int32} (hd : decode cc pc = .ok (.iand, 1)) (kk : ab_W l G F nL Q k n h lv (.int (x &&& y) :: st) (pc + 1)) : ab_W l G F nL Q k n h lv (.int y :: .int x :: st) pc := by
  obtain ⟨p, e, R', s, m, args, below, meth, c⟩ := F
  obtain ⟨hR, hx, hb, hml, hown, hts, hU, hr, hlk, hnm, hB⟩ := C
  intro H locs ls hP hS hl
  exact lv_iand hx hb hd (kk H locs ls hP hS hl)
theorem ab_ior (C : ab_C G F R cc nL own ret nm) {x y : Int32} (hd : decode cc pc = .ok (.ior, 1)) (kk : ab_W l G F nL Q k n h lv (.int (x ||| y) :: st) (pc + 1)) : ab_W l G F nL Q k n h lv (.int y :: .int x :: st) pc := by
  obtain ⟨p, e, R', s, m, args, below, meth, c⟩ := F
  obtain ⟨hR, hx, hb, hml, hown, hts, hU, hr, hlk, hnm, hB⟩ := C
  intro H locs ls hP hS hl
  exact lv_ior hx hb hd (kk H locs ls hP hS hl)
theorem ab_ixor (C : ab_C G F R cc nL own ret nm) {x y : Int32} (hd : decode cc pc = .ok (.ixor, 1)) (kk : ab_W l G F nL Q k n h lv (.int (x ^^^ y) :: st) (pc + 1)) : ab_W l G F nL Q k n h lv (.int y :: .int x :: st) pc := by
  obtain ⟨p, e, R', s, m, args, below, meth, c⟩ := F
  obtain ⟨hR, hx, hb, hml, hown, hts, hU, hr, hlk, hnm, hB⟩ := C
  intro H locs ls hP hS hl
  exact lv_ixor hx hb hd (kk H locs ls hP hS hl)
theorem ab_ishl (C : ab_C G F R cc nL own ret nm) {x y : Int32} (hd : decode cc pc = .ok (.ishl, 1)) (kk : ab_W l G F nL Q k n h lv (.int (x <<< (y &&& 31)) :: st) (pc + 1)) : ab_W l G F nL Q k n h lv (.int y :: .int x :: st) pc := by
  obtain ⟨p, e, R', s, m, args, below, meth, c⟩ := F
  obtain ⟨hR, hx, hb, hml, hown, hts, hU, hr, hlk, hnm, hB⟩ := C
  intro H locs ls hP hS hl
  exact lv_ishl hx hb hd (kk H locs ls hP hS hl)
theorem ab_ishr (C : ab_C G F R cc nL own ret nm) {x y : Int32} (hd : decode cc pc = .ok (.ishr, 1)) (kk : ab_W l G F nL Q k n h lv (.int (x >>> (y &&& 31)) :: st) (pc + 1)) : ab_W l G F nL Q k n h lv (.int y :: .int x :: st) pc := by
  obtain ⟨p, e, R', s, m, args, below, meth, c⟩ := F
  obtain ⟨hR, hx, hb, hml, hown, hts, hU, hr, hlk, hnm, hB⟩ := C
  intro H locs ls hP hS hl
  exact lv_ishr hx hb hd (kk H locs ls hP hS hl)
theorem ab_idiv (C : ab_C G F R cc nL own ret nm) {x y : Int32} (hd : decode cc pc = .ok (.idiv, 1)) (hne : ¬ y = 0) (kk : ab_W l G F nL Q k n h lv (.int (x / y) :: st) (pc + 1)) : ab_W l G F nL Q k n h lv (.int y :: .int x :: st) pc := by
  obtain ⟨p, e, R', s, m, args, below, meth, c⟩ := F
  obtain ⟨hR, hx, hb, hml, hown, hts, hU, hr, hlk, hnm, hB⟩ := C
  intro H locs ls hP hS hl
  exact lv_idiv hx hb hd hne (kk H locs ls hP hS hl)
theorem ab_irem (C : ab_C G F R cc nL own ret nm) {x y : Int32} (hd : decode cc pc = .ok (.irem, 1)) (hne : ¬ y = 0) (kk : ab_W l G F nL Q k n h lv (.int (x - x / y * y) :: st) (pc + 1)) : ab_W l G F nL Q k n h lv (.int y :: .int x :: st) pc := by
  obtain ⟨p, e, R', s, m, args, below, meth, c⟩ := F
  obtain ⟨hR, hx, hb, hml, hown, hts, hU, hr, hlk, hnm, hB⟩ := C
  intro H locs ls hP hS hl
  exact lv_irem hx hb hd hne (kk H locs ls hP hS hl)
theorem ab_ineg (C : ab_C G F R cc nL own ret nm) {x : Int32} (hd : decode cc pc = .ok (.ineg, 1)) (kk : ab_W l G F nL Q k n h lv (.int (-x) :: st) (pc + 1)) : ab_W l G F nL Q k n h lv (.int x :: st) pc := by
  obtain ⟨p, e, R', s, m, args, below, meth, c⟩ := F
  obtain ⟨hR, hx, hb, hml, hown, hts, hU, hr, hlk, hnm, hB⟩ := C
  intro H locs ls hP hS hl
  exact lv_ineg hx hb hd (kk H locs ls hP hS hl)
theorem ab_ladd (C : ab_C G F R cc nL own ret nm) {x y : Int64} (hd : decode cc pc = .ok (.ladd, 1)) (kk : ab_W l G F nL Q k n h lv (.long (x + y) :: st) (pc + 1)) : ab_W l G F nL Q k n h lv (.long y :: .long x :: st) pc := by
  obtain ⟨p, e, R', s, m, args, below, meth, c⟩ := F
  obtain ⟨hR, hx, hb, hml, hown, hts, hU, hr, hlk, hnm, hB⟩ := C
  intro H locs ls hP hS hl
  exact lv_ladd hx hb hd (kk H locs ls hP hS hl)
theorem ab_land (C : ab_C G F R cc nL own ret nm) {x y : Int64} (hd : decode cc pc = .ok (.land, 1)) (kk : ab_W l G F nL Q k n h lv (.long (x &&& y) :: st) (pc + 1)) : ab_W l G F nL Q k n h lv (.long y :: .long x :: st) pc := by
  obtain ⟨p, e, R', s, m, args, below, meth, c⟩ := F
  obtain ⟨hR, hx, hb, hml, hown, hts, hU, hr, hlk, hnm, hB⟩ := C
  intro H locs ls hP hS hl
  exact lv_land hx hb hd (kk H locs ls hP hS hl)
theorem ab_lor (C : ab_C G F R cc nL own ret nm) {x y : Int64} (hd : decode cc pc = .ok (.lor, 1)) (kk : ab_W l G F nL Q k n h lv (.long (x ||| y) :: st) (pc + 1)) : ab_W l G F nL Q k n h lv (.long y :: .long x :: st) pc := by
  obtain ⟨p, e, R', s, m, args, below, meth, c⟩ := F
  obtain ⟨hR, hx, hb, hml, hown, hts, hU, hr, hlk, hnm, hB⟩ := C
  intro H locs ls hP hS hl
  exact lv_lor hx hb hd (kk H locs ls hP hS hl)
theorem ab_i2l (C : ab_C G F R cc nL own ret nm) {x : Int32} (hd : decode cc pc = .ok (.i2l, 1)) (kk : ab_W l G F nL Q k n h lv (.long x.toInt64 :: st) (pc + 1)) : ab_W l G F nL Q k n h lv (.int x :: st) pc := by
  obtain ⟨p, e, R', s, m, args, below, meth, c⟩ := F
  obtain ⟨hR, hx, hb, hml, hown, hts, hU, hr, hlk, hnm, hB⟩ := C
  intro H locs ls hP hS hl
  exact lv_i2l hx hb hd rfl (kk H locs ls hP hS hl)
theorem ab_l2i (C : ab_C G F R cc nL own ret nm) {x : Int64} (hd : decode cc pc = .ok (.l2i, 1)) (kk : ab_W l G F nL Q k n h lv (.int x.toInt32 :: st) (pc + 1)) : ab_W l G F nL Q k n h lv (.long x :: st) pc := by
  obtain ⟨p, e, R', s, m, args, below, meth, c⟩ := F
  obtain ⟨hR, hx, hb, hml, hown, hts, hU, hr, hlk, hnm, hB⟩ := C
  intro H locs ls hP hS hl
  exact lv_l2i hx hb hd rfl (kk H locs ls hP hS hl)
theorem ab_i2b (C : ab_C G F R cc nL own ret nm) {x : Int32} (hd : decode cc pc = .ok (.i2b, 1)) (kk : ab_W l G F nL Q k n h lv (.int x.toInt8.toInt32 :: st) (pc + 1)) : ab_W l G F nL Q k n h lv (.int x :: st) pc := by
  obtain ⟨p, e, R', s, m, args, below, meth, c⟩ := F
  obtain ⟨hR, hx, hb, hml, hown, hts, hU, hr, hlk, hnm, hB⟩ := C
  intro H locs ls hP hS hl
  exact lv_i2b hx hb hd rfl (kk H locs ls hP hS hl)
theorem ab_i2s (C : ab_C G F R cc nL own ret nm) {x : Int32} (hd : decode cc pc = .ok (.i2s, 1)) (kk : ab_W l G F nL Q k n h lv (.int x.toInt16.toInt32 :: st) (pc + 1)) : ab_W l G F nL Q k n h lv (.int x :: st) pc := by
  obtain ⟨p, e, R', s, m, args, below, meth, c⟩ := F
  obtain ⟨hR, hx, hb, hml, hown, hts, hU, hr, hlk, hnm, hB⟩ := C
  intro H locs ls hP hS hl
  exact lv_i2s hx hb hd rfl (kk H locs ls hP hS hl)
def ab_ush (x y : Int32) : Int32 := (x.toUInt32 >>> (y.toUInt32 &&& Int32.toUInt32 31)).toInt32
def ab_lush (x : Int64) (y : Int32) : Int64 := (x.toUInt64 >>> (y.toInt64.toUInt64 &&& Int64.toUInt64 63)).toInt64
theorem ab_iushr (C : ab_C G F R cc nL own ret nm) {x y : Int32} (hd : decode cc pc = .ok (.iushr, 1)) (kk : ab_W l G F nL Q k n h lv (.int (ab_ush x y) :: st) (pc + 1)) : ab_W l G F nL Q k n h lv (.int y :: .int x :: st) pc := by
  obtain ⟨p, e, R', s, m, args, below, meth, c⟩ := F
  obtain ⟨hR, hx, hb, hml, hown, hts, hU, hr, hlk, hnm, hB⟩ := C
  intro H locs ls hP hS hl
  exact lv_iushr hx hb hd rfl (kk H locs ls hP hS hl)
theorem ab_lushr (C : ab_C G F R cc nL own ret nm) {x : Int64} {y : Int32} (hd : decode cc pc = .ok (.lushr, 1)) (kk : ab_W l G F nL Q k n h lv (.long (ab_lush x y) :: st) (pc + 1)) : ab_W l G F nL Q k n h lv (.int y :: .long x :: st) pc := by
  obtain ⟨p, e, R', s, m, args, below, meth, c⟩ := F
  obtain ⟨hR, hx, hb, hml, hown, hts, hU, hr, hlk, hnm, hB⟩ := C
  intro H locs ls hP hS hl
  exact lv_lushr hx hb hd rfl (kk H locs ls hP hS hl)
theorem ab_lshl (C : ab_C G F R cc nL own ret nm) {x : Int64} {y : Int32} (hd : decode cc pc = .ok (.lshl, 1)) (kk : ab_W l G F nL Q k n h lv (.long (x <<< (y.toInt64 &&& 63)) :: st) (pc + 1)) : ab_W l G F nL Q k n h lv (.int y :: .long x :: st) pc := by
  obtain ⟨p, e, R', s, m, args, below, meth, c⟩ := F
  obtain ⟨hR, hx, hb, hml, hown, hts, hU, hr, hlk, hnm, hB⟩ := C
  intro H locs ls hP hS hl
  exact lv_lshl hx hb hd rfl (kk H locs ls hP hS hl)
theorem ab_lshr (C : ab_C G F R cc nL own ret nm) {x : Int64} {y : Int32} (hd : decode cc pc = .ok (.lshr, 1)) (kk : ab_W l G F nL Q k n h lv (.long (x >>> (y.toInt64 &&& 63)) :: st) (pc + 1)) : ab_W l G F nL Q k n h lv (.int y :: .long x :: st) pc := by
  obtain ⟨p, e, R', s, m, args, below, meth, c⟩ := F
  obtain ⟨hR, hx, hb, hml, hown, hts, hU, hr, hlk, hnm, hB⟩ := C
  intro H locs ls hP hS hl
  exact lv_lshr hx hb hd rfl (kk H locs ls hP hS hl)
theorem ab_lcmp (C : ab_C G F R cc nL own ret nm) {x y : Int64} (hd : decode cc pc = .ok (.lcmp, 1)) (kk : ab_W l G F nL Q k n h lv (.int (lg_cmp x y) :: st) (pc + 1)) : ab_W l G F nL Q k n h lv (.long y :: .long x :: st) pc := by
  obtain ⟨p, e, R', s, m, args, below, meth, c⟩ := F
  obtain ⟨hR, hx, hb, hml, hown, hts, hU, hr, hlk, hnm, hB⟩ := C
  intro H locs ls hP hS hl
  exact W.lcmp hx hb hd (kk H locs ls hP hS hl)
theorem ab_dup (C : ab_C G F R cc nL own ret nm) {va : Value} (hd : decode cc pc = .ok (.dup, 1)) (h1 : va.category = 1) (kk : ab_W l G F nL Q k n h lv (va :: va :: st) (pc + 1)) : ab_W l G F nL Q k n h lv (va :: st) pc := by
  obtain ⟨p, e, R', s, m, args, below, meth, c⟩ := F
  obtain ⟨hR, hx, hb, hml, hown, hts, hU, hr, hlk, hnm, hB⟩ := C
  intro H locs ls hP hS hl
  exact lv_dup hx hb hd h1 (kk H locs ls hP hS hl)
theorem ab_pop (C : ab_C G F R cc nL own ret nm) {va : Value} (hd : decode cc pc = .ok (.pop, 1)) (h1 : va.category = 1) (kk : ab_W l G F nL Q k n h lv (st) (pc + 1)) : ab_W l G F nL Q k n h lv (va :: st) pc := by
  obtain ⟨p, e, R', s, m, args, below, meth, c⟩ := F
  obtain ⟨hR, hx, hb, hml, hown, hts, hU, hr, hlk, hnm, hB⟩ := C
  intro H locs ls hP hS hl
  exact lv_pop hx hb hd h1 (kk H locs ls hP hS hl)
theorem ab_dup_x1 (C : ab_C G F R cc nL own ret nm) {va vb : Value} (hd : decode cc pc = .ok (.dup_x1, 1)) (h1 : va.category = 1) (h2 : vb.category = 1) (kk : ab_W l G F nL Q k n h lv (va :: vb :: va :: st) (pc + 1)) : ab_W l G F nL Q k n h lv (va :: vb :: st) pc := by
  obtain ⟨p, e, R', s, m, args, below, meth, c⟩ := F
  obtain ⟨hR, hx, hb, hml, hown, hts, hU, hr, hlk, hnm, hB⟩ := C
  intro H locs ls hP hS hl
  exact lv_dup_x1 hx hb hd h1 h2 (kk H locs ls hP hS hl)
theorem ab_dup_x2 (C : ab_C G F R cc nL own ret nm) {va vb vd : Value} (hd : decode cc pc = .ok (.dup_x2, 1)) (h1 : va.category = 1) (h2 : vb.category = 1) (h3 : vd.category = 1) (kk : ab_W l G F nL Q k n h lv (va :: vb :: vd :: va :: st) (pc + 1)) : ab_W l G F nL Q k n h lv (va :: vb :: vd :: st) pc := by
  obtain ⟨p, e, R', s, m, args, below, meth, c⟩ := F
  obtain ⟨hR, hx, hb, hml, hown, hts, hU, hr, hlk, hnm, hB⟩ := C
  intro H locs ls hP hS hl
  exact lv_dup_x2 hx hb hd h1 h2 h3 (kk H locs ls hP hS hl)
theorem ab_dup2 (C : ab_C G F R cc nL own ret nm) {va vb : Value} (hd : decode cc pc = .ok (.dup2, 1)) (h1 : va.category = 1) (h2 : vb.category = 1) (kk : ab_W l G F nL Q k n h lv (va :: vb :: va :: vb :: st) (pc + 1)) : ab_W l G F nL Q k n h lv (va :: vb :: st) pc := by
  obtain ⟨p, e, R', s, m, args, below, meth, c⟩ := F
  obtain ⟨hR, hx, hb, hml, hown, hts, hU, hr, hlk, hnm, hB⟩ := C
  intro H locs ls hP hS hl
  exact lv_dup2_11 hx hb hd h1 h2 (kk H locs ls hP hS hl)
theorem ab_if_eq (C : ab_C G F R cc nL own ret nm) {x : Int32} {off : Int} {tgt : Nat} (hd : decode cc pc = .ok (.ifCond .eq off, 3)) (ht : (pc : Int) + off = (tgt : Int)) (kt : x = 0 → ab_W l G F nL Q k n h lv st tgt) (kf : ¬ x = 0 → ab_W l G F nL Q k n h lv st (pc + 3)) : ab_W l G F nL Q k n h lv (.int x :: st) pc := by
  obtain ⟨p, e, R', s, m, args, below, meth, c⟩ := F
  obtain ⟨hR, hx, hb, hml, hown, hts, hU, hr, hlk, hnm, hB⟩ := C
  intro H locs ls hP hS hl
  exact lv_if_eq hx hb hd ht (fun z => kt z H locs ls hP hS hl) (fun z => kf z H locs ls hP hS hl)
theorem ab_icmp_eq (C : ab_C G F R cc nL own ret nm) {x y : Int32} {off : Int} {tgt : Nat} (hd : decode cc pc = .ok (.if_icmp .eq off, 3)) (ht : (pc : Int) + off = (tgt : Int)) (kt : x = y → ab_W l G F nL Q k n h lv st tgt) (kf : ¬ x = y → ab_W l G F nL Q k n h lv st (pc + 3)) : ab_W l G F nL Q k n h lv (.int y :: .int x :: st) pc := by
  obtain ⟨p, e, R', s, m, args, below, meth, c⟩ := F
  obtain ⟨hR, hx, hb, hml, hown, hts, hU, hr, hlk, hnm, hB⟩ := C
  intro H locs ls hP hS hl
  exact lv_icmp_eq hx hb hd ht (fun z => kt z H locs ls hP hS hl) (fun z => kf z H locs ls hP hS hl)
theorem ab_if_ne (C : ab_C G F R cc nL own ret nm) {x : Int32} {off : Int} {tgt : Nat} (hd : decode cc pc = .ok (.ifCond .ne off, 3)) (ht : (pc : Int) + off = (tgt : Int)) (kt : ¬ x = 0 → ab_W l G F nL Q k n h lv st tgt) (kf : x = 0 → ab_W l G F nL Q k n h lv st (pc + 3)) : ab_W l G F nL Q k n h lv (.int x :: st) pc := by
  obtain ⟨p, e, R', s, m, args, below, meth, c⟩ := F
  obtain ⟨hR, hx, hb, hml, hown, hts, hU, hr, hlk, hnm, hB⟩ := C
  intro H locs ls hP hS hl
  exact lv_if_ne hx hb hd ht (fun z => kt z H locs ls hP hS hl) (fun z => kf (by simpa using z) H locs ls hP hS hl)
theorem ab_icmp_ne (C : ab_C G F R cc nL own ret nm) {x y : Int32} {off : Int} {tgt : Nat} (hd : decode cc pc = .ok (.if_icmp .ne off, 3)) (ht : (pc : Int) + off = (tgt : Int)) (kt : ¬ x = y → ab_W l G F nL Q k n h lv st tgt) (kf : x = y → ab_W l G F nL Q k n h lv st (pc + 3)) : ab_W l G F nL Q k n h lv (.int y :: .int x :: st) pc := by
  obtain ⟨p, e, R', s, m, args, below, meth, c⟩ := F
  obtain ⟨hR, hx, hb, hml, hown, hts, hU, hr, hlk, hnm, hB⟩ := C
  intro H locs ls hP hS hl
  exact lv_icmp_ne hx hb hd ht (fun z => kt z H locs ls hP hS hl) (fun z => kf (by simpa using z) H locs ls hP hS hl)
theorem ab_if_lt (C : ab_C G F R cc nL own ret nm) {x : Int32} {off : Int} {tgt : Nat} (hd : decode cc pc = .ok (.ifCond .lt off, 3)) (ht : (pc : Int) + off = (tgt : Int)) (kt : x < 0 → ab_W l G F nL Q k n h lv st tgt) (kf : ¬ x < 0 → ab_W l G F nL Q k n h lv st (pc + 3)) : ab_W l G F nL Q k n h lv (.int x :: st) pc := by
  obtain ⟨p, e, R', s, m, args, below, meth, c⟩ := F
  obtain ⟨hR, hx, hb, hml, hown, hts, hU, hr, hlk, hnm, hB⟩ := C
  intro H locs ls hP hS hl
  exact lv_if_lt hx hb hd ht (fun z => kt z H locs ls hP hS hl) (fun z => kf z H locs ls hP hS hl)
theorem ab_icmp_lt (C : ab_C G F R cc nL own ret nm) {x y : Int32} {off : Int} {tgt : Nat} (hd : decode cc pc = .ok (.if_icmp .lt off, 3)) (ht : (pc : Int) + off = (tgt : Int)) (kt : x < y → ab_W l G F nL Q k n h lv st tgt) (kf : ¬ x < y → ab_W l G F nL Q k n h lv st (pc + 3)) : ab_W l G F nL Q k n h lv (.int y :: .int x :: st) pc := by
  obtain ⟨p, e, R', s, m, args, below, meth, c⟩ := F
  obtain ⟨hR, hx, hb, hml, hown, hts, hU, hr, hlk, hnm, hB⟩ := C
  intro H locs ls hP hS hl
  exact lv_icmp_lt hx hb hd ht (fun z => kt z H locs ls hP hS hl) (fun z => kf z H locs ls hP hS hl)
theorem ab_if_ge (C : ab_C G F R cc nL own ret nm) {x : Int32} {off : Int} {tgt : Nat} (hd : decode cc pc = .ok (.ifCond .ge off, 3)) (ht : (pc : Int) + off = (tgt : Int)) (kt : 0 ≤ x → ab_W l G F nL Q k n h lv st tgt) (kf : ¬ 0 ≤ x → ab_W l G F nL Q k n h lv st (pc + 3)) : ab_W l G F nL Q k n h lv (.int x :: st) pc := by
  obtain ⟨p, e, R', s, m, args, below, meth, c⟩ := F
  obtain ⟨hR, hx, hb, hml, hown, hts, hU, hr, hlk, hnm, hB⟩ := C
  intro H locs ls hP hS hl
  exact lv_if_ge hx hb hd ht (fun z => kt z H locs ls hP hS hl) (fun z => kf z H locs ls hP hS hl)
theorem ab_icmp_ge (C : ab_C G F R cc nL own ret nm) {x y : Int32} {off : Int} {tgt : Nat} (hd : decode cc pc = .ok (.if_icmp .ge off, 3)) (ht : (pc : Int) + off = (tgt : Int)) (kt : y ≤ x → ab_W l G F nL Q k n h lv st tgt) (kf : ¬ y ≤ x → ab_W l G F nL Q k n h lv st (pc + 3)) : ab_W l G F nL Q k n h lv (.int y :: .int x :: st) pc := by
  obtain ⟨p, e, R', s, m, args, below, meth, c⟩ := F
  obtain ⟨hR, hx, hb, hml, hown, hts, hU, hr, hlk, hnm, hB⟩ := C
  intro H locs ls hP hS hl
  exact lv_icmp_ge hx hb hd ht (fun z => kt z H locs ls hP hS hl) (fun z => kf z H locs ls hP hS hl)
theorem ab_if_gt (C : ab_C G F R cc nL own ret nm) {x : Int32} {off : Int} {tgt : Nat} (hd : decode cc pc = .ok (.ifCond .gt off, 3)) (ht : (pc : Int) + off = (tgt : Int)) (kt : 0 < x → ab_W l G F nL Q k n h lv st tgt) (kf : ¬ 0 < x → ab_W l G F nL Q k n h lv st (pc + 3)) : ab_W l G F nL Q k n h lv (.int x :: st) pc := by
  obtain ⟨p, e, R', s, m, args, below, meth, c⟩ := F
  obtain ⟨hR, hx, hb, hml, hown, hts, hU, hr, hlk, hnm, hB⟩ := C
  intro H locs ls hP hS hl
  exact lv_if_gt hx hb hd ht (fun z => kt z H locs ls hP hS hl) (fun z => kf z H locs ls hP hS hl)
theorem ab_icmp_gt (C : ab_C G F R cc nL own ret nm) {x y : Int32} {off : Int} {tgt : Nat} (hd : decode cc pc = .ok (.if_icmp .gt off, 3)) (ht : (pc : Int) + off = (tgt : Int)) (kt : y < x → ab_W l G F nL Q k n h lv st tgt) (kf : ¬ y < x → ab_W l G F nL Q k n h lv st (pc + 3)) : ab_W l G F nL Q k n h lv (.int y :: .int x :: st) pc := by
  obtain ⟨p, e, R', s, m, args, below, meth, c⟩ := F
  obtain ⟨hR, hx, hb, hml, hown, hts, hU, hr, hlk, hnm, hB⟩ := C
  intro H locs ls hP hS hl
  exact lv_icmp_gt hx hb hd ht (fun z => kt z H locs ls hP hS hl) (fun z => kf z H locs ls hP hS hl)
theorem ab_if_le (C : ab_C G F R cc nL own ret nm) {x : Int32} {off : Int} {tgt : Nat} (hd : decode cc pc = .ok (.ifCond .le off, 3)) (ht : (pc : Int) + off = (tgt : Int)) (kt : x ≤ 0 → ab_W l G F nL Q k n h lv st tgt) (kf : ¬ x ≤ 0 → ab_W l G F nL Q k n h lv st (pc + 3)) : ab_W l G F nL Q k n h lv (.int x :: st) pc := by
  obtain ⟨p, e, R', s, m, args, below, meth, c⟩ := F
  obtain ⟨hR, hx, hb, hml, hown, hts, hU, hr, hlk, hnm, hB⟩ := C
  intro H locs ls hP hS hl
  exact lv_if_le hx hb hd ht (fun z => kt z H locs ls hP hS hl) (fun z => kf z H locs ls hP hS hl)
theorem ab_icmp_le (C : ab_C G F R cc nL own ret nm) {x y : Int32} {off : Int} {tgt : Nat} (hd : decode cc pc = .ok (.if_icmp .le off, 3)) (ht : (pc : Int) + off = (tgt : Int)) (kt : x ≤ y → ab_W l G F nL Q k n h lv st tgt) (kf : ¬ x ≤ y → ab_W l G F nL Q k n h lv st (pc + 3)) : ab_W l G F nL Q k n h lv (.int y :: .int x :: st) pc := by
  obtain ⟨p, e, R', s, m, args, below, meth, c⟩ := F
  obtain ⟨hR, hx, hb, hml, hown, hts, hU, hr, hlk, hnm, hB⟩ := C
  intro H locs ls hP hS hl
  exact lv_icmp_le hx hb hd ht (fun z => kt z H locs ls hP hS hl) (fun z => kf z H locs ls hP hS hl)
theorem ab_goto (C : ab_C G F R cc nL own ret nm) {off : Int} {tgt : Nat} (hd : decode cc pc = .ok (.goto off, 3)) (ht : (pc : Int) + off = (tgt : Int)) (kk : ab_W l G F nL Q k n h lv st tgt) : ab_W l G F nL Q k n h lv st pc := by
  obtain ⟨p, e, R', s, m, args, below, meth, c⟩ := F
  obtain ⟨hR, hx, hb, hml, hown, hts, hU, hr, hlk, hnm, hB⟩ := C
  intro H locs ls hP hS hl
  exact lv_goto hx hb hd ht (kk H locs ls hP hS hl)
theorem ab_ifnullR (C : ab_C G F R cc nL own ret nm) {x : Nat} {off : Int} (hd : decode cc pc = .ok (.ifnull off, 3)) (kk : ab_W l G F nL Q k n h lv st (pc + 3)) : ab_W l G F nL Q k n h lv (.ref x :: st) pc := by
  obtain ⟨p, e, R', s, m, args, below, meth, c⟩ := F
  obtain ⟨hR, hx, hb, hml, hown, hts, hU, hr, hlk, hnm, hB⟩ := C
  intro H locs ls hP hS hl
  exact lv_ifnull hx hb hd (kk H locs ls hP hS hl)
theorem ab_ifnullN (C : ab_C G F R cc nL own ret nm) {off : Int} {tgt : Nat} (hd : decode cc pc = .ok (.ifnull off, 3)) (ht : (pc : Int) + off = (tgt : Int)) (kk : ab_W l G F nL Q k n h lv st tgt) : ab_W l G F nL Q k n h lv (.null :: st) pc := by
  obtain ⟨p, e, R', s, m, args, below, meth, c⟩ := F
  obtain ⟨hR, hx, hb, hml, hown, hts, hU, hr, hlk, hnm, hB⟩ := C
  intro H locs ls hP hS hl
  exact lv_ifnullN hx hb hd ht (kk H locs ls hP hS hl)
theorem ab_ifnonnullR (C : ab_C G F R cc nL own ret nm) {x : Nat} {off : Int} {tgt : Nat} (hd : decode cc pc = .ok (.ifnonnull off, 3)) (ht : (pc : Int) + off = (tgt : Int)) (kk : ab_W l G F nL Q k n h lv st tgt) : ab_W l G F nL Q k n h lv (.ref x :: st) pc := by
  obtain ⟨p, e, R', s, m, args, below, meth, c⟩ := F
  obtain ⟨hR, hx, hb, hml, hown, hts, hU, hr, hlk, hnm, hB⟩ := C
  intro H locs ls hP hS hl
  exact lv_ifnonnull hx hb hd ht (kk H locs ls hP hS hl)
theorem ab_ifnonnullN (C : ab_C G F R cc nL own ret nm) {off : Int} (hd : decode cc pc = .ok (.ifnonnull off, 3)) (kk : ab_W l G F nL Q k n h lv st (pc + 3)) : ab_W l G F nL Q k n h lv (.null :: st) pc := by
  obtain ⟨p, e, R', s, m, args, below, meth, c⟩ := F
  obtain ⟨hR, hx, hb, hml, hown, hts, hU, hr, hlk, hnm, hB⟩ := C
  intro H locs ls hP hS hl
  exact lv_ifnonnullN hx hb hd (kk H locs ls hP hS hl)
theorem ab_tabIn (C : ab_C G F R cc nL own ret nm) {dflt lo hi : Int} {offs : Array Int} {len : Nat} {x : Int32} {off : Int} {tgt : Nat} (hd : decode cc pc = .ok (.tableswitch dflt lo hi offs, len)) (h1 : ¬ x.toInt < lo) (h2 : ¬ hi < x.toInt) (ho : offs[(x.toInt - lo).toNat]? = some off) (ht : (pc : Int) + off = (tgt : Int)) (kk : ab_W l G F nL Q k n h lv st tgt) : ab_W l G F nL Q k n h lv (.int x :: st) pc := by
  obtain ⟨p, e, R', s, m, args, below, meth, c⟩ := F
  obtain ⟨hR, hx, hb, hml, hown, hts, hU, hr, hlk, hnm, hB⟩ := C
  intro H locs ls hP hS hl
  exact lv_tableIn hx hb hd h1 h2 ho ht (kk H locs ls hP hS hl)
theorem ab_tabOut (C : ab_C G F R cc nL own ret nm) {dflt lo hi : Int} {offs : Array Int} {len : Nat} {x : Int32} {tgt : Nat} (hd : decode cc pc = .ok (.tableswitch dflt lo hi offs, len)) (h1 : x.toInt < lo ∨ hi < x.toInt) (ht : (pc : Int) + dflt = (tgt : Int)) (kk : ab_W l G F nL Q k n h lv st tgt) : ab_W l G F nL Q k n h lv (.int x :: st) pc := by
  obtain ⟨p, e, R', s, m, args, below, meth, c⟩ := F
  obtain ⟨hR, hx, hb, hml, hown, hts, hU, hr, hlk, hnm, hB⟩ := C
  intro H locs ls hP hS hl
  exact lv_tableOut hx hb hd h1 ht (kk H locs ls hP hS hl)
theorem ab_lookup (C : ab_C G F R cc nL own ret nm) {dflt : Int} {ps : Array (Int × Int)} {len : Nat} {x : Int32} {off : Int} {tgt : Nat} (hd : decode cc pc = .ok (.lookupswitch dflt ps, len)) (hp : (ps.toList.zip (ps.toList.drop 1)).all (fun (a, next) => a.1 < next.1) = true) (ho : Op.lookupswitch.offset ps.toList dflt x.toInt = off) (ht : (pc : Int) + off = (tgt : Int)) (kk : ab_W l G F nL Q k n h lv st tgt) : ab_W l G F nL Q k n h lv (.int x :: st) pc := by
  obtain ⟨p, e, R', s, m, args, below, meth, c⟩ := F
  obtain ⟨hR, hx, hb, hml, hown, hts, hU, hr, hlk, hnm, hB⟩ := C
  intro H locs ls hP hS hl
  exact lv_lookup hx hb hd hp ho ht (kk H locs ls hP hS hl)
/-- the locals that go on, in another order -/
theorem ab_sub {lv' : List (Nat × Value)} (ks : List Nat) (hs : lv_pick lv ks = lv') (kk : ab_W l G F nL Q k n h lv' st pc) : ab_W l G F nL Q k n h lv st pc := by
  obtain ⟨p, e, R', s, m, args, below, meth, c⟩ := F
  intro H locs ls hP hS hl
  exact kk H locs ls hP hS (lv_sub hl ks hs)
theorem ab_widen {k' n' : Nat} (h1 : k ≤ k') (h2 : n ≤ n') (kk : ab_W l G F nL Q k' n' h lv st pc) : ab_W l G F nL Q k n h lv st pc := by
  obtain ⟨p, e, R', s, m, args, below, meth, c⟩ := F
  intro H locs ls hP hS hl
  exact W.widen h1 h2 (kk H locs ls hP hS hl)
theorem ab_ldc (C : ab_C G F R cc nL own ret nm) {idx : Nat} {v : Int32} (hw : Cond.constant own idx v ∈ ab_ws) (hd : decode cc pc = .ok (.ldc idx, 2)) (kk : ab_W l G F nL Q k n h lv (.int v :: st) (pc + 2)) : ab_W l G F nL Q k n h lv st pc := by
  obtain ⟨p, e, R', s, m, args, below, meth, c⟩ := F
  obtain ⟨hR, hx, hb, hml, hown, hts, hU, hr, hlk, hnm, hB⟩ := C
  intro H locs ls hP hS hl
  exact W.ldc hx hb hown (hts _ hw) rfl hd (kk H locs ls hP hS hl)
theorem ab_ldcw (C : ab_C G F R cc nL own ret nm) {idx : Nat} {v : Int32} (hw : Cond.constant own idx v ∈ ab_ws) (hd : decode cc pc = .ok (.ldc_w idx, 3)) (kk : ab_W l G F nL Q k n h lv (.int v :: st) (pc + 3)) : ab_W l G F nL Q k n h lv st pc := by
  obtain ⟨p, e, R', s, m, args, below, meth, c⟩ := F
  obtain ⟨hR, hx, hb, hml, hown, hts, hU, hr, hlk, hnm, hB⟩ := C
  intro H locs ls hP hS hl
  exact lv_ldcw hx hb hown (hts _ hw) hd (kk H locs ls hP hS hl)
theorem ab_ldc2 (C : ab_C G F R cc nL own ret nm) {idx : Nat} {v : Int64} (hw : Cond.constantLong own idx v ∈ ab_ws) (hd : decode cc pc = .ok (.ldc2_w idx, 3)) (kk : ab_W l G F nL Q k n h lv (.long v :: st) (pc + 3)) : ab_W l G F nL Q k n h lv st pc := by
  obtain ⟨p, e, R', s, m, args, below, meth, c⟩ := F
  obtain ⟨hR, hx, hb, hml, hown, hts, hU, hr, hlk, hnm, hB⟩ := C
  intro H locs ls hP hS hl
  exact W.ldc2 hx hb hown (hts _ hw) rfl hd (kk H locs ls hP hS hl)
theorem ab_iret (C : ab_C G F R cc nL own (some .int) nm) {v : Int32} (hd : decode cc pc = .ok (.ireturn, 1)) (hq : post (some (.int v)) h) : ab_W l G F nL (ab_MQ G F post k n) k n h lv [.int v] pc := by
  obtain ⟨p, e, R', s, m, args, below, meth, c⟩ := F
  obtain ⟨hR, hx, hb, hml, hown, hts, hU, hr, hlk, hnm, hB⟩ := C
  intro H locs ls hP hS hl
  exact W.iret hx hb hr (fun t ht hW => ⟨⟨_, h, rfl, hq, by rw [ht]; exact hP⟩, hS.F ht⟩) hS.2.2 hd hlk
theorem ab_zret (C : ab_C G F R cc nL own (some .boolean) nm) {v : Int32} (hd : decode cc pc = .ok (.ireturn, 1)) (hz : narrow .boolean (.int v) = .int v) (hq : post (some (.int v)) h) : ab_W l G F nL (ab_MQ G F post k n) k n h lv [.int v] pc := by
  obtain ⟨p, e, R', s, m, args, below, meth, c⟩ := F
  obtain ⟨hR, hx, hb, hml, hown, hts, hU, hr, hlk, hnm, hB⟩ := C
  intro H locs ls hP hS hl
  exact W.zret hx hb hr hz (fun t ht hW => ⟨⟨_, h, rfl, hq, by rw [ht]; exact hP⟩, hS.F ht⟩) hS.2.2 hd hlk
theorem ab_vret (C : ab_C G F R cc nL own none nm) (hd : decode cc pc = .ok (.return_, 1)) (hq : post none h) : ab_W l G F nL (ab_MQ G F post k n) k n h lv [] pc := by
  obtain ⟨p, e, R', s, m, args, below, meth, c⟩ := F
  obtain ⟨hR, hx, hb, hml, hown, hts, hU, hr, hlk, hnm, hB⟩ := C
  intro H locs ls hP hS hl
  exact W.vret hx hb hr (fun t ht hW => ⟨⟨_, h, rfl, hq, by rw [ht]; exact hP⟩, hS.F ht⟩) hS.2.2 hd hlk
theorem ab_aret {E : String} (C : ab_C G F R cc nL own (some (.object E)) nm) {v : Value} (hv : v = .null ∨ ∃ a, v = .ref a) (hd : decode cc pc = .ok (.areturn, 1)) (hq : post (some v) h) : ab_W l G F nL (ab_MQ G F post k n) k n h lv [v] pc := by
  obtain ⟨p, e, R', s, m, args, below, meth, c⟩ := F
  obtain ⟨hR, hx, hb, hml, hown, hts, hU, hr, hlk, hnm, hB⟩ := C
  intro H locs ls hP hS hl
  exact W.aret hx hb hr (Or.inl ⟨_, rfl⟩) hv (fun t ht hW => ⟨⟨_, h, rfl, hq, by rw [ht]; exact hP⟩, hS.F ht⟩) hS.2.2 hd hlk

end AB
