/-! ===== calls ===== -/
def ab_ok (y : MethodName) (n : Nat) : Prop := y.cls ≠ "java/lang/invoke/MethodHandle" ∧ y.cls ≠ "java/lang/invoke/VarHandle" ∧ (parseMethodDescriptor y.desc).map (fun d => d.parameters.length) = some n
/-- a static call, a static call of a nest mate's private method -/
def ab_LS (own : String) (idx : Nat) (y : MethodName) (cc : ByteArray) (nL : Nat) (ret : Option FieldType) (n : Nat) : Prop := Cond.methodLink own idx y ∈ ab_ws ∧ Cond.static y ∈ ab_ws ∧ Cond.initialized y.cls ∈ ab_ws ∧ Cond.code y cc nL ret ∈ ab_ws ∧ ab_ok y n
def ab_LN (own : String) (idx : Nat) (host : String) (y : MethodName) (cc : ByteArray) (nL : Nat) (ret : Option FieldType) (n : Nat) : Prop := (∀ U, ab_N U → va_Nw (.methodLinkNest own idx y host) U) ∧ Cond.static y ∈ ab_ws ∧ Cond.initialized y.cls ∈ ab_ws ∧ Cond.code y cc nL ret ∈ ab_ws ∧ ab_ok y n
/-- a virtual call -/
def ab_LV (own : String) (idx : Nat) (y : MethodName) (cc : ByteArray) (nL : Nat) (ret : Option FieldType) (n : Nat) : Prop := Cond.methodLink own idx y ∈ ab_ws ∧ Cond.instanceMethod y ∈ ab_ws ∧ Cond.selects y.cls y y ∈ ab_ws ∧ Cond.initialized y.cls ∈ ab_ws ∧ Cond.code y cc nL ret ∈ ab_ws ∧ ab_ok y n
/-- a constructor's call, that of a nest mate's private one -/
def ab_LI (own : String) (idx : Nat) (y : MethodName) (cc : ByteArray) (nL : Nat) (n : Nat) : Prop := Cond.methodLink own idx y ∈ ab_ws ∧ Cond.instanceMethod y ∈ ab_ws ∧ y.name = "<init>" ∧ Cond.initialized y.cls ∈ ab_ws ∧ Cond.code y cc nL none ∈ ab_ws ∧ ab_ok y n
def ab_LJ (own : String) (idx : Nat) (host : String) (y : MethodName) (cc : ByteArray) (nL : Nat) (n : Nat) : Prop := (∀ U, ab_N U → va_Nw (.methodLinkNest own idx y host) U) ∧ Cond.instanceMethod y ∈ ab_ws ∧ y.name = "<init>" ∧ Cond.initialized y.cls ∈ ab_ws ∧ Cond.code y cc nL none ∈ ab_ws ∧ ab_ok y n
/-- the callee's room within the caller's -/
def ab_fit (rm R : Room) (nL mc ms k n : Nat) : Prop := rm.cells = mc ∧ rm.slots = ms ∧ rm.frames + 1 ≤ R.frames ∧ 8 + (nL + 11) + rm.locals ≤ R.locals ∧ k + mc ≤ R.cells ∧ n + ms ≤ R.slots
theorem ab_blind (G : ab_G) (h : hp_T) (av : List Value) : FrameBlind (va_Pc av (fun U => ab_P G h U.heap ∧ ab_U G U)) := fun a U g mk q => ⟨q.1, q.2.1, q.2.2.blind g mk a⟩
theorem ab_pre {G : ab_G} {h : hp_T} {s : State} {H : Heap} {locs : List Loc} {av : List Value} (hU : ab_U G s) (hP : ab_P G h H) (hS : va_S (fun q => G.1 ≤ q) s.heap H locs) : ∀ U : State, U.heap = H → s.WarmedH U.vm → va_Pc av (fun U => ab_P G h U.heap ∧ ab_U G U) av.toArray U :=
  fun U hUH hW => ⟨rfl, by rw [hUH]; exact hP, hU.moved (fun q h1 h2 => by rw [hUH]; exact hS.2.1 q h1 h2) hW⟩
theorem ab_recv {G : ab_G} {h : hp_T} {s : State} {H : Heap} {b ci : Nat} {CN : String} {T : u_T} {N : Nat} (hU : ab_U G s) (hP : ab_P G h H) (hc : vwCl[ci]? = some (CN, T, N)) (hci : ci < 9) (ht : ab_k b = ci) (hn : b < hp_n h) : ∃ cell : Cell, H[G.1 + b]? = some cell ∧ cell.vm.isStatics = false ∧ s.vm.findClass CN = some cell.cls := by
  have hat := hP.2 b hn
  rw [ab_e_o ht hci] at hat
  exact va_recv hU.1.1 (ab_at1 hat) (ci := ci) (q0 := 0) hc rfl
section AB
variable {l : Launch} {G : ab_G} {F : ab_F} {R : Room} {cc : ByteArray} {nL : Nat} {own : String} {ret : Option FieldType} {nm : String} {Q : State → Prop} {k n : Nat} {h : hp_T} {lv : List (Nat × Value)} {st : List Value} {pc : Nat} {post : Option Value → hp_T → Prop}
theorem ab_run {p : Program} {e : Env} {s : State} {m : MethodId} {args : Array Value} {below : List Frame} {meth : Method} {c : Code} {H : Heap} {locs : List Loc} {ls : Array Slot} {mc ms : Nat} {rest st0 : List Value} {a : Array Value} (hr : va_Run p l e R s m args below meth c H locs k n mc ms (F0 m pc ls st0) rest (ab_Q G post a) (fun q => G.1 ≤ q)) (hS : va_S (fun q => G.1 ≤ q) s.heap H locs)
    (kk : ∀ (r : Option Value) (h1 : hp_T), post r h1 → ∀ (H1 : Heap) (locs1 : List Loc), ab_P G h1 H1 → va_S (fun q => G.1 ≤ q) s.heap H1 locs1 → W p l e R s m args below meth c H1 locs1 (k + mc) (n + ms) Q (F0 m (pc + 3) ls (r.toList ++ rest))) : W p l e R s m args below meth c H locs k n Q (F0 m pc ls st0) := by
  intro T hT X
  obtain ⟨v, st₀, t, T', L, h0, X', hL, e1, e2, ⟨⟨r, h1, hv, hp, hb⟩, hz, hk⟩, st⟩ := hr T hT X
  cases hv
  rw [h0] at hz hk
  obtain ⟨t2, a1, b1⟩ := kk v h1 hp T'.heap (locs ++ L) (by rw [e1]; exact hb)
    ⟨Nat.le_trans hS.1 (by rw [e1]; exact hz), fun q g1 g2 => by rw [e1, hk q (Nat.lt_of_lt_of_le g1 hS.1) g2]; exact hS.2.1 q g1 g2, fun q hq => by
      rcases List.mem_append.mp hq with g | g
      · exact hS.2.2 q g
      · exact hL q g⟩ T' rfl X'
  exact ⟨t2, st t2 a1, b1⟩
theorem ab_callS (C : ab_C G F R cc nL own ret nm) {idx : Nat} {y : MethodName} {cb : ByteArray} {nb nn mc ms : Nat} {rt : Option FieldType} {rm : Room} (As : List Value) (lk : ab_LS own idx y cb nb rt nn) (M : ab_M l G y cb nb rt rm mc ms As h post) (hfit : ab_fit rm R nb mc ms k n) (hlen : As.length = nn) {rest : List Value} (hst : st = As.reverse ++ rest) (hW : (rest.map fun v => v.category).sum ≤ 8) (hd : decode cc pc = .ok (.invokestatic idx, 3))
    (kk : ∀ (r : Option Value) (h1 : hp_T), post r h1 → ab_W l G F nL Q (k + mc) (n + ms) h1 lv (r.toList ++ rest) (pc + 3)) : ab_W l G F nL Q k n h lv st pc := by
  obtain ⟨p, e, R', s, m, args, below, meth, c⟩ := F
  obtain ⟨hR, hx, hb, hml, hown, hts, hU, hr, hlk, hnm, hB⟩ := C
  intro H locs ls hP hS hl
  subst hR
  obtain ⟨l1, l2, l3, l4, l5⟩ := lk
  obtain ⟨f1, f2, f3, f4, f5, f6⟩ := hfit
  exact ab_run (va_runS (Ts := ab_ws) (own := own) ⟨hx, hb, hml, hown, hts⟩ M ⟨callB_of nn hts (ab_goodIn0 l4) rfl f1 f2 (hts _ l3) (hts _ l1) l5 ⟨f3, f4⟩, hts _ l2⟩ ⟨ab_blind G h As, ab_pre hU hP hS⟩ rfl hlen hl.1 hst (lv_room hW) hd ⟨f5, f6⟩) hS (fun r h1 hq H1 locs1 hP1 hS1 => kk r h1 hq H1 locs1 ls hP1 hS1 hl)
theorem ab_callN (C : ab_C G F R cc nL own ret nm) {idx : Nat} {host : String} {y : MethodName} {cb : ByteArray} {nb nn mc ms : Nat} {rt : Option FieldType} {rm : Room} (As : List Value) (lk : ab_LN own idx host y cb nb rt nn) (M : ab_M l G y cb nb rt rm mc ms As h post) (hfit : ab_fit rm R nb mc ms k n) (hlen : As.length = nn) {rest : List Value} (hst : st = As.reverse ++ rest) (hW : (rest.map fun v => v.category).sum ≤ 8) (hd : decode cc pc = .ok (.invokestatic idx, 3))
    (kk : ∀ (r : Option Value) (h1 : hp_T), post r h1 → ab_W l G F nL Q (k + mc) (n + ms) h1 lv (r.toList ++ rest) (pc + 3)) : ab_W l G F nL Q k n h lv st pc := by
  obtain ⟨p, e, R', s, m, args, below, meth, c⟩ := F
  obtain ⟨hR, hx, hb, hml, hown, hts, hU, hr, hlk, hnm, hB⟩ := C
  intro H locs ls hP hS hl
  subst hR
  obtain ⟨l1, l2, l3, l4, l5⟩ := lk
  obtain ⟨f1, f2, f3, f4, f5, f6⟩ := hfit
  exact ab_run (va_runSN (Ts := ab_ws) (own := own) (host := host) ⟨hx, hb, hml, hown, hts⟩ M ⟨va_cnB nn hts (ab_goodIn0 l4) rfl f1 f2 (l1 s hU.1.2) (hts _ l3) l5 ⟨f3, f4⟩, hts _ l2, trivial⟩ ⟨ab_blind G h As, ab_pre hU hP hS⟩ rfl hlen hl.1 hst (lv_room hW) hd ⟨f5, f6⟩) hS (fun r h1 hq H1 locs1 hP1 hS1 => kk r h1 hq H1 locs1 ls hP1 hS1 hl)
theorem ab_callV (C : ab_C G F R cc nL own ret nm) {idx : Nat} {y : MethodName} {cb : ByteArray} {nb nn mc ms b ci : Nat} {T : u_T} {N : Nat} {rt : Option FieldType} {rm : Room} (As : List Value) (lk : ab_LV own idx y cb nb rt nn) (M : ab_M l G y cb nb rt rm mc ms (.ref (G.1 + b) :: As) h post) (hc : vwCl[ci]? = some (y.cls, T, N)) (hci : ci < 9) (ht : ab_k b = ci) (hn : b < hp_n h) (hfit : ab_fit rm R nb mc ms k n) (hlen : As.length = nn) {rest : List Value} (hst : st = As.reverse ++ .ref (G.1 + b) :: rest) (hW : (rest.map fun v => v.category).sum ≤ 8) (hd : decode cc pc = .ok (.invokevirtual idx, 3))
    (kk : ∀ (r : Option Value) (h1 : hp_T), post r h1 → ab_W l G F nL Q (k + mc) (n + ms) h1 lv (r.toList ++ rest) (pc + 3)) : ab_W l G F nL Q k n h lv st pc := by
  obtain ⟨p, e, R', s, m, args, below, meth, c⟩ := F
  obtain ⟨hR, hx, hb, hml, hown, hts, hU, hr, hlk, hnm, hB⟩ := C
  intro H locs ls hP hS hl
  subst hR
  obtain ⟨l1, l2, l3, l4, l5, l6⟩ := lk
  obtain ⟨f1, f2, f3, f4, f5, f6⟩ := hfit
  exact ab_run (va_runV (Ts := ab_ws) (own := own) (C := y.cls) ⟨hx, hb, hml, hown, hts⟩ M ⟨callB_of nn hts (ab_goodIn0 l5) rfl f1 f2 (hts _ l4) (hts _ l1) l6 ⟨f3, f4⟩, hts _ l2, hts _ l3⟩ ⟨ab_blind G h _, ab_recv hU hP hc hci ht hn, ab_pre hU hP hS⟩ rfl hlen hl.1 hst (lv_room hW) hd ⟨f5, f6⟩) hS (fun r h1 hq H1 locs1 hP1 hS1 => kk r h1 hq H1 locs1 ls hP1 hS1 hl)
theorem ab_callI (C : ab_C G F R cc nL own ret nm) {idx : Nat} {y : MethodName} {cb : ByteArray} {nb nn mc ms b : Nat} {rm : Room} (As : List Value) (lk : ab_LI own idx y cb nb nn) (M : ab_M l G y cb nb none rm mc ms (.ref (G.1 + b) :: As) h post) (hfit : ab_fit rm R nb mc ms k n) (hlen : As.length = nn) {rest : List Value} (hst : st = As.reverse ++ .ref (G.1 + b) :: rest) (hW : (rest.map fun v => v.category).sum ≤ 8) (hd : decode cc pc = .ok (.invokespecial idx, 3))
    (kk : ∀ (r : Option Value) (h1 : hp_T), post r h1 → ab_W l G F nL Q (k + mc) (n + ms) h1 lv (r.toList ++ rest) (pc + 3)) : ab_W l G F nL Q k n h lv st pc := by
  obtain ⟨p, e, R', s, m, args, below, meth, c⟩ := F
  obtain ⟨hR, hx, hb, hml, hown, hts, hU, hr, hlk, hnm, hB⟩ := C
  intro H locs ls hP hS hl
  subst hR
  obtain ⟨l1, l2, l3, l4, l5, l6⟩ := lk
  obtain ⟨f1, f2, f3, f4, f5, f6⟩ := hfit
  exact ab_run (va_runI (Ts := ab_ws) (own := own) ⟨hx, hb, hml, hown, hts⟩ M ⟨callB_of nn hts (ab_goodIn0 l5) rfl f1 f2 (hts _ l4) (hts _ l1) l6 ⟨f3, f4⟩, l3, hts _ l2⟩ ⟨ab_blind G h _, ab_pre hU hP hS⟩ rfl hlen hl.1 hst (lv_room hW) hd ⟨f5, f6⟩) hS (fun r h1 hq H1 locs1 hP1 hS1 => kk r h1 hq H1 locs1 ls hP1 hS1 hl)
theorem ab_callJ (C : ab_C G F R cc nL own ret nm) {idx : Nat} {host : String} {y : MethodName} {cb : ByteArray} {nb nn mc ms b : Nat} {rm : Room} (As : List Value) (lk : ab_LJ own idx host y cb nb nn) (M : ab_M l G y cb nb none rm mc ms (.ref (G.1 + b) :: As) h post) (hfit : ab_fit rm R nb mc ms k n) (hlen : As.length = nn) {rest : List Value} (hst : st = As.reverse ++ .ref (G.1 + b) :: rest) (hW : (rest.map fun v => v.category).sum ≤ 8) (hd : decode cc pc = .ok (.invokespecial idx, 3))
    (kk : ∀ (r : Option Value) (h1 : hp_T), post r h1 → ab_W l G F nL Q (k + mc) (n + ms) h1 lv (r.toList ++ rest) (pc + 3)) : ab_W l G F nL Q k n h lv st pc := by
  obtain ⟨p, e, R', s, m, args, below, meth, c⟩ := F
  obtain ⟨hR, hx, hb, hml, hown, hts, hU, hr, hlk, hnm, hB⟩ := C
  intro H locs ls hP hS hl
  subst hR
  obtain ⟨l1, l2, l3, l4, l5, l6⟩ := lk
  obtain ⟨f1, f2, f3, f4, f5, f6⟩ := hfit
  exact ab_run (va_runIN (Ts := ab_ws) (own := own) (host := host) ⟨hx, hb, hml, hown, hts⟩ M ⟨va_cnB nn hts (ab_goodIn0 l5) rfl f1 f2 (l1 s hU.1.2) (hts _ l4) l6 ⟨f3, f4⟩, l3, hts _ l2⟩ ⟨ab_blind G h _, ab_pre hU hP hS⟩ rfl hlen hl.1 hst (lv_room hW) hd ⟨f5, f6⟩) hS (fun r h1 hq H1 locs1 hP1 hS1 => kk r h1 hq H1 locs1 ls hP1 hS1 hl)
/-- Object's constructor -/
theorem ab_oinit (C : ab_C G F R cc nL own ret nm) {idx b : Nat} (hw : Cond.methodLink own idx objectInit ∈ ab_ws ∧ Cond.instanceMethod objectInit ∈ ab_ws ∧ Cond.code objectInit ⟨#[0xb1]⟩ 1 none ∈ ab_ws) (hf : 1 ≤ R.frames) (hlo : 30 ≤ R.locals) (hst : (st.map fun v => v.category).sum ≤ 8) (hd : decode cc pc = .ok (.invokespecial idx, 3)) (kk : ab_W l G F nL Q k n h lv st (pc + 3)) : ab_W l G F nL Q k n h lv (.ref (G.1 + b) :: st) pc := by
  obtain ⟨p, e, R', s, m, args, below, meth, c⟩ := F
  obtain ⟨hR, hx, hb, hml, hown, hts, hU, hr, hlk, hnm, hB⟩ := C
  intro H locs ls hP hS hl
  subst hR
  refine W.objInit hx hb hown (hts _ hw.1) (hts _ hw.2.1) (hts _ hw.2.2) rfl (by rw [hml]; exact hl.1) rfl hd hf (by show 2 * 0 + _ + 12 ≤ _; omega) ?_
  exact kk H locs ls hP hS hl
theorem ab_mmin (C : ab_C G F R cc nL own ret nm) {idx : Nat} {x y : Int32} (hw : Cond.methodLink own idx Lib.Math.min.name ∈ ab_ws ∧ Cond.static Lib.Math.min.name ∈ ab_ws ∧ Cond.initialized "java/lang/Math" ∈ ab_ws ∧ Cond.code Lib.Math.min.name Lib.Math.min.code 2 (some .int) ∈ ab_ws) (hf : 1 ≤ R.frames) (hlo : 30 ≤ R.locals) (hk : k ≤ R.cells) (hn : n ≤ R.slots) (hst : (st.map fun v => v.category).sum ≤ 8) (hd : decode cc pc = .ok (.invokestatic idx, 3)) (kk : ab_W l G F nL Q k n h lv (.int (if y < x then y else x) :: st) (pc + 3)) : ab_W l G F nL Q k n h lv (.int y :: .int x :: st) pc := by
  obtain ⟨p, e, R', s, m, args, below, meth, c⟩ := F
  obtain ⟨hR, hx, hb, hml, hown, hts, hU, hr, hlk, hnm, hB⟩ := C
  intro H locs ls hP hS hl
  subst hR
  exact va_mmin hx hb (hml.trans hl.1.symm) hown (hts _ hw.1) (hts _ hw.2.1) (hts _ hw.2.2.1) (hts _ hw.2.2.2) hf (by omega) hk hn hd (kk H locs ls hP hS hl)
theorem ab_mmax (C : ab_C G F R cc nL own ret nm) {idx : Nat} {x y : Int32} (hw : Cond.methodLink own idx Lib.Math.max.name ∈ ab_ws ∧ Cond.static Lib.Math.max.name ∈ ab_ws ∧ Cond.initialized "java/lang/Math" ∈ ab_ws ∧ Cond.code Lib.Math.max.name Lib.Math.max.code 2 (some .int) ∈ ab_ws) (hf : 1 ≤ R.frames) (hlo : 30 ≤ R.locals) (hk : k ≤ R.cells) (hn : n ≤ R.slots) (hst : (st.map fun v => v.category).sum ≤ 8) (hd : decode cc pc = .ok (.invokestatic idx, 3)) (kk : ab_W l G F nL Q k n h lv (.int (if x < y then y else x) :: st) (pc + 3)) : ab_W l G F nL Q k n h lv (.int y :: .int x :: st) pc := by
  obtain ⟨p, e, R', s, m, args, below, meth, c⟩ := F
  obtain ⟨hR, hx, hb, hml, hown, hts, hU, hr, hlk, hnm, hB⟩ := C
  intro H locs ls hP hS hl
  subst hR
  exact va_mmax hx hb (hml.trans hl.1.symm) hown (hts _ hw.1) (hts _ hw.2.1) (hts _ hw.2.2.1) (hts _ hw.2.2.2) hf (by omega) hk hn hd (kk H locs ls hP hS hl)
theorem ab_clamp {z : Int32} (hz : ¬ z < 0) : z.toInt = (z.toNatClampNeg : Int) := by
  have hz0 : (0 : Int) ≤ z.toInt := by
    have := Int32.not_lt.mp hz
    simpa using Int32.le_iff_toInt_le.mp this
  show z.toInt = ((z.toInt.toNat : Nat) : Int)
  omega
/-- System.arraycopy of ints, of bytes -/
def ab_row (a b t0 : Nat) (ty : FieldType) : Prop := (16 ≤ ab_k a ∧ 16 ≤ ab_k b ∧ t0 = 0 ∧ ty = .int) ∨ (ab_k a = 11 ∧ ab_k b = 11 ∧ t0 = 1 ∧ ty = .byte)
theorem ab_copy (C : ab_C G F R cc nL own ret nm) {idx a b Na Nb t0 : Nat} {ty : FieldType} {sp dp z : Int32} (hw : Cond.methodLink own idx arraycopyName ∈ ab_ws ∧ Cond.native arraycopyName ∈ ab_ws ∧ Cond.static arraycopyName ∈ ab_ws ∧ Cond.initialized "java/lang/System" ∈ ab_ws) (hab : ab_row a b t0 ty) (ha : a < hp_n h) (hbn : b < hp_n h) (hLa : hp_l h a = Na) (hLb : hp_l h b = Nb) (h1 : ¬ sp < 0) (h2 : ¬ dp < 0) (h3 : ¬ z < 0) {s0 d0 z0 : Nat} (hs : sp.toNatClampNeg = s0) (hdd : dp.toNatClampNeg = d0) (hz : z.toNatClampNeg = z0) (h4 : s0 + z0 ≤ Na) (h5 : d0 + z0 ≤ Nb) (hfit : ∀ i, i < z0 → fits ty (.int (hp_i h a (s0 + i))) = true)
    (hf : 1 ≤ R.frames) (hlo : nativeFrameWords "java/lang/System" "arraycopy" 5 + 20 ≤ R.locals) (hst : (st.map fun v => v.category).sum ≤ 8) (hd : decode cc pc = .ok (.invokestatic idx, 3)) (kk : ∀ h1, h1 = hp_cp h a s0 b d0 z0 → ab_W l G F nL Q k n h1 lv st (pc + 3)) : ab_W l G F nL Q k n h lv (.int z :: .int dp :: .ref (G.1 + b) :: .int sp :: .ref (G.1 + a) :: st) pc := by
  subst hs
  subst hdd
  subst hz
  obtain ⟨p, e, R', s, m, args, below, meth, c⟩ := F
  obtain ⟨hR, hx, hb, hml, hown, hts, hU, hr, hlk, hnm, hB⟩ := C
  intro H locs ls hP hS hl
  subst hR
  subst hLa
  subst hLb
  have hd1 := hP.2 a ha
  have hd2 := hP.2 b hbn
  obtain ⟨cA, hty, hp, ea, eb, eb'⟩ : ∃ cA : ClassId, (ab_tys G)[t0]? = some (cA, ty) ∧ refKind ty = false ∧ ab_e G h a = .inl (cA, hp_l h a, .inl (hp_i h a)) ∧ ab_e G h b = .inl (cA, hp_l h b, .inl (hp_i h b)) ∧ ∀ h1, ab_e G h1 b = .inl (cA, hp_l h1 b, .inl (hp_i h1 b)) := by
    rcases hab with ⟨x1, x2, rfl, rfl⟩ | ⟨x1, x2, rfl, rfl⟩
    · exact ⟨_, rfl, rfl, ab_e_i x1, ab_e_i x2, fun _ => ab_e_i x2⟩
    · exact ⟨_, rfl, rfl, ab_e_b x1, ab_e_b x2, fun _ => ab_e_b x2⟩
  rw [ea] at hd1
  rw [eb] at hd2
  have hc0 : H[G.1 + a]? = some (vp_cell cA (hp_l h a, .inl (hp_i h a))) := hd1
  have hc1 : H[G.1 + b]? = some (vp_cell cA (hp_l h b, .inl (hp_i h b))) := hd2
  intro T hT X
  obtain ⟨-, k0, hk0, cm0, hkk0⟩ := (hU.1.1.2 t0 _ hty).1 (hp_l h a) (fun j => .int (hp_i h a j))
  obtain ⟨-, k1, hk1, cm1, hkk1⟩ := (hU.1.1.2 t0 _ hty).1 (hp_l h b) (fun j => .int (hp_i h b j))
  obtain ⟨vm', X', step⟩ := X.arraycopy hx hown (hts _ hw.1) (hts _ hw.2.1) (hts _ hw.2.2.1) (hts _ hw.2.2.2) (src := G.1 + a) (dst := G.1 + b) (cs := vp_cell cA (hp_l h a, .inl (hp_i h a))) (cd := vp_cell cA (hp_l h b, .inl (hp_i h b))) (srcPos := sp) (destPos := dp) (n := z) (by rw [hT]; exact hc0) (by rw [hT]; exact hc1)
    (fun _ g => by cases g) (fun _ g => by cases g) (fun g => by cases g) (fun g => by cases g) hk0 hk1 hkk0 hkk1 (by simp [hp]) h1 h2 h3
    (by rw [ab_clamp h1, ab_clamp h3]; show ¬ _ > ((arrV cA (hp_l h a) (fun j => .int (hp_i h a j))).slots.size : Int); rw [arrV_size]; omega)
    (by rw [ab_clamp h2, ab_clamp h3]; show ¬ _ > ((arrV cA (hp_l h b) (fun j => .int (hp_i h b j))).slots.size : Int); rw [arrV_size]; omega)
    (fun vm₁ _ i hi => by
      have e : (vp_cell cA (hp_l h a, .inl (hp_i h a))).slots.getD (sp.toNatClampNeg + i) .null = .int (hp_i h a (sp.toNatClampNeg + i)) := by
        show (arrV cA (hp_l h a) (fun j => .int (hp_i h a j))).slots.getD _ _ = _
        rw [Array.getD_eq_getD_getElem?, arrV_read _ _ (by omega)]
        rfl
      refine ⟨?_, ?_⟩
      · rw [e]
        exact hfit i hi
      · rw [e]
        exact trivial)
    (g := F0 m pc ls (.int z :: .int dp :: .ref (G.1 + b) :: .int sp :: .ref (G.1 + a) :: st)) rfl (by rw [hml]; exact hl.1) (rest := st) rfl (by rw [hb]; exact hd) hf (by show 2 * 0 + _ + _ ≤ _; omega)
  have e1 : copied (vp_cell cA (hp_l h a, .inl (hp_i h a))) (vp_cell cA (hp_l h b, .inl (hp_i h b))) sp dp z = vp_cell cA (hp_l h b, .inl (va_cpy (hp_i h a) (hp_i h b) sp.toNatClampNeg dp.toNatClampNeg z.toNatClampNeg)) := va_copied (fun z => .int z) cA cA (hp_i h a) (hp_i h b) h4
  rw [e1] at X' step
  have hlt : G.1 + b < H.size := (Array.getElem?_eq_some_iff.mp hc1).1
  have hheap : ((T.setVm vm').setCell (G.1 + b) (vp_cell cA (hp_l h b, .inl (va_cpy (hp_i h a) (hp_i h b) sp.toNatClampNeg dp.toNatClampNeg z.toNatClampNeg)))).heap = H.setIfInBounds (G.1 + b) (vp_cell cA (hp_l h b, .inl (va_cpy (hp_i h a) (hp_i h b) sp.toNatClampNeg dp.toNatClampNeg z.toNatClampNeg))) := by rw [← hT]; rfl
  have oq : ∀ q : Nat, q ≠ G.1 + b → (H.setIfInBounds (G.1 + b) (vp_cell cA (hp_l h b, .inl (va_cpy (hp_i h a) (hp_i h b) sp.toNatClampNeg dp.toNatClampNeg z.toNatClampNeg))))[q]? = H[q]? := fun q hq => by simp [Array.getElem?_setIfInBounds, Ne.symm hq]
  have eh : hp_i (hp_cp h a sp.toNatClampNeg b dp.toNatClampNeg z.toNatClampNeg) b = va_cpy (hp_i h a) (hp_i h b) sp.toNatClampNeg dp.toNatClampNeg z.toNatClampNeg := by
    funext x
    exact if_pos rfl
  obtain ⟨t, a1, b1⟩ := kk _ rfl _ _ ls (hP.put ab_cp_n (by simp) oq (by
      rw [eb', eh]
      show (H.setIfInBounds (G.1 + b) _)[G.1 + b]? = some _
      simp [Array.getElem?_setIfInBounds, hlt]
      rfl) (fun c hc => ab_cp_ne hc)) ⟨by simp; exact hS.1, fun q g1 g2 => by
      rw [oq q (fun e => g2 (by rw [e]; exact Nat.le_add_right _ _))]
      exact hS.2.1 q g1 g2, fun q hq => by
      rcases List.mem_append.mp hq with g | g
      · exact hS.2.2 q g
      · obtain ⟨y, -, hy⟩ := List.mem_map.mp g
        rw [← hy]
        exact Nat.le_add_right _ _⟩ hl _ hheap X'
  exact ⟨t, step t a1, b1⟩
end AB
