/-! ===== PURE: every formula is monotone ===== -/
theorem mo_a {α : Sort _} {P P' : α → Prop} (h : ∀ x, P x → P' x) : (∀ x, P x) → ∀ x, P' x := fun f x => h x (f x)
abbrev MO_X5 (rc : rt_X5) : Prop := (∀ (x : Int32) (h : hp_T) (Q Q' : hp_T → Prop), (∀ h, Q h → Q' h) → rc.1 x h Q → rc.1 x h Q') ∧ (∀ (x : Int32) (h : hp_T) (Q Q' : hp_T → Prop), (∀ h, Q h → Q' h) → rc.2.1 x h Q → rc.2.1 x h Q') ∧ (∀ (x : Int32) (h : hp_T) (Q Q' : hp_T → Prop), (∀ h, Q h → Q' h) → rc.2.2.1 x h Q → rc.2.2.1 x h Q') ∧ (∀ (x : Int32) (h : hp_T) (Q Q' : hp_T → Prop), (∀ h, Q h → Q' h) → rc.2.2.2.1 x h Q → rc.2.2.2.1 x h Q') ∧ (∀ (x : Int32) (h : hp_T) (Q Q' : hp_T → Prop), (∀ h, Q h → Q' h) → rc.2.2.2.2.1 x h Q → rc.2.2.2.2.1 x h Q') ∧ (∀ (x : Int32) (h : hp_T) (Q Q' : hp_T → Prop), (∀ h, Q h → Q' h) → rc.2.2.2.2.2 x h Q → rc.2.2.2.2.2 x h Q')
abbrev MO_X8 (rc : rt_X8) : Prop := (∀ (h : hp_T) (Q Q' : hp_T → Prop), (∀ h, Q h → Q' h) → rc.1 h Q → rc.1 h Q') ∧ (∀ (h : hp_T) (Q Q' : hp_T → Prop), (∀ h, Q h → Q' h) → rc.2.1 h Q → rc.2.1 h Q') ∧ (∀ (h : hp_T) (Q Q' : hp_T → Prop), (∀ h, Q h → Q' h) → rc.2.2.1 h Q → rc.2.2.1 h Q') ∧ (∀ (h : hp_T) (Q Q' : hp_T → Prop), (∀ h, Q h → Q' h) → rc.2.2.2.1 h Q → rc.2.2.2.1 h Q') ∧ (∀ (h : hp_T) (Q Q' : hp_T → Prop), (∀ h, Q h → Q' h) → rc.2.2.2.2.1 h Q → rc.2.2.2.2.1 h Q') ∧ (∀ (h : hp_T) (Q Q' : hp_T → Prop), (∀ h, Q h → Q' h) → rc.2.2.2.2.2 h Q → rc.2.2.2.2.2 h Q')
abbrev MO_X6 (rc : rt_X6) : Prop := (∀ (x0 x1 x2 x3 : Int32) (h : hp_T) (Q Q' : Int32 → hp_T → Prop), (∀ v h, Q v h → Q' v h) → rc.1 x0 x1 x2 x3 h Q → rc.1 x0 x1 x2 x3 h Q') ∧ (∀ (x0 x1 x2 : Int32) (h : hp_T) (Q Q' : Int32 → hp_T → Prop), (∀ v h, Q v h → Q' v h) → rc.2.1 x0 x1 x2 h Q → rc.2.1 x0 x1 x2 h Q') ∧ (∀ (x0 x1 x2 : Int32) (h : hp_T) (Q Q' : Int32 → hp_T → Prop), (∀ v h, Q v h → Q' v h) → rc.2.2.1 x0 x1 x2 h Q → rc.2.2.1 x0 x1 x2 h Q') ∧ (∀ (x0 x1 x2 x3 : Int32) (h : hp_T) (Q Q' : Int32 → hp_T → Prop), (∀ v h, Q v h → Q' v h) → rc.2.2.2 x0 x1 x2 x3 h Q → rc.2.2.2 x0 x1 x2 x3 h Q')
theorem mn_J6_bitCount_0f7a4 {x0 : Int32} {h : hp_T} {Q Q' : Int32 → Prop} (hQ : ∀ v0, Q v0 → Q' v0) : wp_J6_bitCount_0f7a4 x0 h Q → wp_J6_bitCount_0f7a4 x0 h Q' := by
  unfold wp_J6_bitCount_0f7a4
  repeat' (with_reducible first | exact hQ _ | refine And.imp ?_ ?_ | refine Exists.imp (fun _ => ?_) | exact id | refine mo_a (fun _ => ?_))
theorem mn_X0_copyFrom {a0 : Nat} {a1 : Nat} {h : hp_T} {Q Q' : hp_T → Prop} (hQ : ∀ v0, Q v0 → Q' v0) : wp_X0_copyFrom a0 a1 h Q → wp_X0_copyFrom a0 a1 h Q' := by
  unfold wp_X0_copyFrom
  repeat' (with_reducible first | exact hQ _ | refine And.imp ?_ ?_ | refine Exists.imp (fun _ => ?_) | exact id | refine mo_a (fun _ => ?_))
theorem mn_X0_forget {a0 : Nat} {x1 : Int32} {h : hp_T} {Q Q' : hp_T → Prop} (hQ : ∀ v0, Q v0 → Q' v0) : wp_X0_forget a0 x1 h Q → wp_X0_forget a0 x1 h Q' := by
  unfold wp_X0_forget
  repeat' (with_reducible first | exact hQ _ | refine And.imp ?_ ?_ | refine Exists.imp (fun _ => ?_) | exact id | refine mo_a (fun _ => ?_))
theorem mn_X0_isOf_L7 {a0 : Nat} {x1 : Int32} {h : hp_T} {Q Q' : Int32 → Prop} (hQ : ∀ v0, Q v0 → Q' v0) : ∀ (nn : Nat) (y0 : Int32) (y1 : Int32), wp_X0_isOf_L7 a0 x1 h Q nn y0 y1 → wp_X0_isOf_L7 a0 x1 h Q' nn y0 y1 := by
  intro nn
  induction nn with
  | zero => intro y0 y1; exact fun f => f
  | succ nn ih =>
    intro y0 y1
    unfold wp_X0_isOf_L7
    repeat' (with_reducible first | exact hQ _ | exact ih _ _ | refine And.imp ?_ ?_ | refine Exists.imp (fun _ => ?_) | exact id | refine mo_a (fun _ => ?_))
theorem mn_X0_isOf {a0 : Nat} {x1 : Int32} {h : hp_T} {Q Q' : Int32 → Prop} (hQ : ∀ v0, Q v0 → Q' v0) : wp_X0_isOf a0 x1 h Q → wp_X0_isOf a0 x1 h Q' := by
  unfold wp_X0_isOf
  repeat' (with_reducible first | exact hQ _ | refine And.imp ?_ ?_ | exact mn_X0_isOf_L7 hQ _ _ _ | refine Exists.imp (fun _ => ?_) | exact id | refine mo_a (fun _ => ?_))
theorem mn_X7_within {x0 : Int32} {x1 : Int32} {x2 : Int32} {h : hp_T} {Q Q' : Int32 → Prop} (hQ : ∀ v0, Q v0 → Q' v0) : wp_X7_within x0 x1 x2 h Q → wp_X7_within x0 x1 x2 h Q' := by
  unfold wp_X7_within
  repeat' (with_reducible first | exact hQ _ | refine And.imp ?_ ?_ | refine Exists.imp (fun _ => ?_) | exact id | refine mo_a (fun _ => ?_))
theorem mn_X7_isKnack {x0 : Int32} {h : hp_T} {Q Q' : Int32 → Prop} (hQ : ∀ v0, Q v0 → Q' v0) : wp_X7_isKnack x0 h Q → wp_X7_isKnack x0 h Q' := by
  unfold wp_X7_isKnack
  repeat' (with_reducible first | exact hQ _ | refine And.imp ?_ ?_ | refine mn_X7_within (fun _ => ?_) | refine Exists.imp (fun _ => ?_) | exact id | refine mo_a (fun _ => ?_))
theorem mn_X0_knows {a0 : Nat} {x1 : Int32} {h : hp_T} {Q Q' : Int32 → Prop} (hQ : ∀ v0, Q v0 → Q' v0) : wp_X0_knows a0 x1 h Q → wp_X0_knows a0 x1 h Q' := by
  unfold wp_X0_knows
  repeat' (with_reducible first | exact hQ _ | refine And.imp ?_ ?_ | refine mn_X7_isKnack (fun _ => ?_) | refine Exists.imp (fun _ => ?_) | exact id | refine mo_a (fun _ => ?_))
theorem mn_X0_learn {a0 : Nat} {x1 : Int32} {x2 : Int32} {h : hp_T} {Q Q' : hp_T → Prop} (hQ : ∀ v0, Q v0 → Q' v0) : wp_X0_learn a0 x1 x2 h Q → wp_X0_learn a0 x1 x2 h Q' := by
  unfold wp_X0_learn
  repeat' (with_reducible first | exact hQ _ | refine And.imp ?_ ?_ | refine Exists.imp (fun _ => ?_) | exact id | refine mo_a (fun _ => ?_))
theorem mn_X0_learnAll_L2 {a0 : Nat} {x1 : Int32} {x2 : Int32} {Q Q' : hp_T → Prop} (hQ : ∀ v0, Q v0 → Q' v0) : ∀ (nn : Nat) (y0 : Int32) (y1 : hp_T), wp_X0_learnAll_L2 a0 x1 x2 Q nn y0 y1 → wp_X0_learnAll_L2 a0 x1 x2 Q' nn y0 y1 := by
  intro nn
  induction nn with
  | zero => intro y0 y1; exact fun f => f
  | succ nn ih =>
    intro y0 y1
    unfold wp_X0_learnAll_L2
    repeat' (with_reducible first | exact hQ _ | exact ih _ _ | refine And.imp ?_ ?_ | refine mn_X0_learn (fun _ => ?_) | refine Exists.imp (fun _ => ?_) | exact id | refine mo_a (fun _ => ?_))
theorem mn_X0_learnAll {a0 : Nat} {x1 : Int32} {x2 : Int32} {h : hp_T} {Q Q' : hp_T → Prop} (hQ : ∀ v0, Q v0 → Q' v0) : wp_X0_learnAll a0 x1 x2 h Q → wp_X0_learnAll a0 x1 x2 h Q' := by
  unfold wp_X0_learnAll
  repeat' (with_reducible first | exact hQ _ | refine And.imp ?_ ?_ | exact mn_X0_learnAll_L2 hQ _ _ _ | refine Exists.imp (fun _ => ?_) | exact id | refine mo_a (fun _ => ?_))
theorem mn_X0_settle_L23 {a0 : Nat} {x1 : Int32} {x2 : Int32} {Q Q' : hp_T → Prop} (hQ : ∀ v0, Q v0 → Q' v0) : ∀ (nn : Nat) (y0 : Int32) (y1 : hp_T), wp_X0_settle_L23 a0 x1 x2 Q nn y0 y1 → wp_X0_settle_L23 a0 x1 x2 Q' nn y0 y1 := by
  intro nn
  induction nn with
  | zero => intro y0 y1; exact fun f => f
  | succ nn ih =>
    intro y0 y1
    unfold wp_X0_settle_L23
    repeat' (with_reducible first | exact hQ _ | exact ih _ _ | refine And.imp ?_ ?_ | refine mn_X0_forget (fun _ => ?_) | refine Exists.imp (fun _ => ?_) | exact id | refine mo_a (fun _ => ?_))
theorem mn_X0_settle {a0 : Nat} {x1 : Int32} {x2 : Int32} {h : hp_T} {Q Q' : hp_T → Prop} (hQ : ∀ v0, Q v0 → Q' v0) : wp_X0_settle a0 x1 x2 h Q → wp_X0_settle a0 x1 x2 h Q' := by
  unfold wp_X0_settle
  repeat' (with_reducible first | exact hQ _ | refine And.imp ?_ ?_ | exact mn_X0_settle_L23 hQ _ _ _ | refine Exists.imp (fun _ => ?_) | exact id | refine mo_a (fun _ => ?_))
theorem mn_X0_stays {a0 : Nat} {x1 : Int32} {h : hp_T} {Q Q' : Int32 → Prop} (hQ : ∀ v0, Q v0 → Q' v0) : wp_X0_stays a0 x1 h Q → wp_X0_stays a0 x1 h Q' := by
  unfold wp_X0_stays
  repeat' (with_reducible first | exact hQ _ | refine And.imp ?_ ?_ | refine Exists.imp (fun _ => ?_) | exact id | refine mo_a (fun _ => ?_))
theorem mn_X0_tellsOf {a0 : Nat} {x1 : Int32} {h : hp_T} {Q Q' : Int32 → Prop} (hQ : ∀ v0, Q v0 → Q' v0) : wp_X0_tellsOf a0 x1 h Q → wp_X0_tellsOf a0 x1 h Q' := by
  unfold wp_X0_tellsOf
  repeat' (with_reducible first | exact hQ _ | refine And.imp ?_ ?_ | refine Exists.imp (fun _ => ?_) | exact id | refine mo_a (fun _ => ?_))
theorem mn_X1_holds {a0 : Nat} {x1 : Int32} {x2 : Int32} {h : hp_T} {Q Q' : Int32 → Prop} (hQ : ∀ v0, Q v0 → Q' v0) : wp_X1_holds a0 x1 x2 h Q → wp_X1_holds a0 x1 x2 h Q' := by
  unfold wp_X1_holds
  repeat' (with_reducible first | exact hQ _ | refine And.imp ?_ ?_ | refine Exists.imp (fun _ => ?_) | exact id | refine mo_a (fun _ => ?_))
theorem mn_X1_isMissing {a0 : Nat} {h : hp_T} {Q Q' : Int32 → Prop} (hQ : ∀ v0, Q v0 → Q' v0) : wp_X1_isMissing a0 h Q → wp_X1_isMissing a0 h Q' := by
  unfold wp_X1_isMissing
  repeat' (with_reducible first | exact hQ _ | refine And.imp ?_ ?_ | refine Exists.imp (fun _ => ?_) | exact id | refine mo_a (fun _ => ?_))
theorem mn_X1_lay_L12 {a0 : Nat} {x1 : Int32} {x2 : Int32} {Q Q' : hp_T → Prop} (hQ : ∀ v0, Q v0 → Q' v0) : ∀ (nn : Nat) (y0 : Int32) (y1 : hp_T), wp_X1_lay_L12 a0 x1 x2 Q nn y0 y1 → wp_X1_lay_L12 a0 x1 x2 Q' nn y0 y1 := by
  intro nn
  induction nn with
  | zero => intro y0 y1; exact fun f => f
  | succ nn ih =>
    intro y0 y1
    unfold wp_X1_lay_L12
    repeat' (with_reducible first | exact hQ _ | exact ih _ _ | refine And.imp ?_ ?_ | refine Exists.imp (fun _ => ?_) | exact id | refine mo_a (fun _ => ?_))
theorem mn_X1_lay {a0 : Nat} {x1 : Int32} {x2 : Int32} {h : hp_T} {Q Q' : hp_T → Prop} (hQ : ∀ v0, Q v0 → Q' v0) : wp_X1_lay a0 x1 x2 h Q → wp_X1_lay a0 x1 x2 h Q' := by
  unfold wp_X1_lay
  repeat' (with_reducible first | exact hQ _ | refine And.imp ?_ ?_ | exact mn_X1_lay_L12 hQ _ _ _ | refine Exists.imp (fun _ => ?_) | exact id | refine mo_a (fun _ => ?_))
theorem mn_X1_write {a0 : Nat} {x1 : Int32} {x2 : Int32} {h : hp_T} {Q Q' : hp_T → Prop} (hQ : ∀ v0, Q v0 → Q' v0) : wp_X1_write a0 x1 x2 h Q → wp_X1_write a0 x1 x2 h Q' := by
  unfold wp_X1_write
  repeat' (with_reducible first | exact hQ _ | refine And.imp ?_ ?_ | refine Exists.imp (fun _ => ?_) | exact id | refine mo_a (fun _ => ?_))
theorem mn_X3_copyFrom {a0 : Nat} {a1 : Nat} {h : hp_T} {Q Q' : hp_T → Prop} (hQ : ∀ v0, Q v0 → Q' v0) : wp_X3_copyFrom a0 a1 h Q → wp_X3_copyFrom a0 a1 h Q' := by
  unfold wp_X3_copyFrom
  repeat' (with_reducible first | exact hQ _ | refine And.imp ?_ ?_ | refine Exists.imp (fun _ => ?_) | exact id | refine mo_a (fun _ => ?_))
theorem mn_X3_tryWith {a0 : Nat} {x1 : Int32} {h : hp_T} {Q Q' : hp_T → Prop} (hQ : ∀ v0, Q v0 → Q' v0) : wp_X3_tryWith a0 x1 h Q → wp_X3_tryWith a0 x1 h Q' := by
  unfold wp_X3_tryWith
  repeat' (with_reducible first | exact hQ _ | refine And.imp ?_ ?_ | refine Exists.imp (fun _ => ?_) | exact id | refine mo_a (fun _ => ?_))
theorem mn_X6_begin {x1 : Int32} {h : hp_T} {Q Q' : hp_T → Prop} (hQ : ∀ v0, Q v0 → Q' v0) : wp_X6_begin x1 h Q → wp_X6_begin x1 h Q' := by
  unfold wp_X6_begin
  repeat' (with_reducible first | exact hQ _ | refine And.imp ?_ ?_ | refine Exists.imp (fun _ => ?_) | exact id | refine mo_a (fun _ => ?_))
theorem mn_X6_part {x1 : Int32} {x2 : Int32} {h : hp_T} {Q Q' : Int32 → hp_T → Prop} (hQ : ∀ v0 v1, Q v0 v1 → Q' v0 v1) : wp_X6_part x1 x2 h Q → wp_X6_part x1 x2 h Q' := by
  unfold wp_X6_part
  repeat' (with_reducible first | exact hQ _ _ | refine And.imp ?_ ?_ | refine Exists.imp (fun _ => ?_) | exact id | refine mo_a (fun _ => ?_))
theorem mn_X6_speakFrom_L6 {rc : rt_X6} {x1 : Int32} {x2 : Int32} {x3 : Int32} {x4 : Int32} {Q Q' : Int32 → hp_T → Prop} (hr : MO_X6 rc) (hQ : ∀ v0 v1, Q v0 v1 → Q' v0 v1) : ∀ (nn : Nat) (y0 : Int32) (y1 : Int32) (y2 : hp_T), wp_X6_speakFrom_L6 rc x1 x2 x3 x4 Q nn y0 y1 y2 → wp_X6_speakFrom_L6 rc x1 x2 x3 x4 Q' nn y0 y1 y2 := by
  intro nn
  induction nn with
  | zero => intro y0 y1 y2; exact fun f => f
  | succ nn ih =>
    intro y0 y1 y2
    unfold wp_X6_speakFrom_L6
    repeat' (with_reducible first | exact hQ _ _ | exact ih _ _ _ | refine And.imp ?_ ?_ | refine hr.2.1 _ _ _ _ _ _ (fun _ _ => ?_) | refine Exists.imp (fun _ => ?_) | exact id | refine mo_a (fun _ => ?_))
theorem mn_X6_speakFrom {rc : rt_X6} {x1 : Int32} {x2 : Int32} {x3 : Int32} {x4 : Int32} {h : hp_T} {Q Q' : Int32 → hp_T → Prop} (hr : MO_X6 rc) (hQ : ∀ v0 v1, Q v0 v1 → Q' v0 v1) : wp_X6_speakFrom rc x1 x2 x3 x4 h Q → wp_X6_speakFrom rc x1 x2 x3 x4 h Q' := by
  unfold wp_X6_speakFrom
  repeat' (with_reducible first | exact hQ _ _ | refine And.imp ?_ ?_ | exact mn_X6_speakFrom_L6 hr hQ _ _ _ _ | refine Exists.imp (fun _ => ?_) | exact id | refine mo_a (fun _ => ?_))
theorem mn_X6_run {rc : rt_X6} {x1 : Int32} {x2 : Int32} {x3 : Int32} {h : hp_T} {Q Q' : Int32 → hp_T → Prop} (hr : MO_X6 rc) (hQ : ∀ v0 v1, Q v0 v1 → Q' v0 v1) : wp_X6_run rc x1 x2 x3 h Q → wp_X6_run rc x1 x2 x3 h Q' := by
  unfold wp_X6_run
  repeat' (with_reducible first | exact hQ _ _ | refine And.imp ?_ ?_ | refine mn_X6_begin (fun _ => ?_) | refine mn_X6_part (fun _ _ => ?_) | refine hr.2.2.1 _ _ _ _ _ _ (fun _ _ => ?_) | refine hr.2.2.2 _ _ _ _ _ _ _ (fun _ _ => ?_) | refine Exists.imp (fun _ => ?_) | exact id | refine mo_a (fun _ => ?_))
theorem mn_X6_own {rc : rt_X6} {x1 : Int32} {x2 : Int32} {x3 : Int32} {h : hp_T} {Q Q' : Int32 → hp_T → Prop} (hr : MO_X6 rc) (hQ : ∀ v0 v1, Q v0 v1 → Q' v0 v1) : wp_X6_own rc x1 x2 x3 h Q → wp_X6_own rc x1 x2 x3 h Q' := by
  unfold wp_X6_own
  repeat' (with_reducible first | exact hQ _ _ | refine And.imp ?_ ?_ | refine hr.1 _ _ _ _ _ _ _ (fun _ _ => ?_) | refine Exists.imp (fun _ => ?_) | exact id | refine mo_a (fun _ => ?_))
theorem mn_X6_above {rc : rt_X6} {x1 : Int32} {x2 : Int32} {x3 : Int32} {x4 : Int32} {h : hp_T} {Q Q' : Int32 → hp_T → Prop} (hr : MO_X6 rc) (hQ : ∀ v0 v1, Q v0 v1 → Q' v0 v1) : wp_X6_above rc x1 x2 x3 x4 h Q → wp_X6_above rc x1 x2 x3 x4 h Q' := by
  unfold wp_X6_above
  repeat' (with_reducible first | exact hQ _ _ | refine And.imp ?_ ?_ | refine hr.1 _ _ _ _ _ _ _ (fun _ _ => ?_) | refine Exists.imp (fun _ => ?_) | exact id | refine mo_a (fun _ => ?_))
theorem MOw_X6 : ∀ d, MO_X6 (wr_X6 d) := by
  intro d
  induction d with
  | zero => exact ⟨fun _ _ _ _ _ _ _ _ f => f, fun _ _ _ _ _ _ _ f => f, fun _ _ _ _ _ _ _ f => f, fun _ _ _ _ _ _ _ _ f => f⟩
  | succ d ih => exact ⟨fun _ _ _ _ _ _ _ hq => mn_X6_speakFrom ih hq, fun _ _ _ _ _ _ hq => mn_X6_run ih hq, fun _ _ _ _ _ _ hq => mn_X6_own ih hq, fun _ _ _ _ _ _ _ hq => mn_X6_above ih hq⟩
theorem mn_X6_speak {x1 : Int32} {x2 : Int32} {x3 : Int32} {x4 : Int32} {x5 : Int32} {h : hp_T} {Q Q' : Int32 → hp_T → Prop} (hQ : ∀ v0 v1, Q v0 v1 → Q' v0 v1) : wp_X6_speak x1 x2 x3 x4 x5 h Q → wp_X6_speak x1 x2 x3 x4 x5 h Q' := by
  unfold wp_X6_speak
  repeat' (with_reducible first | exact hQ _ _ | refine And.imp ?_ ?_ | refine (MOw_X6 40).1 _ _ _ _ _ _ _ (fun _ _ => ?_) | refine Exists.imp (fun _ => ?_) | exact id | refine mo_a (fun _ => ?_))
theorem mn_X2_addBunk {a0 : Nat} {x1 : Int32} {h : hp_T} {Q Q' : Int32 → hp_T → Prop} (hQ : ∀ v0 v1, Q v0 v1 → Q' v0 v1) : wp_X2_addBunk a0 x1 h Q → wp_X2_addBunk a0 x1 h Q' := by
  unfold wp_X2_addBunk
  repeat' (with_reducible first | exact hQ _ _ | refine And.imp ?_ ?_ | refine mn_X0_settle (fun _ => ?_) | refine Exists.imp (fun _ => ?_) | exact id | refine mo_a (fun _ => ?_))
theorem mn_X2_knowers_L4 {a0 : Nat} {x1 : Int32} {h : hp_T} {Q Q' : Int32 → Prop} (hQ : ∀ v0, Q v0 → Q' v0) : ∀ (nn : Nat) (y0 : Int32) (y1 : Int32), wp_X2_knowers_L4 a0 x1 h Q nn y0 y1 → wp_X2_knowers_L4 a0 x1 h Q' nn y0 y1 := by
  intro nn
  induction nn with
  | zero => intro y0 y1; exact fun f => f
  | succ nn ih =>
    intro y0 y1
    unfold wp_X2_knowers_L4
    repeat' (with_reducible first | exact hQ _ | exact ih _ _ | refine And.imp ?_ ?_ | refine mn_X0_knows (fun _ => ?_) | refine Exists.imp (fun _ => ?_) | exact id | refine mo_a (fun _ => ?_))
theorem mn_X2_knowers {a0 : Nat} {x1 : Int32} {h : hp_T} {Q Q' : Int32 → Prop} (hQ : ∀ v0, Q v0 → Q' v0) : wp_X2_knowers a0 x1 h Q → wp_X2_knowers a0 x1 h Q' := by
  unfold wp_X2_knowers
  repeat' (with_reducible first | exact hQ _ | refine And.imp ?_ ?_ | exact mn_X2_knowers_L4 hQ _ _ _ | refine Exists.imp (fun _ => ?_) | exact id | refine mo_a (fun _ => ?_))
theorem mn_X2_canSpare_b37 {a0 : Nat} {x1 : Int32} {x2 : Int32} {h : hp_T} {Q Q' : Int32 → Prop} {lp_2 lp_2' : Int32 → Prop} {y3 : Int32} {y4 : Int32} {z0 : Int32} (hQ : ∀ v0, Q v0 → Q' v0) (hlp_2 : ∀ v0, lp_2 v0 → lp_2' v0) : wp_X2_canSpare_b37 a0 x1 x2 h Q lp_2 y3 y4 z0 → wp_X2_canSpare_b37 a0 x1 x2 h Q' lp_2' y3 y4 z0 := by
  unfold wp_X2_canSpare_b37
  repeat' (with_reducible first | exact hQ _ | exact hlp_2 _ | refine And.imp ?_ ?_ | refine mn_X0_knows (fun _ => ?_) | refine mn_X2_knowers (fun _ => ?_) | refine Exists.imp (fun _ => ?_) | exact id | refine mo_a (fun _ => ?_))
theorem mn_X2_canSpare_L2 {a0 : Nat} {x1 : Int32} {x2 : Int32} {h : hp_T} {Q Q' : Int32 → Prop} (hQ : ∀ v0, Q v0 → Q' v0) : ∀ (nn : Nat) (y0 : Int32), wp_X2_canSpare_L2 a0 x1 x2 h Q nn y0 → wp_X2_canSpare_L2 a0 x1 x2 h Q' nn y0 := by
  intro nn
  induction nn with
  | zero => intro y0; exact fun f => f
  | succ nn ih =>
    intro y0
    unfold wp_X2_canSpare_L2
    repeat' (with_reducible first | exact hQ _ | exact ih _ | refine And.imp ?_ ?_ | refine mn_X0_knows (fun _ => ?_) | refine mn_X2_canSpare_b37 hQ ih | refine Exists.imp (fun _ => ?_) | exact id | refine mo_a (fun _ => ?_))
theorem mn_X2_canSpare {a0 : Nat} {x1 : Int32} {x2 : Int32} {h : hp_T} {Q Q' : Int32 → Prop} (hQ : ∀ v0, Q v0 → Q' v0) : wp_X2_canSpare a0 x1 x2 h Q → wp_X2_canSpare a0 x1 x2 h Q' := by
  unfold wp_X2_canSpare
  repeat' (with_reducible first | exact hQ _ | refine And.imp ?_ ?_ | exact mn_X2_canSpare_L2 hQ _ _ | refine Exists.imp (fun _ => ?_) | exact id | refine mo_a (fun _ => ?_))
theorem mn_X2_copyFrom_L133 {a0 : Nat} {a1 : Nat} {Q Q' : hp_T → Prop} (hQ : ∀ v0, Q v0 → Q' v0) : ∀ (nn : Nat) (y0 : Int32) (y1 : hp_T), wp_X2_copyFrom_L133 a0 a1 Q nn y0 y1 → wp_X2_copyFrom_L133 a0 a1 Q' nn y0 y1 := by
  intro nn
  induction nn with
  | zero => intro y0 y1; exact fun f => f
  | succ nn ih =>
    intro y0 y1
    unfold wp_X2_copyFrom_L133
    repeat' (with_reducible first | exact hQ _ | exact ih _ _ | refine And.imp ?_ ?_ | refine Exists.imp (fun _ => ?_) | exact id | refine mo_a (fun _ => ?_))
theorem mn_X2_copyFrom_L105 {a0 : Nat} {a1 : Nat} {Q Q' : hp_T → Prop} (hQ : ∀ v0, Q v0 → Q' v0) : ∀ (nn : Nat) (y0 : Int32) (y1 : hp_T), wp_X2_copyFrom_L105 a0 a1 Q nn y0 y1 → wp_X2_copyFrom_L105 a0 a1 Q' nn y0 y1 := by
  intro nn
  induction nn with
  | zero => intro y0 y1; exact fun f => f
  | succ nn ih =>
    intro y0 y1
    unfold wp_X2_copyFrom_L105
    repeat' (with_reducible first | exact hQ _ | exact ih _ _ | refine And.imp ?_ ?_ | exact mn_X2_copyFrom_L133 hQ _ _ _ | refine mn_X3_copyFrom (fun _ => ?_) | refine Exists.imp (fun _ => ?_) | exact id | refine mo_a (fun _ => ?_))
theorem mn_X2_copyFrom_L74 {a0 : Nat} {a1 : Nat} {Q Q' : hp_T → Prop} (hQ : ∀ v0, Q v0 → Q' v0) : ∀ (nn : Nat) (y0 : Int32) (y1 : hp_T), wp_X2_copyFrom_L74 a0 a1 Q nn y0 y1 → wp_X2_copyFrom_L74 a0 a1 Q' nn y0 y1 := by
  intro nn
  induction nn with
  | zero => intro y0 y1; exact fun f => f
  | succ nn ih =>
    intro y0 y1
    unfold wp_X2_copyFrom_L74
    repeat' (with_reducible first | exact hQ _ | exact ih _ _ | refine And.imp ?_ ?_ | exact mn_X2_copyFrom_L105 hQ _ _ _ | refine mn_X0_copyFrom (fun _ => ?_) | refine Exists.imp (fun _ => ?_) | exact id | refine mo_a (fun _ => ?_))
theorem mn_X2_copyFrom {a0 : Nat} {a1 : Nat} {h : hp_T} {Q Q' : hp_T → Prop} (hQ : ∀ v0, Q v0 → Q' v0) : wp_X2_copyFrom a0 a1 h Q → wp_X2_copyFrom a0 a1 h Q' := by
  unfold wp_X2_copyFrom
  repeat' (with_reducible first | exact hQ _ | refine And.imp ?_ ?_ | exact mn_X2_copyFrom_L74 hQ _ _ _ | refine Exists.imp (fun _ => ?_) | exact id | refine mo_a (fun _ => ?_))
theorem mn_X2_doneOfAll_L4 {a0 : Nat} {h : hp_T} {Q Q' : Int32 → Prop} (hQ : ∀ v0, Q v0 → Q' v0) : ∀ (nn : Nat) (y0 : Int32) (y1 : Int32), wp_X2_doneOfAll_L4 a0 h Q nn y0 y1 → wp_X2_doneOfAll_L4 a0 h Q' nn y0 y1 := by
  intro nn
  induction nn with
  | zero => intro y0 y1; exact fun f => f
  | succ nn ih =>
    intro y0 y1
    unfold wp_X2_doneOfAll_L4
    repeat' (with_reducible first | exact hQ _ | exact ih _ _ | refine And.imp ?_ ?_ | refine Exists.imp (fun _ => ?_) | exact id | refine mo_a (fun _ => ?_))
theorem mn_X2_doneOfAll {a0 : Nat} {h : hp_T} {Q Q' : Int32 → Prop} (hQ : ∀ v0, Q v0 → Q' v0) : wp_X2_doneOfAll a0 h Q → wp_X2_doneOfAll a0 h Q' := by
  unfold wp_X2_doneOfAll
  repeat' (with_reducible first | exact hQ _ | refine And.imp ?_ ?_ | exact mn_X2_doneOfAll_L4 hQ _ _ _ | refine Exists.imp (fun _ => ?_) | exact id | refine mo_a (fun _ => ?_))
theorem mn_X2_draw {a0 : Nat} {h : hp_T} {Q Q' : Int32 → hp_T → Prop} (hQ : ∀ v0 v1, Q v0 v1 → Q' v0 v1) : wp_X2_draw a0 h Q → wp_X2_draw a0 h Q' := by
  unfold wp_X2_draw
  repeat' (with_reducible first | exact hQ _ _ | refine And.imp ?_ ?_ | refine Exists.imp (fun _ => ?_) | exact id | refine mo_a (fun _ => ?_))
theorem mn_X2_endDay_L2 {a0 : Nat} {Q Q' : hp_T → Prop} (hQ : ∀ v0, Q v0 → Q' v0) : ∀ (nn : Nat) (y0 : Int32) (y1 : hp_T), wp_X2_endDay_L2 a0 Q nn y0 y1 → wp_X2_endDay_L2 a0 Q' nn y0 y1 := by
  intro nn
  induction nn with
  | zero => intro y0 y1; exact fun f => f
  | succ nn ih =>
    intro y0 y1
    unfold wp_X2_endDay_L2
    repeat' (with_reducible first | exact hQ _ | exact ih _ _ | refine And.imp ?_ ?_ | refine mn_X2_knowers (fun _ => ?_) | refine mn_X3_tryWith (fun _ => ?_) | refine Exists.imp (fun _ => ?_) | exact id | refine mo_a (fun _ => ?_))
theorem mn_X2_endDay {a0 : Nat} {h : hp_T} {Q Q' : hp_T → Prop} (hQ : ∀ v0, Q v0 → Q' v0) : wp_X2_endDay a0 h Q → wp_X2_endDay a0 h Q' := by
  unfold wp_X2_endDay
  repeat' (with_reducible first | exact hQ _ | refine And.imp ?_ ?_ | exact mn_X2_endDay_L2 hQ _ _ _ | refine Exists.imp (fun _ => ?_) | exact id | refine mo_a (fun _ => ?_))
theorem mn_X2_enlist {a0 : Nat} {x1 : Int32} {x2 : Int32} {h : hp_T} {Q Q' : Int32 → hp_T → Prop} (hQ : ∀ v0 v1, Q v0 v1 → Q' v0 v1) : wp_X2_enlist a0 x1 x2 h Q → wp_X2_enlist a0 x1 x2 h Q' := by
  unfold wp_X2_enlist
  repeat' (with_reducible first | exact hQ _ _ | refine And.imp ?_ ?_ | refine Exists.imp (fun _ => ?_) | exact id | refine mo_a (fun _ => ?_))
theorem mn_X2_knownByAny_L4 {a0 : Nat} {h : hp_T} {Q Q' : Int32 → Prop} (hQ : ∀ v0, Q v0 → Q' v0) : ∀ (nn : Nat) (y0 : Int32) (y1 : Int32), wp_X2_knownByAny_L4 a0 h Q nn y0 y1 → wp_X2_knownByAny_L4 a0 h Q' nn y0 y1 := by
  intro nn
  induction nn with
  | zero => intro y0 y1; exact fun f => f
  | succ nn ih =>
    intro y0 y1
    unfold wp_X2_knownByAny_L4
    repeat' (with_reducible first | exact hQ _ | exact ih _ _ | refine And.imp ?_ ?_ | refine Exists.imp (fun _ => ?_) | exact id | refine mo_a (fun _ => ?_))
theorem mn_X2_knownByAny {a0 : Nat} {h : hp_T} {Q Q' : Int32 → Prop} (hQ : ∀ v0, Q v0 → Q' v0) : wp_X2_knownByAny a0 h Q → wp_X2_knownByAny a0 h Q' := by
  unfold wp_X2_knownByAny
  repeat' (with_reducible first | exact hQ _ | refine And.imp ?_ ?_ | exact mn_X2_knownByAny_L4 hQ _ _ _ | refine Exists.imp (fun _ => ?_) | exact id | refine mo_a (fun _ => ?_))
theorem mn_X4_joined {x0 : Int32} {x1 : Int32} {x2 : Int32} {h : hp_T} {Q Q' : Int32 → Prop} (hQ : ∀ v0, Q v0 → Q' v0) : wp_X4_joined x0 x1 x2 h Q → wp_X4_joined x0 x1 x2 h Q' := by
  unfold wp_X4_joined
  repeat' (with_reducible first | exact hQ _ | refine And.imp ?_ ?_ | refine Exists.imp (fun _ => ?_) | exact id | refine mo_a (fun _ => ?_))
theorem mn_X4_value_L6 {a0 : Nat} {x1 : Int32} {x2 : Int32} {x3 : Int32} {Q Q' : Int32 → hp_T → Prop} (hQ : ∀ v0 v1, Q v0 v1 → Q' v0 v1) : ∀ (nn : Nat) (y0 : Int32) (y1 : Int32) (y2 : hp_T), wp_X4_value_L6 a0 x1 x2 x3 Q nn y0 y1 y2 → wp_X4_value_L6 a0 x1 x2 x3 Q' nn y0 y1 y2 := by
  intro nn
  induction nn with
  | zero => intro y0 y1 y2; exact fun f => f
  | succ nn ih =>
    intro y0 y1 y2
    unfold wp_X4_value_L6
    repeat' (with_reducible first | exact hQ _ _ | exact ih _ _ _ | refine And.imp ?_ ?_ | refine mn_X4_joined (fun _ => ?_) | refine Exists.imp (fun _ => ?_) | exact id | refine mo_a (fun _ => ?_))
theorem mn_X4_value {a0 : Nat} {x1 : Int32} {x2 : Int32} {x3 : Int32} {h : hp_T} {Q Q' : Int32 → hp_T → Prop} (hQ : ∀ v0 v1, Q v0 v1 → Q' v0 v1) : wp_X4_value a0 x1 x2 x3 h Q → wp_X4_value a0 x1 x2 x3 h Q' := by
  unfold wp_X4_value
  repeat' (with_reducible first | exact hQ _ _ | refine And.imp ?_ ?_ | exact mn_X4_value_L6 hQ _ _ _ _ | refine Exists.imp (fun _ => ?_) | exact id | refine mo_a (fun _ => ?_))
theorem mn_X2_needs {a0 : Nat} {a1 : Nat} {x2 : Int32} {h : hp_T} {Q Q' : Int32 → hp_T → Prop} (hQ : ∀ v0 v1, Q v0 v1 → Q' v0 v1) : wp_X2_needs a0 a1 x2 h Q → wp_X2_needs a0 a1 x2 h Q' := by
  unfold wp_X2_needs
  repeat' (with_reducible first | exact hQ _ _ | refine And.imp ?_ ?_ | refine mn_J6_bitCount_0f7a4 (fun _ => ?_) | refine mn_X4_value (fun _ _ => ?_) | refine Exists.imp (fun _ => ?_) | exact id | refine mo_a (fun _ => ?_))
theorem mn_X2_ofKnack {a0 : Nat} {a1 : Nat} {x2 : Int32} {x3 : Int32} {h : hp_T} {Q Q' : Int32 → hp_T → Prop} (hQ : ∀ v0 v1, Q v0 v1 → Q' v0 v1) : wp_X2_ofKnack a0 a1 x2 x3 h Q → wp_X2_ofKnack a0 a1 x2 x3 h Q' := by
  unfold wp_X2_ofKnack
  repeat' (with_reducible first | exact hQ _ _ | refine And.imp ?_ ?_ | refine mn_X2_needs (fun _ _ => ?_) | refine Exists.imp (fun _ => ?_) | exact id | refine mo_a (fun _ => ?_))
theorem mn_X2_pay {a0 : Nat} {a1 : Nat} {h : hp_T} {Q Q' : Int32 → hp_T → Prop} (hQ : ∀ v0 v1, Q v0 v1 → Q' v0 v1) : wp_X2_pay a0 a1 h Q → wp_X2_pay a0 a1 h Q' := by
  unfold wp_X2_pay
  repeat' (with_reducible first | exact hQ _ _ | refine And.imp ?_ ?_ | refine mn_J6_bitCount_0f7a4 (fun _ => ?_) | refine mn_X4_value (fun _ _ => ?_) | refine Exists.imp (fun _ => ?_) | exact id | refine mo_a (fun _ => ?_))
theorem mn_X2_ofMan {a0 : Nat} {x1 : Int32} {x2 : Int32} {h : hp_T} {Q Q' : Int32 → hp_T → Prop} (hQ : ∀ v0 v1, Q v0 v1 → Q' v0 v1) : wp_X2_ofMan a0 x1 x2 h Q → wp_X2_ofMan a0 x1 x2 h Q' := by
  unfold wp_X2_ofMan
  repeat' (with_reducible first | exact hQ _ _ | refine And.imp ?_ ?_ | refine mn_X2_pay (fun _ _ => ?_) | refine mn_X2_ofKnack (fun _ _ => ?_) | refine Exists.imp (fun _ => ?_) | exact id | refine mo_a (fun _ => ?_))
theorem mn_X2_ofTask {a0 : Nat} {x1 : Int32} {x2 : Int32} {h : hp_T} {Q Q' : Int32 → Prop} (hQ : ∀ v0, Q v0 → Q' v0) : wp_X2_ofTask a0 x1 x2 h Q → wp_X2_ofTask a0 x1 x2 h Q' := by
  unfold wp_X2_ofTask
  repeat' (with_reducible first | exact hQ _ | refine And.imp ?_ ?_ | refine mn_X2_knowers (fun _ => ?_) | refine Exists.imp (fun _ => ?_) | exact id | refine mo_a (fun _ => ?_))
theorem mn_X2_relieve {a0 : Nat} {h : hp_T} {Q Q' : Int32 → hp_T → Prop} (hQ : ∀ v0 v1, Q v0 v1 → Q' v0 v1) : wp_X2_relieve a0 h Q → wp_X2_relieve a0 h Q' := by
  unfold wp_X2_relieve
  repeat' (with_reducible first | exact hQ _ _ | refine And.imp ?_ ?_ | refine mn_X0_stays (fun _ => ?_) | refine mn_X0_settle (fun _ => ?_) | refine mn_X0_learnAll (fun _ => ?_) | refine Exists.imp (fun _ => ?_) | exact id | refine mo_a (fun _ => ?_))
theorem mn_X2_teach {a0 : Nat} {a1 : Nat} {a2 : Nat} {x3 : Int32} {h : hp_T} {Q Q' : Int32 → hp_T → Prop} (hQ : ∀ v0 v1, Q v0 v1 → Q' v0 v1) : wp_X2_teach a0 a1 a2 x3 h Q → wp_X2_teach a0 a1 a2 x3 h Q' := by
  unfold wp_X2_teach
  repeat' (with_reducible first | exact hQ _ _ | refine And.imp ?_ ?_ | refine mn_X0_knows (fun _ => ?_) | refine mn_X0_isOf (fun _ => ?_) | refine mn_X2_needs (fun _ _ => ?_) | refine mn_X0_tellsOf (fun _ => ?_) | refine mn_X0_learn (fun _ => ?_) | refine mn_X2_draw (fun _ _ => ?_) | refine Exists.imp (fun _ => ?_) | exact id | refine mo_a (fun _ => ?_))
theorem mn_X2_teachAll_L4 {a0 : Nat} {x1 : Int32} {Q Q' : Int32 → hp_T → Prop} (hQ : ∀ v0 v1, Q v0 v1 → Q' v0 v1) : ∀ (nn : Nat) (y0 : Int32) (y1 : Int32) (y2 : hp_T), wp_X2_teachAll_L4 a0 x1 Q nn y0 y1 y2 → wp_X2_teachAll_L4 a0 x1 Q' nn y0 y1 y2 := by
  intro nn
  induction nn with
  | zero => intro y0 y1 y2; exact fun f => f
  | succ nn ih =>
    intro y0 y1 y2
    unfold wp_X2_teachAll_L4
    repeat' (with_reducible first | exact hQ _ _ | exact ih _ _ _ | refine And.imp ?_ ?_ | refine mn_X2_teach (fun _ _ => ?_) | refine Exists.imp (fun _ => ?_) | exact id | refine mo_a (fun _ => ?_))
theorem mn_X2_teachAll {a0 : Nat} {x1 : Int32} {h : hp_T} {Q Q' : Int32 → hp_T → Prop} (hQ : ∀ v0 v1, Q v0 v1 → Q' v0 v1) : wp_X2_teachAll a0 x1 h Q → wp_X2_teachAll a0 x1 h Q' := by
  unfold wp_X2_teachAll
  repeat' (with_reducible first | exact hQ _ _ | refine And.imp ?_ ?_ | exact mn_X2_teachAll_L4 hQ _ _ _ _ | refine Exists.imp (fun _ => ?_) | exact id | refine mo_a (fun _ => ?_))
theorem mn_X2_passDay {a0 : Nat} {h : hp_T} {Q Q' : Int32 → hp_T → Prop} (hQ : ∀ v0 v1, Q v0 v1 → Q' v0 v1) : wp_X2_passDay a0 h Q → wp_X2_passDay a0 h Q' := by
  unfold wp_X2_passDay
  repeat' (with_reducible first | exact hQ _ _ | refine And.imp ?_ ?_ | refine mn_X2_relieve (fun _ _ => ?_) | refine mn_X2_teachAll (fun _ _ => ?_) | refine mn_X2_endDay (fun _ => ?_) | refine Exists.imp (fun _ => ?_) | exact id | refine mo_a (fun _ => ?_))
theorem mn_X2_passDayByDraws {a0 : Nat} {h : hp_T} {Q Q' : Int32 → hp_T → Prop} (hQ : ∀ v0 v1, Q v0 v1 → Q' v0 v1) : wp_X2_passDayByDraws a0 h Q → wp_X2_passDayByDraws a0 h Q' := by
  unfold wp_X2_passDayByDraws
  repeat' (with_reducible first | exact hQ _ _ | refine And.imp ?_ ?_ | refine mn_X2_relieve (fun _ _ => ?_) | refine mn_X2_teachAll (fun _ _ => ?_) | refine mn_X2_endDay (fun _ => ?_) | refine Exists.imp (fun _ => ?_) | exact id | refine mo_a (fun _ => ?_))
theorem mn_X2_payOfAll_L4 {a0 : Nat} {Q Q' : Int32 → hp_T → Prop} (hQ : ∀ v0 v1, Q v0 v1 → Q' v0 v1) : ∀ (nn : Nat) (y0 : Int32) (y1 : Int32) (y2 : hp_T), wp_X2_payOfAll_L4 a0 Q nn y0 y1 y2 → wp_X2_payOfAll_L4 a0 Q' nn y0 y1 y2 := by
  intro nn
  induction nn with
  | zero => intro y0 y1 y2; exact fun f => f
  | succ nn ih =>
    intro y0 y1 y2
    unfold wp_X2_payOfAll_L4
    repeat' (with_reducible first | exact hQ _ _ | exact ih _ _ _ | refine And.imp ?_ ?_ | refine mn_X2_pay (fun _ _ => ?_) | refine Exists.imp (fun _ => ?_) | exact id | refine mo_a (fun _ => ?_))
theorem mn_X2_payOfAll {a0 : Nat} {h : hp_T} {Q Q' : Int32 → hp_T → Prop} (hQ : ∀ v0 v1, Q v0 v1 → Q' v0 v1) : wp_X2_payOfAll a0 h Q → wp_X2_payOfAll a0 h Q' := by
  unfold wp_X2_payOfAll
  repeat' (with_reducible first | exact hQ _ _ | refine And.imp ?_ ?_ | exact mn_X2_payOfAll_L4 hQ _ _ _ _ | refine Exists.imp (fun _ => ?_) | exact id | refine mo_a (fun _ => ?_))
theorem mn_X2_teachOnly_L2 {a0 : Nat} {x1 : Int32} {x2 : Int32} {Q Q' : hp_T → Prop} (hQ : ∀ v0, Q v0 → Q' v0) : ∀ (nn : Nat) (y0 : Int32) (y1 : hp_T), wp_X2_teachOnly_L2 a0 x1 x2 Q nn y0 y1 → wp_X2_teachOnly_L2 a0 x1 x2 Q' nn y0 y1 := by
  intro nn
  induction nn with
  | zero => intro y0 y1; exact fun f => f
  | succ nn ih =>
    intro y0 y1
    unfold wp_X2_teachOnly_L2
    repeat' (with_reducible first | exact hQ _ | exact ih _ _ | refine And.imp ?_ ?_ | refine Exists.imp (fun _ => ?_) | exact id | refine mo_a (fun _ => ?_))
theorem mn_X2_teachOnly {a0 : Nat} {x1 : Int32} {x2 : Int32} {h : hp_T} {Q Q' : hp_T → Prop} (hQ : ∀ v0, Q v0 → Q' v0) : wp_X2_teachOnly a0 x1 x2 h Q → wp_X2_teachOnly a0 x1 x2 h Q' := by
  unfold wp_X2_teachOnly
  repeat' (with_reducible first | exact hQ _ | refine And.imp ?_ ?_ | exact mn_X2_teachOnly_L2 hQ _ _ _ | refine Exists.imp (fun _ => ?_) | exact id | refine mo_a (fun _ => ?_))
theorem mn_X4_init {a0 : Nat} {x2 : Int32} {h : hp_T} {Q Q' : hp_T → Prop} (hQ : ∀ v0, Q v0 → Q' v0) : wp_X4_init a0 x2 h Q → wp_X4_init a0 x2 h Q' := by
  unfold wp_X4_init
  repeat' (with_reducible first | exact hQ _ | refine And.imp ?_ ?_ | refine Exists.imp (fun _ => ?_) | exact id | refine mo_a (fun _ => ?_))
theorem mn_X5_ahead {h : hp_T} {Q Q' : Int32 → Prop} (hQ : ∀ v0, Q v0 → Q' v0) : wp_X5_ahead h Q → wp_X5_ahead h Q' := by
  unfold wp_X5_ahead
  repeat' (with_reducible first | exact hQ _ | refine And.imp ?_ ?_ | refine Exists.imp (fun _ => ?_) | exact id | refine mo_a (fun _ => ?_))
theorem mn_X5_fail {h : hp_T} {Q Q' : hp_T → Prop} (hQ : ∀ v0, Q v0 → Q' v0) : wp_X5_fail h Q → wp_X5_fail h Q' := by
  unfold wp_X5_fail
  repeat' (with_reducible first | exact hQ _ | refine And.imp ?_ ?_ | refine Exists.imp (fun _ => ?_) | exact id | refine mo_a (fun _ => ?_))
theorem mn_X5_isDigit {x0 : Int32} {h : hp_T} {Q Q' : Int32 → Prop} (hQ : ∀ v0, Q v0 → Q' v0) : wp_X5_isDigit x0 h Q → wp_X5_isDigit x0 h Q' := by
  unfold wp_X5_isDigit
  repeat' (with_reducible first | exact hQ _ | refine And.imp ?_ ?_ | refine Exists.imp (fun _ => ?_) | exact id | refine mo_a (fun _ => ?_))
theorem mn_X5_step {x1 : Int32} {h : hp_T} {Q Q' : hp_T → Prop} (hQ : ∀ v0, Q v0 → Q' v0) : wp_X5_step x1 h Q → wp_X5_step x1 h Q' := by
  unfold wp_X5_step
  repeat' (with_reducible first | exact hQ _ | refine And.imp ?_ ?_ | refine Exists.imp (fun _ => ?_) | exact id | refine mo_a (fun _ => ?_))
theorem mn_X5_takes {x1 : Int32} {h : hp_T} {Q Q' : Int32 → hp_T → Prop} (hQ : ∀ v0 v1, Q v0 v1 → Q' v0 v1) : wp_X5_takes x1 h Q → wp_X5_takes x1 h Q' := by
  unfold wp_X5_takes
  repeat' (with_reducible first | exact hQ _ _ | refine And.imp ?_ ?_ | refine mn_X5_ahead (fun _ => ?_) | refine Exists.imp (fun _ => ?_) | exact id | refine mo_a (fun _ => ?_))
theorem mn_X5_readNumber_L4 {Q Q' : hp_T → Prop} (hQ : ∀ v0, Q v0 → Q' v0) : ∀ (nn : Nat) (y0 : Int32) (y1 : Int32) (y2 : hp_T), wp_X5_readNumber_L4 Q nn y0 y1 y2 → wp_X5_readNumber_L4 Q' nn y0 y1 y2 := by
  intro nn
  induction nn with
  | zero => intro y0 y1 y2; exact fun f => f
  | succ nn ih =>
    intro y0 y1 y2
    unfold wp_X5_readNumber_L4
    repeat' (with_reducible first | exact hQ _ | exact ih _ _ _ | refine And.imp ?_ ?_ | refine mn_X5_step (fun _ => ?_) | refine mn_X5_ahead (fun _ => ?_) | refine mn_X5_isDigit (fun _ => ?_) | refine Exists.imp (fun _ => ?_) | exact id | refine mo_a (fun _ => ?_))
theorem mn_X5_readNumber {h : hp_T} {Q Q' : hp_T → Prop} (hQ : ∀ v0, Q v0 → Q' v0) : wp_X5_readNumber h Q → wp_X5_readNumber h Q' := by
  unfold wp_X5_readNumber
  repeat' (with_reducible first | exact hQ _ | refine And.imp ?_ ?_ | exact mn_X5_readNumber_L4 hQ _ _ _ _ | refine Exists.imp (fun _ => ?_) | exact id | refine mo_a (fun _ => ?_))
theorem mn_X5_readT_L7 {rc : rt_X5} {x1 : Int32} {Q Q' : hp_T → Prop} (hr : MO_X5 rc) (hQ : ∀ v0, Q v0 → Q' v0) : ∀ (nn : Nat) (y0 : Int32) (y1 : hp_T), wp_X5_readT_L7 rc x1 Q nn y0 y1 → wp_X5_readT_L7 rc x1 Q' nn y0 y1 := by
  intro nn
  induction nn with
  | zero => intro y0 y1; exact fun f => f
  | succ nn ih =>
    intro y0 y1
    unfold wp_X5_readT_L7
    repeat' (with_reducible first | exact hQ _ | exact ih _ _ | refine And.imp ?_ ?_ | refine mn_X5_takes (fun _ _ => ?_) | refine mn_X5_step (fun _ => ?_) | refine hr.2.1 _ _ _ _ (fun _ => ?_) | refine Exists.imp (fun _ => ?_) | exact id | refine mo_a (fun _ => ?_))
theorem mn_X5_readT {rc : rt_X5} {x1 : Int32} {h : hp_T} {Q Q' : hp_T → Prop} (hr : MO_X5 rc) (hQ : ∀ v0, Q v0 → Q' v0) : wp_X5_readT rc x1 h Q → wp_X5_readT rc x1 h Q' := by
  unfold wp_X5_readT
  repeat' (with_reducible first | exact hQ _ | refine And.imp ?_ ?_ | exact mn_X5_readT_L7 hr hQ _ _ _ | refine hr.2.1 _ _ _ _ (fun _ => ?_) | refine Exists.imp (fun _ => ?_) | exact id | refine mo_a (fun _ => ?_))
theorem mn_X5_readA_L7 {rc : rt_X5} {x1 : Int32} {Q Q' : hp_T → Prop} (hr : MO_X5 rc) (hQ : ∀ v0, Q v0 → Q' v0) : ∀ (nn : Nat) (y0 : Int32) (y1 : hp_T), wp_X5_readA_L7 rc x1 Q nn y0 y1 → wp_X5_readA_L7 rc x1 Q' nn y0 y1 := by
  intro nn
  induction nn with
  | zero => intro y0 y1; exact fun f => f
  | succ nn ih =>
    intro y0 y1
    unfold wp_X5_readA_L7
    repeat' (with_reducible first | exact hQ _ | exact ih _ _ | refine And.imp ?_ ?_ | refine mn_X5_takes (fun _ _ => ?_) | refine mn_X5_step (fun _ => ?_) | refine hr.2.2.1 _ _ _ _ (fun _ => ?_) | refine Exists.imp (fun _ => ?_) | exact id | refine mo_a (fun _ => ?_))
theorem mn_X5_readA {rc : rt_X5} {x1 : Int32} {h : hp_T} {Q Q' : hp_T → Prop} (hr : MO_X5 rc) (hQ : ∀ v0, Q v0 → Q' v0) : wp_X5_readA rc x1 h Q → wp_X5_readA rc x1 h Q' := by
  unfold wp_X5_readA
  repeat' (with_reducible first | exact hQ _ | refine And.imp ?_ ?_ | exact mn_X5_readA_L7 hr hQ _ _ _ | refine hr.2.2.1 _ _ _ _ (fun _ => ?_) | refine Exists.imp (fun _ => ?_) | exact id | refine mo_a (fun _ => ?_))
theorem mn_X5_readB {rc : rt_X5} {x1 : Int32} {h : hp_T} {Q Q' : hp_T → Prop} (hr : MO_X5 rc) (hQ : ∀ v0, Q v0 → Q' v0) : wp_X5_readB rc x1 h Q → wp_X5_readB rc x1 h Q' := by
  unfold wp_X5_readB
  repeat' (with_reducible first | exact hQ _ | refine And.imp ?_ ?_ | refine mn_X5_ahead (fun _ => ?_) | refine mn_X5_step (fun _ => ?_) | refine hr.2.2.2.1 _ _ _ _ (fun _ => ?_) | refine Exists.imp (fun _ => ?_) | exact id | refine mo_a (fun _ => ?_))
theorem mn_X5_readS_L7 {rc : rt_X5} {x1 : Int32} {Q Q' : hp_T → Prop} (hr : MO_X5 rc) (hQ : ∀ v0, Q v0 → Q' v0) : ∀ (nn : Nat) (y0 : Int32) (y1 : hp_T), wp_X5_readS_L7 rc x1 Q nn y0 y1 → wp_X5_readS_L7 rc x1 Q' nn y0 y1 := by
  intro nn
  induction nn with
  | zero => intro y0 y1; exact fun f => f
  | succ nn ih =>
    intro y0 y1
    unfold wp_X5_readS_L7
    repeat' (with_reducible first | exact hQ _ | exact ih _ _ | refine And.imp ?_ ?_ | refine mn_X5_ahead (fun _ => ?_) | refine mn_X5_step (fun _ => ?_) | refine hr.2.2.2.2.1 _ _ _ _ (fun _ => ?_) | refine Exists.imp (fun _ => ?_) | exact id | refine mo_a (fun _ => ?_))
theorem mn_X5_readS {rc : rt_X5} {x1 : Int32} {h : hp_T} {Q Q' : hp_T → Prop} (hr : MO_X5 rc) (hQ : ∀ v0, Q v0 → Q' v0) : wp_X5_readS rc x1 h Q → wp_X5_readS rc x1 h Q' := by
  unfold wp_X5_readS
  repeat' (with_reducible first | exact hQ _ | refine And.imp ?_ ?_ | exact mn_X5_readS_L7 hr hQ _ _ _ | refine hr.2.2.2.2.1 _ _ _ _ (fun _ => ?_) | refine Exists.imp (fun _ => ?_) | exact id | refine mo_a (fun _ => ?_))
theorem mn_X5_readP_L7 {rc : rt_X5} {x1 : Int32} {Q Q' : hp_T → Prop} (hr : MO_X5 rc) (hQ : ∀ v0, Q v0 → Q' v0) : ∀ (nn : Nat) (y0 : Int32) (y1 : hp_T), wp_X5_readP_L7 rc x1 Q nn y0 y1 → wp_X5_readP_L7 rc x1 Q' nn y0 y1 := by
  intro nn
  induction nn with
  | zero => intro y0 y1; exact fun f => f
  | succ nn ih =>
    intro y0 y1
    unfold wp_X5_readP_L7
    repeat' (with_reducible first | exact hQ _ | exact ih _ _ | refine And.imp ?_ ?_ | refine mn_X5_ahead (fun _ => ?_) | refine mn_X5_step (fun _ => ?_) | refine hr.2.2.2.2.2 _ _ _ _ (fun _ => ?_) | refine Exists.imp (fun _ => ?_) | exact id | refine mo_a (fun _ => ?_))
theorem mn_X5_readP {rc : rt_X5} {x1 : Int32} {h : hp_T} {Q Q' : hp_T → Prop} (hr : MO_X5 rc) (hQ : ∀ v0, Q v0 → Q' v0) : wp_X5_readP rc x1 h Q → wp_X5_readP rc x1 h Q' := by
  unfold wp_X5_readP
  repeat' (with_reducible first | exact hQ _ | refine And.imp ?_ ?_ | exact mn_X5_readP_L7 hr hQ _ _ _ | refine hr.2.2.2.2.2 _ _ _ _ (fun _ => ?_) | refine Exists.imp (fun _ => ?_) | exact id | refine mo_a (fun _ => ?_))
theorem mn_X5_readQ {rc : rt_X5} {x1 : Int32} {h : hp_T} {Q Q' : hp_T → Prop} (hr : MO_X5 rc) (hQ : ∀ v0, Q v0 → Q' v0) : wp_X5_readQ rc x1 h Q → wp_X5_readQ rc x1 h Q' := by
  unfold wp_X5_readQ
  repeat' (with_reducible first | exact hQ _ | refine And.imp ?_ ?_ | refine mn_X5_ahead (fun _ => ?_) | refine mn_X5_isDigit (fun _ => ?_) | refine mn_X5_step (fun _ => ?_) | refine mn_X5_fail (fun _ => ?_) | refine mn_X5_takes (fun _ _ => ?_) | refine mn_X5_readNumber (fun _ => ?_) | refine hr.1 _ _ _ _ (fun _ => ?_) | refine hr.2.2.2.2.2 _ _ _ _ (fun _ => ?_) | refine Exists.imp (fun _ => ?_) | exact id | refine mo_a (fun _ => ?_))
theorem MOw_X5 : ∀ d, MO_X5 (wr_X5 d) := by
  intro d
  induction d with
  | zero => exact ⟨fun _ _ _ _ _ f => f, fun _ _ _ _ _ f => f, fun _ _ _ _ _ f => f, fun _ _ _ _ _ f => f, fun _ _ _ _ _ f => f, fun _ _ _ _ _ f => f⟩
  | succ d ih => exact ⟨fun _ _ _ _ hq => mn_X5_readT ih hq, fun _ _ _ _ hq => mn_X5_readA ih hq, fun _ _ _ _ hq => mn_X5_readB ih hq, fun _ _ _ _ hq => mn_X5_readS ih hq, fun _ _ _ _ hq => mn_X5_readP ih hq, fun _ _ _ _ hq => mn_X5_readQ ih hq⟩
theorem mn_X5_read {a1 : Nat} {x2 : Int32} {x3 : Int32} {h : hp_T} {Q Q' : Option Nat → hp_T → Prop} (hQ : ∀ v0 v1, Q v0 v1 → Q' v0 v1) : wp_X5_read a1 x2 x3 h Q → wp_X5_read a1 x2 x3 h Q' := by
  unfold wp_X5_read
  repeat' (with_reducible first | exact hQ _ _ | refine And.imp ?_ ?_ | refine mn_X4_init (fun _ => ?_) | refine mn_X5_fail (fun _ => ?_) | refine (MOw_X5 60).1 _ _ _ _ (fun _ => ?_) | refine Exists.imp (fun _ => ?_) | exact id | refine mo_a (fun _ => ?_))
theorem mn_X7_error {x1 : Int32} {h : hp_T} {Q Q' : Int32 → hp_T → Prop} (hQ : ∀ v0 v1, Q v0 v1 → Q' v0 v1) : wp_X7_error x1 h Q → wp_X7_error x1 h Q' := by
  unfold wp_X7_error
  repeat' (with_reducible first | exact hQ _ _ | refine And.imp ?_ ?_ | refine Exists.imp (fun _ => ?_) | exact id | refine mo_a (fun _ => ?_))
theorem mn_X7_isBunk {x1 : Int32} {h : hp_T} {Q Q' : Int32 → Prop} (hQ : ∀ v0, Q v0 → Q' v0) : wp_X7_isBunk x1 h Q → wp_X7_isBunk x1 h Q' := by
  unfold wp_X7_isBunk
  repeat' (with_reducible first | exact hQ _ | refine And.imp ?_ ?_ | refine mn_X7_within (fun _ => ?_) | refine Exists.imp (fun _ => ?_) | exact id | refine mo_a (fun _ => ?_))
theorem mn_X7_as {x1 : Int32} {x2 : Int32} {h : hp_T} {Q Q' : Int32 → hp_T → Prop} (hQ : ∀ v0 v1, Q v0 v1 → Q' v0 v1) : wp_X7_as x1 x2 h Q → wp_X7_as x1 x2 h Q' := by
  unfold wp_X7_as
  repeat' (with_reducible first | exact hQ _ _ | refine And.imp ?_ ?_ | refine mn_X7_isBunk (fun _ => ?_) | refine mn_X7_error (fun _ _ => ?_) | refine mn_X7_within (fun _ => ?_) | refine mn_X0_isOf (fun _ => ?_) | refine Exists.imp (fun _ => ?_) | exact id | refine mo_a (fun _ => ?_))
theorem mn_X7_began_L32 {x1 : Int32} {x2 : Int32} {Q Q' : Int32 → hp_T → Prop} (hQ : ∀ v0 v1, Q v0 v1 → Q' v0 v1) : ∀ (nn : Nat) (y0 : Int32) (y1 : Int32) (y2 : Int32) (y3 : hp_T), wp_X7_began_L32 x1 x2 Q nn y0 y1 y2 y3 → wp_X7_began_L32 x1 x2 Q' nn y0 y1 y2 y3 := by
  intro nn
  induction nn with
  | zero => intro y0 y1 y2 y3; exact fun f => f
  | succ nn ih =>
    intro y0 y1 y2 y3
    unfold wp_X7_began_L32
    repeat' (with_reducible first | exact hQ _ _ | exact ih _ _ _ _ | refine And.imp ?_ ?_ | refine mn_X7_error (fun _ _ => ?_) | refine mn_X0_knows (fun _ => ?_) | refine Exists.imp (fun _ => ?_) | exact id | refine mo_a (fun _ => ?_))
theorem mn_X7_began {x1 : Int32} {x2 : Int32} {h : hp_T} {Q Q' : Int32 → hp_T → Prop} (hQ : ∀ v0 v1, Q v0 v1 → Q' v0 v1) : wp_X7_began x1 x2 h Q → wp_X7_began x1 x2 h Q' := by
  unfold wp_X7_began
  repeat' (with_reducible first | exact hQ _ _ | refine And.imp ?_ ?_ | refine mn_X7_isKnack (fun _ => ?_) | refine mn_X7_error (fun _ _ => ?_) | refine mn_X7_within (fun _ => ?_) | exact mn_X7_began_L32 hQ _ _ _ _ _ | refine Exists.imp (fun _ => ?_) | exact id | refine mo_a (fun _ => ?_))
theorem mn_X7_body {x1 : Int32} {h : hp_T} {Q Q' : Int32 → hp_T → Prop} (hQ : ∀ v0 v1, Q v0 v1 → Q' v0 v1) : wp_X7_body x1 h Q → wp_X7_body x1 h Q' := by
  unfold wp_X7_body
  repeat' (with_reducible first | exact hQ _ _ | refine And.imp ?_ ?_ | refine mn_X7_within (fun _ => ?_) | refine mn_X7_error (fun _ _ => ?_) | refine Exists.imp (fun _ => ?_) | exact id | refine mo_a (fun _ => ?_))
theorem mn_X7_book {x1 : Int32} {h : hp_T} {Q Q' : Int32 → hp_T → Prop} (hQ : ∀ v0 v1, Q v0 v1 → Q' v0 v1) : wp_X7_book x1 h Q → wp_X7_book x1 h Q' := by
  unfold wp_X7_book
  repeat' (with_reducible first | exact hQ _ _ | refine And.imp ?_ ?_ | refine mn_X7_within (fun _ => ?_) | refine mn_X7_error (fun _ _ => ?_) | refine Exists.imp (fun _ => ?_) | exact id | refine mo_a (fun _ => ?_))
theorem mn_X7_bunk {x1 : Int32} {h : hp_T} {Q Q' : Int32 → hp_T → Prop} (hQ : ∀ v0 v1, Q v0 v1 → Q' v0 v1) : wp_X7_bunk x1 h Q → wp_X7_bunk x1 h Q' := by
  unfold wp_X7_bunk
  repeat' (with_reducible first | exact hQ _ _ | refine And.imp ?_ ?_ | refine mn_X7_within (fun _ => ?_) | refine mn_X7_error (fun _ _ => ?_) | refine mn_X2_addBunk (fun _ _ => ?_) | refine Exists.imp (fun _ => ?_) | exact id | refine mo_a (fun _ => ?_))
theorem mn_X7_bunkIs {x1 : Int32} {x2 : Int32} {h : hp_T} {Q Q' : Int32 → hp_T → Prop} (hQ : ∀ v0 v1, Q v0 v1 → Q' v0 v1) : wp_X7_bunkIs x1 x2 h Q → wp_X7_bunkIs x1 x2 h Q' := by
  unfold wp_X7_bunkIs
  repeat' (with_reducible first | exact hQ _ _ | refine And.imp ?_ ?_ | refine mn_X7_isBunk (fun _ => ?_) | refine mn_X7_error (fun _ _ => ?_) | refine mn_X7_within (fun _ => ?_) | refine mn_X2_ofMan (fun _ _ => ?_) | refine Exists.imp (fun _ => ?_) | exact id | refine mo_a (fun _ => ?_))
theorem mn_X7_changes_L32 {x1 : Int32} {x2 : Int32} {Q Q' : Int32 → hp_T → Prop} (hQ : ∀ v0 v1, Q v0 v1 → Q' v0 v1) : ∀ (nn : Nat) (y0 : Int32) (y1 : Int32) (y2 : Int32) (y3 : hp_T), wp_X7_changes_L32 x1 x2 Q nn y0 y1 y2 y3 → wp_X7_changes_L32 x1 x2 Q' nn y0 y1 y2 y3 := by
  intro nn
  induction nn with
  | zero => intro y0 y1 y2 y3; exact fun f => f
  | succ nn ih =>
    intro y0 y1 y2 y3
    unfold wp_X7_changes_L32
    repeat' (with_reducible first | exact hQ _ _ | exact ih _ _ _ _ | refine And.imp ?_ ?_ | refine mn_X0_knows (fun _ => ?_) | refine Exists.imp (fun _ => ?_) | exact id | refine mo_a (fun _ => ?_))
theorem mn_X7_changes {x1 : Int32} {x2 : Int32} {h : hp_T} {Q Q' : Int32 → hp_T → Prop} (hQ : ∀ v0 v1, Q v0 v1 → Q' v0 v1) : wp_X7_changes x1 x2 h Q → wp_X7_changes x1 x2 h Q' := by
  unfold wp_X7_changes
  repeat' (with_reducible first | exact hQ _ _ | refine And.imp ?_ ?_ | refine mn_X7_isKnack (fun _ => ?_) | refine mn_X7_error (fun _ _ => ?_) | refine mn_X7_within (fun _ => ?_) | exact mn_X7_changes_L32 hQ _ _ _ _ _ | refine Exists.imp (fun _ => ?_) | exact id | refine mo_a (fun _ => ?_))
theorem mn_X7_goAhead_L13 {x1 : Int32} {Q Q' : hp_T → Prop} (hQ : ∀ v0, Q v0 → Q' v0) : ∀ (nn : Nat) (y0 : Int32) (y1 : hp_T), wp_X7_goAhead_L13 x1 Q nn y0 y1 → wp_X7_goAhead_L13 x1 Q' nn y0 y1 := by
  intro nn
  induction nn with
  | zero => intro y0 y1; exact fun f => f
  | succ nn ih =>
    intro y0 y1
    unfold wp_X7_goAhead_L13
    repeat' (with_reducible first | exact hQ _ | exact ih _ _ | refine And.imp ?_ ?_ | refine mn_X2_passDay (fun _ _ => ?_) | refine Exists.imp (fun _ => ?_) | exact id | refine mo_a (fun _ => ?_))
theorem mn_X7_goAhead {x1 : Int32} {h : hp_T} {Q Q' : hp_T → Prop} (hQ : ∀ v0, Q v0 → Q' v0) : wp_X7_goAhead x1 h Q → wp_X7_goAhead x1 h Q' := by
  unfold wp_X7_goAhead
  repeat' (with_reducible first | exact hQ _ | refine And.imp ?_ ?_ | refine mn_X2_copyFrom (fun _ => ?_) | exact mn_X7_goAhead_L13 hQ _ _ _ | refine Exists.imp (fun _ => ?_) | exact id | refine mo_a (fun _ => ?_))
theorem mn_X7_check_L36 {x1 : Int32} {Q Q' : Int32 → hp_T → Prop} (hQ : ∀ v0 v1, Q v0 v1 → Q' v0 v1) : ∀ (nn : Nat) (y0 : Int32) (y1 : Int32) (y2 : hp_T), wp_X7_check_L36 x1 Q nn y0 y1 y2 → wp_X7_check_L36 x1 Q' nn y0 y1 y2 := by
  intro nn
  induction nn with
  | zero => intro y0 y1 y2; exact fun f => f
  | succ nn ih =>
    intro y0 y1 y2
    unfold wp_X7_check_L36
    repeat' (with_reducible first | exact hQ _ _ | exact ih _ _ _ | refine And.imp ?_ ?_ | refine mn_X2_passDay (fun _ _ => ?_) | refine mn_X2_knowers (fun _ => ?_) | refine Exists.imp (fun _ => ?_) | exact id | refine mo_a (fun _ => ?_))
theorem mn_X7_check {x1 : Int32} {h : hp_T} {Q Q' : Int32 → hp_T → Prop} (hQ : ∀ v0 v1, Q v0 v1 → Q' v0 v1) : wp_X7_check x1 h Q → wp_X7_check x1 h Q' := by
  unfold wp_X7_check
  repeat' (with_reducible first | exact hQ _ _ | refine And.imp ?_ ?_ | refine mn_X7_isKnack (fun _ => ?_) | refine mn_X7_error (fun _ _ => ?_) | refine mn_X7_goAhead (fun _ => ?_) | exact mn_X7_check_L36 hQ _ _ _ _ | refine Exists.imp (fun _ => ?_) | exact id | refine mo_a (fun _ => ?_))
theorem mn_X7_count {x1 : Int32} {h : hp_T} {Q Q' : Int32 → hp_T → Prop} (hQ : ∀ v0 v1, Q v0 v1 → Q' v0 v1) : wp_X7_count x1 h Q → wp_X7_count x1 h Q' := by
  unfold wp_X7_count
  repeat' (with_reducible first | exact hQ _ _ | refine And.imp ?_ ?_ | refine mn_X2_knownByAny (fun _ => ?_) | refine mn_X7_error (fun _ _ => ?_) | refine Exists.imp (fun _ => ?_) | exact id | refine mo_a (fun _ => ?_))
theorem mn_X7_days_L41 {x1 : Int32} {Q Q' : Int32 → hp_T → Prop} (hQ : ∀ v0 v1, Q v0 v1 → Q' v0 v1) : ∀ (nn : Nat) (y0 : Int32) (y1 : Int32) (y2 : hp_T), wp_X7_days_L41 x1 Q nn y0 y1 y2 → wp_X7_days_L41 x1 Q' nn y0 y1 y2 := by
  intro nn
  induction nn with
  | zero => intro y0 y1 y2; exact fun f => f
  | succ nn ih =>
    intro y0 y1 y2
    unfold wp_X7_days_L41
    repeat' (with_reducible first | exact hQ _ _ | exact ih _ _ _ | refine And.imp ?_ ?_ | refine mn_X2_passDay (fun _ _ => ?_) | refine Exists.imp (fun _ => ?_) | exact id | refine mo_a (fun _ => ?_))
theorem mn_X7_days {x1 : Int32} {h : hp_T} {Q Q' : Int32 → hp_T → Prop} (hQ : ∀ v0 v1, Q v0 v1 → Q' v0 v1) : wp_X7_days x1 h Q → wp_X7_days x1 h Q' := by
  unfold wp_X7_days
  repeat' (with_reducible first | exact hQ _ _ | refine And.imp ?_ ?_ | refine mn_X7_within (fun _ => ?_) | refine mn_X7_error (fun _ _ => ?_) | exact mn_X7_days_L41 hQ _ _ _ _ | refine Exists.imp (fun _ => ?_) | exact id | refine mo_a (fun _ => ?_))
theorem mn_X7_doneWithBook_L21 {x1 : Int32} {x2 : Int32} {Q Q' : Int32 → hp_T → Prop} (hQ : ∀ v0 v1, Q v0 v1 → Q' v0 v1) : ∀ (nn : Nat) (y0 : Int32) (y1 : hp_T), wp_X7_doneWithBook_L21 x1 x2 Q nn y0 y1 → wp_X7_doneWithBook_L21 x1 x2 Q' nn y0 y1 := by
  intro nn
  induction nn with
  | zero => intro y0 y1; exact fun f => f
  | succ nn ih =>
    intro y0 y1
    unfold wp_X7_doneWithBook_L21
    repeat' (with_reducible first | exact hQ _ _ | exact ih _ _ | refine And.imp ?_ ?_ | refine mn_X2_doneOfAll (fun _ => ?_) | refine mn_X2_passDay (fun _ _ => ?_) | refine Exists.imp (fun _ => ?_) | exact id | refine mo_a (fun _ => ?_))
theorem mn_X7_doneWithBook {x1 : Int32} {x2 : Int32} {h : hp_T} {Q Q' : Int32 → hp_T → Prop} (hQ : ∀ v0 v1, Q v0 v1 → Q' v0 v1) : wp_X7_doneWithBook x1 x2 h Q → wp_X7_doneWithBook x1 x2 h Q' := by
  unfold wp_X7_doneWithBook
  repeat' (with_reducible first | exact hQ _ _ | refine And.imp ?_ ?_ | refine mn_X2_copyFrom (fun _ => ?_) | exact mn_X7_doneWithBook_L21 hQ _ _ _ | refine Exists.imp (fun _ => ?_) | exact id | refine mo_a (fun _ => ?_))
theorem mn_X7_draws_L41 {x1 : Int32} {Q Q' : Int32 → hp_T → Prop} (hQ : ∀ v0 v1, Q v0 v1 → Q' v0 v1) : ∀ (nn : Nat) (y0 : Int32) (y1 : Int32) (y2 : hp_T), wp_X7_draws_L41 x1 Q nn y0 y1 y2 → wp_X7_draws_L41 x1 Q' nn y0 y1 y2 := by
  intro nn
  induction nn with
  | zero => intro y0 y1 y2; exact fun f => f
  | succ nn ih =>
    intro y0 y1 y2
    unfold wp_X7_draws_L41
    repeat' (with_reducible first | exact hQ _ _ | exact ih _ _ _ | refine And.imp ?_ ?_ | refine mn_X2_passDayByDraws (fun _ _ => ?_) | refine Exists.imp (fun _ => ?_) | exact id | refine mo_a (fun _ => ?_))
theorem mn_X7_draws {x1 : Int32} {h : hp_T} {Q Q' : Int32 → hp_T → Prop} (hQ : ∀ v0 v1, Q v0 v1 → Q' v0 v1) : wp_X7_draws x1 h Q → wp_X7_draws x1 h Q' := by
  unfold wp_X7_draws
  repeat' (with_reducible first | exact hQ _ _ | refine And.imp ?_ ?_ | refine mn_X7_within (fun _ => ?_) | refine mn_X7_error (fun _ _ => ?_) | exact mn_X7_draws_L41 hQ _ _ _ _ | refine Exists.imp (fun _ => ?_) | exact id | refine mo_a (fun _ => ?_))
theorem mn_X7_feed_L39 {x1 : Int64} {x3 : Int32} {Q Q' : Int32 → hp_T → Prop} (hQ : ∀ v0 v1, Q v0 v1 → Q' v0 v1) : ∀ (nn : Nat) (y0 : Int32) (y1 : hp_T), wp_X7_feed_L39 x1 x3 Q nn y0 y1 → wp_X7_feed_L39 x1 x3 Q' nn y0 y1 := by
  intro nn
  induction nn with
  | zero => intro y0 y1; exact fun f => f
  | succ nn ih =>
    intro y0 y1
    unfold wp_X7_feed_L39
    repeat' (with_reducible first | exact hQ _ _ | exact ih _ _ | refine And.imp ?_ ?_ | refine Exists.imp (fun _ => ?_) | exact id | refine mo_a (fun _ => ?_))
theorem mn_X7_feed {x1 : Int64} {x3 : Int32} {h : hp_T} {Q Q' : Int32 → hp_T → Prop} (hQ : ∀ v0 v1, Q v0 v1 → Q' v0 v1) : wp_X7_feed x1 x3 h Q → wp_X7_feed x1 x3 h Q' := by
  unfold wp_X7_feed
  repeat' (with_reducible first | exact hQ _ _ | refine And.imp ?_ ?_ | refine mn_X7_within (fun _ => ?_) | refine mn_X7_error (fun _ _ => ?_) | exact mn_X7_feed_L39 hQ _ _ _ | refine Exists.imp (fun _ => ?_) | exact id | refine mo_a (fun _ => ?_))
theorem mn_X7_handed_L45 {x1 : Int32} {x2 : Int32} {Q Q' : Int32 → hp_T → Prop} (hQ : ∀ v0 v1, Q v0 v1 → Q' v0 v1) : ∀ (nn : Nat) (y0 : Int32) (y1 : hp_T), wp_X7_handed_L45 x1 x2 Q nn y0 y1 → wp_X7_handed_L45 x1 x2 Q' nn y0 y1 := by
  intro nn
  induction nn with
  | zero => intro y0 y1; exact fun f => f
  | succ nn ih =>
    intro y0 y1
    unfold wp_X7_handed_L45
    repeat' (with_reducible first | exact hQ _ _ | exact ih _ _ | refine And.imp ?_ ?_ | refine mn_X0_isOf (fun _ => ?_) | refine Exists.imp (fun _ => ?_) | exact id | refine mo_a (fun _ => ?_))
theorem mn_X7_handed {x1 : Int32} {x2 : Int32} {h : hp_T} {Q Q' : Int32 → hp_T → Prop} (hQ : ∀ v0 v1, Q v0 v1 → Q' v0 v1) : wp_X7_handed x1 x2 h Q → wp_X7_handed x1 x2 h Q' := by
  unfold wp_X7_handed
  repeat' (with_reducible first | exact hQ _ _ | refine And.imp ?_ ?_ | refine mn_X7_isBunk (fun _ => ?_) | refine mn_X7_error (fun _ _ => ?_) | refine mn_X7_isKnack (fun _ => ?_) | refine mn_X0_knows (fun _ => ?_) | exact mn_X7_handed_L45 hQ _ _ _ | refine Exists.imp (fun _ => ?_) | exact id | refine mo_a (fun _ => ?_))
theorem mn_X7_image {h : hp_T} {Q Q' : Int32 → hp_T → Prop} (hQ : ∀ v0 v1, Q v0 v1 → Q' v0 v1) : wp_X7_image h Q → wp_X7_image h Q' := by
  unfold wp_X7_image
  repeat' (with_reducible first | exact hQ _ _ | refine And.imp ?_ ?_ | refine mn_X2_copyFrom (fun _ => ?_) | refine Exists.imp (fun _ => ?_) | exact id | refine mo_a (fun _ => ?_))
theorem mn_X7_isSheet {x0 : Int32} {h : hp_T} {Q Q' : Int32 → Prop} (hQ : ∀ v0, Q v0 → Q' v0) : wp_X7_isSheet x0 h Q → wp_X7_isSheet x0 h Q' := by
  unfold wp_X7_isSheet
  repeat' (with_reducible first | exact hQ _ | refine And.imp ?_ ?_ | refine mn_X7_within (fun _ => ?_) | refine Exists.imp (fun _ => ?_) | exact id | refine mo_a (fun _ => ?_))
theorem mn_X7_judge_L51 {x1 : Int32} {Q Q' : Int32 → hp_T → Prop} (hQ : ∀ v0 v1, Q v0 v1 → Q' v0 v1) : ∀ (nn : Nat) (y0 : Nat) (y1 : Int32) (y2 : Int32) (y3 : hp_T), wp_X7_judge_L51 x1 Q nn y0 y1 y2 y3 → wp_X7_judge_L51 x1 Q' nn y0 y1 y2 y3 := by
  intro nn
  induction nn with
  | zero => intro y0 y1 y2 y3; exact fun f => f
  | succ nn ih =>
    intro y0 y1 y2 y3
    unfold wp_X7_judge_L51
    repeat' (with_reducible first | exact hQ _ _ | exact ih _ _ _ _ | refine And.imp ?_ ?_ | refine Exists.imp (fun _ => ?_) | exact id | refine mo_a (fun _ => ?_))
theorem mn_X7_judge {x1 : Int32} {h : hp_T} {Q Q' : Int32 → hp_T → Prop} (hQ : ∀ v0 v1, Q v0 v1 → Q' v0 v1) : wp_X7_judge x1 h Q → wp_X7_judge x1 h Q' := by
  unfold wp_X7_judge
  repeat' (with_reducible first | exact hQ _ _ | refine And.imp ?_ ?_ | refine mn_X7_isSheet (fun _ => ?_) | refine mn_X7_error (fun _ _ => ?_) | refine mn_X1_isMissing (fun _ => ?_) | exact mn_X7_judge_L51 hQ _ _ _ _ _ | refine Exists.imp (fun _ => ?_) | exact id | refine mo_a (fun _ => ?_))
theorem mn_X7_know {x1 : Int32} {x2 : Int32} {x3 : Int32} {h : hp_T} {Q Q' : Int32 → hp_T → Prop} (hQ : ∀ v0 v1, Q v0 v1 → Q' v0 v1) : wp_X7_know x1 x2 x3 h Q → wp_X7_know x1 x2 x3 h Q' := by
  unfold wp_X7_know
  repeat' (with_reducible first | exact hQ _ _ | refine And.imp ?_ ?_ | refine mn_X7_isBunk (fun _ => ?_) | refine mn_X7_error (fun _ _ => ?_) | refine mn_X7_isKnack (fun _ => ?_) | refine mn_X7_within (fun _ => ?_) | refine mn_X0_knows (fun _ => ?_) | refine mn_X0_learn (fun _ => ?_) | refine mn_X0_forget (fun _ => ?_) | refine Exists.imp (fun _ => ?_) | exact id | refine mo_a (fun _ => ?_))
theorem mn_X7_lost_L30 {x1 : Int32} {x2 : Int32} {Q Q' : Int32 → hp_T → Prop} (hQ : ∀ v0 v1, Q v0 v1 → Q' v0 v1) : ∀ (nn : Nat) (y0 : Int32) (y1 : hp_T), wp_X7_lost_L30 x1 x2 Q nn y0 y1 → wp_X7_lost_L30 x1 x2 Q' nn y0 y1 := by
  intro nn
  induction nn with
  | zero => intro y0 y1; exact fun f => f
  | succ nn ih =>
    intro y0 y1
    unfold wp_X7_lost_L30
    repeat' (with_reducible first | exact hQ _ _ | exact ih _ _ | refine And.imp ?_ ?_ | refine mn_X7_error (fun _ _ => ?_) | refine mn_X2_knowers (fun _ => ?_) | refine mn_X2_passDay (fun _ _ => ?_) | refine Exists.imp (fun _ => ?_) | exact id | refine mo_a (fun _ => ?_))
theorem mn_X7_lost {x1 : Int32} {x2 : Int32} {h : hp_T} {Q Q' : Int32 → hp_T → Prop} (hQ : ∀ v0 v1, Q v0 v1 → Q' v0 v1) : wp_X7_lost x1 x2 h Q → wp_X7_lost x1 x2 h Q' := by
  unfold wp_X7_lost
  repeat' (with_reducible first | exact hQ _ _ | refine And.imp ?_ ?_ | refine mn_X7_isKnack (fun _ => ?_) | refine mn_X7_error (fun _ _ => ?_) | refine mn_X7_within (fun _ => ?_) | refine mn_X7_goAhead (fun _ => ?_) | exact mn_X7_lost_L30 hQ _ _ _ | refine Exists.imp (fun _ => ?_) | exact id | refine mo_a (fun _ => ?_))
theorem mn_X7_mayEnlist {x0 : Int32} {x1 : Int32} {h : hp_T} {Q Q' : Int32 → Prop} (hQ : ∀ v0, Q v0 → Q' v0) : wp_X7_mayEnlist x0 x1 h Q → wp_X7_mayEnlist x0 x1 h Q' := by
  unfold wp_X7_mayEnlist
  repeat' (with_reducible first | exact hQ _ | refine And.imp ?_ ?_ | refine mn_X7_within (fun _ => ?_) | refine Exists.imp (fun _ => ?_) | exact id | refine mo_a (fun _ => ?_))
theorem mn_X7_maySet {x0 : Int32} {x1 : Int32} {h : hp_T} {Q Q' : Int32 → Prop} (hQ : ∀ v0, Q v0 → Q' v0) : wp_X7_maySet x0 x1 h Q → wp_X7_maySet x0 x1 h Q' := by
  unfold wp_X7_maySet
  repeat' (with_reducible first | exact hQ _ | refine And.imp ?_ ?_ | refine mn_X7_within (fun _ => ?_) | refine Exists.imp (fun _ => ?_) | exact id | refine mo_a (fun _ => ?_))
theorem mn_X7_misheard {x1 : Int32} {h : hp_T} {Q Q' : Int32 → hp_T → Prop} (hQ : ∀ v0 v1, Q v0 v1 → Q' v0 v1) : wp_X7_misheard x1 h Q → wp_X7_misheard x1 h Q' := by
  unfold wp_X7_misheard
  repeat' (with_reducible first | exact hQ _ _ | refine And.imp ?_ ?_ | refine mn_X7_within (fun _ => ?_) | refine mn_X7_error (fun _ _ => ?_) | refine Exists.imp (fun _ => ?_) | exact id | refine mo_a (fun _ => ?_))
theorem mn_X7_move {x1 : Int32} {x2 : Int32} {x3 : Int32} {x4 : Int32} {x5 : Int32} {h : hp_T} {Q Q' : Int32 → hp_T → Prop} (hQ : ∀ v0 v1, Q v0 v1 → Q' v0 v1) : wp_X7_move x1 x2 x3 x4 x5 h Q → wp_X7_move x1 x2 x3 x4 x5 h Q' := by
  unfold wp_X7_move
  repeat' (with_reducible first | exact hQ _ _ | refine And.imp ?_ ?_ | refine mn_X7_isSheet (fun _ => ?_) | refine mn_X7_error (fun _ _ => ?_) | refine mn_X1_isMissing (fun _ => ?_) | refine mn_X1_holds (fun _ => ?_) | refine Exists.imp (fun _ => ?_) | exact id | refine mo_a (fun _ => ?_))
theorem mn_X7_put {x1 : Int32} {x2 : Int32} {x3 : Int32} {h : hp_T} {Q Q' : Int32 → hp_T → Prop} (hQ : ∀ v0 v1, Q v0 v1 → Q' v0 v1) : wp_X7_put x1 x2 x3 h Q → wp_X7_put x1 x2 x3 h Q' := by
  unfold wp_X7_put
  repeat' (with_reducible first | exact hQ _ _ | refine And.imp ?_ ?_ | refine mn_X7_isSheet (fun _ => ?_) | refine mn_X7_error (fun _ _ => ?_) | refine mn_X1_isMissing (fun _ => ?_) | refine mn_X7_within (fun _ => ?_) | refine mn_X1_write (fun _ => ?_) | refine Exists.imp (fun _ => ?_) | exact id | refine mo_a (fun _ => ?_))
theorem mn_X7_restore {h : hp_T} {Q Q' : Int32 → hp_T → Prop} (hQ : ∀ v0 v1, Q v0 v1 → Q' v0 v1) : wp_X7_restore h Q → wp_X7_restore h Q' := by
  unfold wp_X7_restore
  repeat' (with_reducible first | exact hQ _ _ | refine And.imp ?_ ?_ | refine mn_X7_error (fun _ _ => ?_) | refine mn_X2_copyFrom (fun _ => ?_) | refine Exists.imp (fun _ => ?_) | exact id | refine mo_a (fun _ => ?_))
theorem mn_X7_roster {x1 : Int32} {x2 : Int32} {h : hp_T} {Q Q' : Int32 → hp_T → Prop} (hQ : ∀ v0 v1, Q v0 v1 → Q' v0 v1) : wp_X7_roster x1 x2 h Q → wp_X7_roster x1 x2 h Q' := by
  unfold wp_X7_roster
  repeat' (with_reducible first | exact hQ _ _ | refine And.imp ?_ ?_ | refine mn_X7_mayEnlist (fun _ => ?_) | refine mn_X7_error (fun _ _ => ?_) | refine mn_X2_enlist (fun _ _ => ?_) | refine Exists.imp (fun _ => ?_) | exact id | refine mo_a (fun _ => ?_))
theorem mn_X7_rosters_L38 {x1 : Int32} {Q Q' : Int32 → hp_T → Prop} (hQ : ∀ v0 v1, Q v0 v1 → Q' v0 v1) : ∀ (nn : Nat) (y0 : Nat) (y1 : Int32) (y2 : Int32) (y3 : hp_T), wp_X7_rosters_L38 x1 Q nn y0 y1 y2 y3 → wp_X7_rosters_L38 x1 Q' nn y0 y1 y2 y3 := by
  intro nn
  induction nn with
  | zero => intro y0 y1 y2 y3; exact fun f => f
  | succ nn ih =>
    intro y0 y1 y2 y3
    unfold wp_X7_rosters_L38
    repeat' (with_reducible first | exact hQ _ _ | exact ih _ _ _ _ | refine And.imp ?_ ?_ | refine mn_X7_mayEnlist (fun _ => ?_) | refine mn_X2_enlist (fun _ _ => ?_) | refine Exists.imp (fun _ => ?_) | exact id | refine mo_a (fun _ => ?_))
theorem mn_X7_rosters {x1 : Int32} {h : hp_T} {Q Q' : Int32 → hp_T → Prop} (hQ : ∀ v0 v1, Q v0 v1 → Q' v0 v1) : wp_X7_rosters x1 h Q → wp_X7_rosters x1 h Q' := by
  unfold wp_X7_rosters
  repeat' (with_reducible first | exact hQ _ _ | refine And.imp ?_ ?_ | refine mn_X7_isSheet (fun _ => ?_) | refine mn_X7_error (fun _ _ => ?_) | refine mn_X1_isMissing (fun _ => ?_) | exact mn_X7_rosters_L38 hQ _ _ _ _ _ | refine Exists.imp (fun _ => ?_) | exact id | refine mo_a (fun _ => ?_))
theorem mn_X7_saves {x1 : Int32} {x2 : Int32} {h : hp_T} {Q Q' : Int32 → hp_T → Prop} (hQ : ∀ v0 v1, Q v0 v1 → Q' v0 v1) : wp_X7_saves x1 x2 h Q → wp_X7_saves x1 x2 h Q' := by
  unfold wp_X7_saves
  repeat' (with_reducible first | exact hQ _ _ | refine And.imp ?_ ?_ | refine mn_X7_isKnack (fun _ => ?_) | refine mn_X7_error (fun _ _ => ?_) | refine mn_X7_within (fun _ => ?_) | refine mn_X7_doneWithBook (fun _ _ => ?_) | refine Exists.imp (fun _ => ?_) | exact id | refine mo_a (fun _ => ?_))
theorem mn_X7_seed {x1 : Int32} {h : hp_T} {Q Q' : Int32 → hp_T → Prop} (hQ : ∀ v0 v1, Q v0 v1 → Q' v0 v1) : wp_X7_seed x1 h Q → wp_X7_seed x1 h Q' := by
  unfold wp_X7_seed
  repeat' (with_reducible first | exact hQ _ _ | refine And.imp ?_ ?_ | refine Exists.imp (fun _ => ?_) | exact id | refine mo_a (fun _ => ?_))
theorem mn_X7_set {x1 : Int32} {x2 : Int32} {x3 : Int32} {h : hp_T} {Q Q' : Int32 → hp_T → Prop} (hQ : ∀ v0 v1, Q v0 v1 → Q' v0 v1) : wp_X7_set x1 x2 x3 h Q → wp_X7_set x1 x2 x3 h Q' := by
  unfold wp_X7_set
  repeat' (with_reducible first | exact hQ _ _ | refine And.imp ?_ ?_ | refine mn_X7_isBunk (fun _ => ?_) | refine mn_X7_error (fun _ _ => ?_) | refine mn_X7_maySet (fun _ => ?_) | refine mn_X2_ofMan (fun _ _ => ?_) | refine Exists.imp (fun _ => ?_) | exact id | refine mo_a (fun _ => ?_))
theorem mn_X7_sheet_b35 {x1 : Int32} {x2 : Int32} {x3 : Int32} {Q Q' : Int32 → hp_T → Prop} {h : hp_T} (hQ : ∀ v0 v1, Q v0 v1 → Q' v0 v1) : wp_X7_sheet_b35 x1 x2 x3 Q h → wp_X7_sheet_b35 x1 x2 x3 Q' h := by
  unfold wp_X7_sheet_b35
  repeat' (with_reducible first | exact hQ _ _ | refine And.imp ?_ ?_ | refine mn_X1_lay (fun _ => ?_) | refine mn_X7_error (fun _ _ => ?_) | refine Exists.imp (fun _ => ?_) | exact id | refine mo_a (fun _ => ?_))
theorem mn_X7_sheet {x1 : Int32} {x2 : Int32} {x3 : Int32} {h : hp_T} {Q Q' : Int32 → hp_T → Prop} (hQ : ∀ v0 v1, Q v0 v1 → Q' v0 v1) : wp_X7_sheet x1 x2 x3 h Q → wp_X7_sheet x1 x2 x3 h Q' := by
  unfold wp_X7_sheet
  repeat' (with_reducible first | exact hQ _ _ | refine And.imp ?_ ?_ | refine mn_X7_isSheet (fun _ => ?_) | refine mn_X7_error (fun _ _ => ?_) | refine mn_X7_sheet_b35 hQ | refine Exists.imp (fun _ => ?_) | exact id | refine mo_a (fun _ => ?_))
theorem mn_X7_staysKnown_L23 {x1 : Int32} {x2 : Int32} {x3 : Int32} {Q Q' : Int32 → hp_T → Prop} (hQ : ∀ v0 v1, Q v0 v1 → Q' v0 v1) : ∀ (nn : Nat) (y0 : Int32) (y1 : hp_T), wp_X7_staysKnown_L23 x1 x2 x3 Q nn y0 y1 → wp_X7_staysKnown_L23 x1 x2 x3 Q' nn y0 y1 := by
  intro nn
  induction nn with
  | zero => intro y0 y1; exact fun f => f
  | succ nn ih =>
    intro y0 y1
    unfold wp_X7_staysKnown_L23
    repeat' (with_reducible first | exact hQ _ _ | exact ih _ _ | refine And.imp ?_ ?_ | refine mn_X2_passDay (fun _ _ => ?_) | refine mn_X2_knowers (fun _ => ?_) | refine Exists.imp (fun _ => ?_) | exact id | refine mo_a (fun _ => ?_))
theorem mn_X7_staysKnown {x1 : Int32} {x2 : Int32} {x3 : Int32} {h : hp_T} {Q Q' : Int32 → hp_T → Prop} (hQ : ∀ v0 v1, Q v0 v1 → Q' v0 v1) : wp_X7_staysKnown x1 x2 x3 h Q → wp_X7_staysKnown x1 x2 x3 h Q' := by
  unfold wp_X7_staysKnown
  repeat' (with_reducible first | exact hQ _ _ | refine And.imp ?_ ?_ | refine mn_X2_copyFrom (fun _ => ?_) | refine mn_X2_teachOnly (fun _ => ?_) | exact mn_X7_staysKnown_L23 hQ _ _ _ | refine Exists.imp (fun _ => ?_) | exact id | refine mo_a (fun _ => ?_))
theorem mn_X7_storm_L40 {x1 : Int32} {Q Q' : Int32 → hp_T → Prop} {lp_22 lp_22' : Int32 → Int32 → Int32 → hp_T → Prop} (hQ : ∀ v0 v1, Q v0 v1 → Q' v0 v1) (hlp_22 : ∀ v0 v1 v2 v3, lp_22 v0 v1 v2 v3 → lp_22' v0 v1 v2 v3) : ∀ (nn : Nat) (y0 : Int32) (y1 : Int32) (y2 : Int32) (y3 : Int32) (y4 : hp_T), wp_X7_storm_L40 x1 Q lp_22 nn y0 y1 y2 y3 y4 → wp_X7_storm_L40 x1 Q' lp_22' nn y0 y1 y2 y3 y4 := by
  intro nn
  induction nn with
  | zero => intro y0 y1 y2 y3 y4; exact fun f => f
  | succ nn ih =>
    intro y0 y1 y2 y3 y4
    unfold wp_X7_storm_L40
    repeat' (with_reducible first | exact hQ _ _ | exact hlp_22 _ _ _ _ | exact ih _ _ _ _ _ | refine And.imp ?_ ?_ | refine mn_X2_canSpare (fun _ => ?_) | refine Exists.imp (fun _ => ?_) | exact id | refine mo_a (fun _ => ?_))
theorem mn_X7_storm_L22 {x1 : Int32} {Q Q' : Int32 → hp_T → Prop} (hQ : ∀ v0 v1, Q v0 v1 → Q' v0 v1) : ∀ (nn : Nat) (y0 : Int32) (y1 : Int32) (y2 : Int32) (y3 : hp_T), wp_X7_storm_L22 x1 Q nn y0 y1 y2 y3 → wp_X7_storm_L22 x1 Q' nn y0 y1 y2 y3 := by
  intro nn
  induction nn with
  | zero => intro y0 y1 y2 y3; exact fun f => f
  | succ nn ih =>
    intro y0 y1 y2 y3
    unfold wp_X7_storm_L22
    repeat' (with_reducible first | exact hQ _ _ | exact ih _ _ _ _ | refine And.imp ?_ ?_ | refine mn_X7_error (fun _ _ => ?_) | exact mn_X7_storm_L40 hQ ih _ _ _ _ _ _ | refine Exists.imp (fun _ => ?_) | exact id | refine mo_a (fun _ => ?_))
theorem mn_X7_storm {x1 : Int32} {h : hp_T} {Q Q' : Int32 → hp_T → Prop} (hQ : ∀ v0 v1, Q v0 v1 → Q' v0 v1) : wp_X7_storm x1 h Q → wp_X7_storm x1 h Q' := by
  unfold wp_X7_storm
  repeat' (with_reducible first | exact hQ _ _ | refine And.imp ?_ ?_ | refine mn_X7_within (fun _ => ?_) | refine mn_X7_error (fun _ _ => ?_) | exact mn_X7_storm_L22 hQ _ _ _ _ _ | refine Exists.imp (fun _ => ?_) | exact id | refine mo_a (fun _ => ?_))
theorem mn_X7_task {x1 : Int32} {x2 : Int32} {x3 : Int32} {h : hp_T} {Q Q' : Int32 → hp_T → Prop} (hQ : ∀ v0 v1, Q v0 v1 → Q' v0 v1) : wp_X7_task x1 x2 x3 h Q → wp_X7_task x1 x2 x3 h Q' := by
  unfold wp_X7_task
  repeat' (with_reducible first | exact hQ _ _ | refine And.imp ?_ ?_ | refine mn_X7_within (fun _ => ?_) | refine mn_X7_error (fun _ _ => ?_) | refine mn_X7_isKnack (fun _ => ?_) | refine Exists.imp (fun _ => ?_) | exact id | refine mo_a (fun _ => ?_))
theorem mn_X7_taskIs {x1 : Int32} {x2 : Int32} {h : hp_T} {Q Q' : Int32 → hp_T → Prop} (hQ : ∀ v0 v1, Q v0 v1 → Q' v0 v1) : wp_X7_taskIs x1 x2 h Q → wp_X7_taskIs x1 x2 h Q' := by
  unfold wp_X7_taskIs
  repeat' (with_reducible first | exact hQ _ _ | refine And.imp ?_ ?_ | refine mn_X7_within (fun _ => ?_) | refine mn_X7_error (fun _ _ => ?_) | refine mn_X2_ofTask (fun _ => ?_) | refine Exists.imp (fun _ => ?_) | exact id | refine mo_a (fun _ => ?_))
theorem mn_X7_teachers_L38 {x1 : Int32} {x2 : Int32} {x3 : Int32} {Q Q' : Int32 → hp_T → Prop} (hQ : ∀ v0 v1, Q v0 v1 → Q' v0 v1) : ∀ (nn : Nat) (y0 : Int32) (y1 : Int32) (y2 : hp_T), wp_X7_teachers_L38 x1 x2 x3 Q nn y0 y1 y2 → wp_X7_teachers_L38 x1 x2 x3 Q' nn y0 y1 y2 := by
  intro nn
  induction nn with
  | zero => intro y0 y1 y2; exact fun f => f
  | succ nn ih =>
    intro y0 y1 y2
    unfold wp_X7_teachers_L38
    repeat' (with_reducible first | exact hQ _ _ | exact ih _ _ _ | refine And.imp ?_ ?_ | refine mn_J6_bitCount_0f7a4 (fun _ => ?_) | refine mn_X7_error (fun _ _ => ?_) | refine mn_X7_staysKnown (fun _ _ => ?_) | refine Exists.imp (fun _ => ?_) | exact id | refine mo_a (fun _ => ?_))
theorem mn_X7_teachers {x1 : Int32} {x2 : Int32} {x3 : Int32} {h : hp_T} {Q Q' : Int32 → hp_T → Prop} (hQ : ∀ v0 v1, Q v0 v1 → Q' v0 v1) : wp_X7_teachers x1 x2 x3 h Q → wp_X7_teachers x1 x2 x3 h Q' := by
  unfold wp_X7_teachers
  repeat' (with_reducible first | exact hQ _ _ | refine And.imp ?_ ?_ | refine mn_X7_isKnack (fun _ => ?_) | refine mn_X7_error (fun _ _ => ?_) | refine mn_X7_within (fun _ => ?_) | exact mn_X7_teachers_L38 hQ _ _ _ _ | refine Exists.imp (fun _ => ?_) | exact id | refine mo_a (fun _ => ?_))
theorem mn_X7_tell {x1 : Int32} {h : hp_T} {Q Q' : Int32 → hp_T → Prop} (hQ : ∀ v0 v1, Q v0 v1 → Q' v0 v1) : wp_X7_tell x1 h Q → wp_X7_tell x1 h Q' := by
  unfold wp_X7_tell
  repeat' (with_reducible first | exact hQ _ _ | refine And.imp ?_ ?_ | refine mn_X7_error (fun _ _ => ?_) | refine Exists.imp (fun _ => ?_) | exact id | refine mo_a (fun _ => ?_))
theorem mn_X7_text {x1 : Int32} {h : hp_T} {Q Q' : Int32 → hp_T → Prop} (hQ : ∀ v0 v1, Q v0 v1 → Q' v0 v1) : wp_X7_text x1 h Q → wp_X7_text x1 h Q' := by
  unfold wp_X7_text
  repeat' (with_reducible first | exact hQ _ _ | refine And.imp ?_ ?_ | refine mn_X7_within (fun _ => ?_) | refine mn_X7_error (fun _ _ => ?_) | refine mn_X5_read (fun _ _ => ?_) | refine Exists.imp (fun _ => ?_) | exact id | refine mo_a (fun _ => ?_))
theorem mn_X7_then {x1 : Int32} {x2 : Int32} {x3 : Int32} {h : hp_T} {Q Q' : Int32 → hp_T → Prop} (hQ : ∀ v0 v1, Q v0 v1 → Q' v0 v1) : wp_X7_then x1 x2 x3 h Q → wp_X7_then x1 x2 x3 h Q' := by
  unfold wp_X7_then
  repeat' (with_reducible first | exact hQ _ _ | refine And.imp ?_ ?_ | refine mn_X7_within (fun _ => ?_) | refine mn_X7_error (fun _ _ => ?_) | refine mn_X7_isBunk (fun _ => ?_) | refine mn_X7_goAhead (fun _ => ?_) | refine mn_X2_ofMan (fun _ _ => ?_) | refine Exists.imp (fun _ => ?_) | exact id | refine mo_a (fun _ => ?_))
theorem mn_X7_thenTask {x1 : Int32} {x2 : Int32} {x3 : Int32} {h : hp_T} {Q Q' : Int32 → hp_T → Prop} (hQ : ∀ v0 v1, Q v0 v1 → Q' v0 v1) : wp_X7_thenTask x1 x2 x3 h Q → wp_X7_thenTask x1 x2 x3 h Q' := by
  unfold wp_X7_thenTask
  repeat' (with_reducible first | exact hQ _ _ | refine And.imp ?_ ?_ | refine mn_X7_within (fun _ => ?_) | refine mn_X7_error (fun _ _ => ?_) | refine mn_X7_goAhead (fun _ => ?_) | refine mn_X2_ofTask (fun _ => ?_) | refine Exists.imp (fun _ => ?_) | exact id | refine mo_a (fun _ => ?_))
theorem mn_X7_told {x1 : Int32} {h : hp_T} {Q Q' : Int32 → hp_T → Prop} (hQ : ∀ v0 v1, Q v0 v1 → Q' v0 v1) : wp_X7_told x1 h Q → wp_X7_told x1 h Q' := by
  unfold wp_X7_told
  repeat' (with_reducible first | exact hQ _ _ | refine And.imp ?_ ?_ | refine mn_X7_within (fun _ => ?_) | refine mn_X7_error (fun _ _ => ?_) | refine Exists.imp (fun _ => ?_) | exact id | refine mo_a (fun _ => ?_))
theorem mn_X7_untell {x1 : Int32} {h : hp_T} {Q Q' : Int32 → hp_T → Prop} (hQ : ∀ v0 v1, Q v0 v1 → Q' v0 v1) : wp_X7_untell x1 h Q → wp_X7_untell x1 h Q' := by
  unfold wp_X7_untell
  repeat' (with_reducible first | exact hQ _ _ | refine And.imp ?_ ?_ | refine mn_X7_within (fun _ => ?_) | refine mn_X7_error (fun _ _ => ?_) | refine Exists.imp (fun _ => ?_) | exact id | refine mo_a (fun _ => ?_))
theorem mn_X7_voice {x1 : Int32} {x2 : Int32} {x3 : Int32} {h : hp_T} {Q Q' : Int32 → hp_T → Prop} (hQ : ∀ v0 v1, Q v0 v1 → Q' v0 v1) : wp_X7_voice x1 x2 x3 h Q → wp_X7_voice x1 x2 x3 h Q' := by
  unfold wp_X7_voice
  repeat' (with_reducible first | exact hQ _ _ | refine And.imp ?_ ?_ | refine mn_X7_isBunk (fun _ => ?_) | refine mn_X7_error (fun _ _ => ?_) | refine mn_X7_within (fun _ => ?_) | refine mn_X6_speak (fun _ _ => ?_) | refine Exists.imp (fun _ => ?_) | exact id | refine mo_a (fun _ => ?_))
theorem mn_X7_wages_L25 {x1 : Int32} {Q Q' : Int32 → hp_T → Prop} (hQ : ∀ v0 v1, Q v0 v1 → Q' v0 v1) : ∀ (nn : Nat) (y0 : Int32) (y1 : Int32) (y2 : hp_T), wp_X7_wages_L25 x1 Q nn y0 y1 y2 → wp_X7_wages_L25 x1 Q' nn y0 y1 y2 := by
  intro nn
  induction nn with
  | zero => intro y0 y1 y2; exact fun f => f
  | succ nn ih =>
    intro y0 y1 y2
    unfold wp_X7_wages_L25
    repeat' (with_reducible first | exact hQ _ _ | exact ih _ _ _ | refine And.imp ?_ ?_ | refine mn_X2_passDay (fun _ _ => ?_) | refine mn_X2_payOfAll (fun _ _ => ?_) | refine Exists.imp (fun _ => ?_) | exact id | refine mo_a (fun _ => ?_))
theorem mn_X7_wages {x1 : Int32} {h : hp_T} {Q Q' : Int32 → hp_T → Prop} (hQ : ∀ v0 v1, Q v0 v1 → Q' v0 v1) : wp_X7_wages x1 h Q → wp_X7_wages x1 h Q' := by
  unfold wp_X7_wages
  repeat' (with_reducible first | exact hQ _ _ | refine And.imp ?_ ?_ | refine mn_X7_within (fun _ => ?_) | refine mn_X7_error (fun _ _ => ?_) | refine mn_X7_goAhead (fun _ => ?_) | exact mn_X7_wages_L25 hQ _ _ _ _ | refine Exists.imp (fun _ => ?_) | exact id | refine mo_a (fun _ => ?_))
theorem mn_X8_errs {x1 : Int32} {h : hp_T} {Q Q' : Int32 → hp_T → Prop} (hQ : ∀ v0 v1, Q v0 v1 → Q' v0 v1) : wp_X8_errs x1 h Q → wp_X8_errs x1 h Q' := by
  unfold wp_X8_errs
  repeat' (with_reducible first | exact hQ _ _ | refine And.imp ?_ ?_ | refine Exists.imp (fun _ => ?_) | exact id | refine mo_a (fun _ => ?_))
theorem mn_X8_in {x0 : Int64} {x2 : Int64} {x4 : Int64} {h : hp_T} {Q Q' : Int32 → Prop} (hQ : ∀ v0, Q v0 → Q' v0) : wp_X8_in x0 x2 x4 h Q → wp_X8_in x0 x2 x4 h Q' := by
  unfold wp_X8_in
  repeat' (with_reducible first | exact hQ _ | refine And.imp ?_ ?_ | refine Exists.imp (fun _ => ?_) | exact id | refine mo_a (fun _ => ?_))
theorem mn_X8_isBunk {x1 : Int32} {h : hp_T} {Q Q' : Int32 → Prop} (hQ : ∀ v0, Q v0 → Q' v0) : wp_X8_isBunk x1 h Q → wp_X8_isBunk x1 h Q' := by
  unfold wp_X8_isBunk
  repeat' (with_reducible first | exact hQ _ | refine And.imp ?_ ?_ | refine mn_X8_in (fun _ => ?_) | refine Exists.imp (fun _ => ?_) | exact id | refine mo_a (fun _ => ?_))
theorem mn_X8_at {x0 : Int32} {x1 : Int32} {h : hp_T} {Q Q' : Int32 → Prop} (hQ : ∀ v0, Q v0 → Q' v0) : wp_X8_at x0 x1 h Q → wp_X8_at x0 x1 h Q' := by
  unfold wp_X8_at
  repeat' (with_reducible first | exact hQ _ | refine And.imp ?_ ?_ | refine Exists.imp (fun _ => ?_) | exact id | refine mo_a (fun _ => ?_))
theorem mn_X8_its {x1 : Int32} {x2 : Int32} {h : hp_T} {Q Q' : Int32 → Prop} (hQ : ∀ v0, Q v0 → Q' v0) : wp_X8_its x1 x2 h Q → wp_X8_its x1 x2 h Q' := by
  unfold wp_X8_its
  repeat' (with_reducible first | exact hQ _ | refine And.imp ?_ ?_ | refine mn_X8_at (fun _ => ?_) | refine Exists.imp (fun _ => ?_) | exact id | refine mo_a (fun _ => ?_))
theorem mn_X8_as_b53 {x1 : Int32} {x2 : Int32} {Q Q' : Int32 → hp_T → Prop} {y3 : Int32} {h : hp_T} (hQ : ∀ v0 v1, Q v0 v1 → Q' v0 v1) : wp_X8_as_b53 x1 x2 Q y3 h → wp_X8_as_b53 x1 x2 Q' y3 h := by
  unfold wp_X8_as_b53
  repeat' (with_reducible first | exact hQ _ _ | refine And.imp ?_ ?_ | refine mn_X8_its (fun _ => ?_) | refine mn_X8_errs (fun _ _ => ?_) | refine Exists.imp (fun _ => ?_) | exact id | refine mo_a (fun _ => ?_))
theorem mn_X8_as {x1 : Int32} {x2 : Int32} {h : hp_T} {Q Q' : Int32 → hp_T → Prop} (hQ : ∀ v0 v1, Q v0 v1 → Q' v0 v1) : wp_X8_as x1 x2 h Q → wp_X8_as x1 x2 h Q' := by
  unfold wp_X8_as
  repeat' (with_reducible first | exact hQ _ _ | refine And.imp ?_ ?_ | refine mn_X8_isBunk (fun _ => ?_) | refine mn_X8_errs (fun _ _ => ?_) | refine mn_X8_in (fun _ => ?_) | refine mn_X8_its (fun _ => ?_) | refine mn_X8_as_b53 hQ | refine Exists.imp (fun _ => ?_) | exact id | refine mo_a (fun _ => ?_))
theorem mn_X8_isKnack {x0 : Int32} {h : hp_T} {Q Q' : Int32 → Prop} (hQ : ∀ v0, Q v0 → Q' v0) : wp_X8_isKnack x0 h Q → wp_X8_isKnack x0 h Q' := by
  unfold wp_X8_isKnack
  repeat' (with_reducible first | exact hQ _ | refine And.imp ?_ ?_ | refine mn_X8_in (fun _ => ?_) | refine Exists.imp (fun _ => ?_) | exact id | refine mo_a (fun _ => ?_))
theorem mn_X8_has {x0 : Int32} {x1 : Int32} {h : hp_T} {Q Q' : Int32 → Prop} (hQ : ∀ v0, Q v0 → Q' v0) : wp_X8_has x0 x1 h Q → wp_X8_has x0 x1 h Q' := by
  unfold wp_X8_has
  repeat' (with_reducible first | exact hQ _ | refine And.imp ?_ ?_ | refine Exists.imp (fun _ => ?_) | exact id | refine mo_a (fun _ => ?_))
theorem mn_X8_isKnowing {x1 : Int32} {x2 : Int32} {h : hp_T} {Q Q' : Int32 → Prop} (hQ : ∀ v0, Q v0 → Q' v0) : wp_X8_isKnowing x1 x2 h Q → wp_X8_isKnowing x1 x2 h Q' := by
  unfold wp_X8_isKnowing
  repeat' (with_reducible first | exact hQ _ | refine And.imp ?_ ?_ | refine mn_X8_its (fun _ => ?_) | refine mn_X8_has (fun _ => ?_) | refine Exists.imp (fun _ => ?_) | exact id | refine mo_a (fun _ => ?_))
theorem mn_X8_isVersion {x0 : Int32} {h : hp_T} {Q Q' : Int32 → Prop} (hQ : ∀ v0, Q v0 → Q' v0) : wp_X8_isVersion x0 h Q → wp_X8_isVersion x0 h Q' := by
  unfold wp_X8_isVersion
  repeat' (with_reducible first | exact hQ _ | refine And.imp ?_ ?_ | refine mn_X8_in (fun _ => ?_) | refine Exists.imp (fun _ => ?_) | exact id | refine mo_a (fun _ => ?_))
theorem mn_X8_began_b68 {x1 : Int32} {x2 : Int32} {Q Q' : Int32 → hp_T → Prop} {lp_29 lp_29' : Int32 → Int32 → Int32 → hp_T → Prop} {y3 : Int32} {y4 : Int32} {y5 : Int32} {z0 : Int32} {h : hp_T} (hQ : ∀ v0 v1, Q v0 v1 → Q' v0 v1) (hlp_29 : ∀ v0 v1 v2 v3, lp_29 v0 v1 v2 v3 → lp_29' v0 v1 v2 v3) : wp_X8_began_b68 x1 x2 Q lp_29 y3 y4 y5 z0 h → wp_X8_began_b68 x1 x2 Q' lp_29' y3 y4 y5 z0 h := by
  unfold wp_X8_began_b68
  repeat' (with_reducible first | exact hQ _ _ | exact hlp_29 _ _ _ _ | refine And.imp ?_ ?_ | refine mn_X8_its (fun _ => ?_) | refine Exists.imp (fun _ => ?_) | exact id | refine mo_a (fun _ => ?_))
theorem mn_X8_began_L29 {x1 : Int32} {x2 : Int32} {Q Q' : Int32 → hp_T → Prop} (hQ : ∀ v0 v1, Q v0 v1 → Q' v0 v1) : ∀ (nn : Nat) (y0 : Int32) (y1 : Int32) (y2 : Int32) (y3 : hp_T), wp_X8_began_L29 x1 x2 Q nn y0 y1 y2 y3 → wp_X8_began_L29 x1 x2 Q' nn y0 y1 y2 y3 := by
  intro nn
  induction nn with
  | zero => intro y0 y1 y2 y3; exact fun f => f
  | succ nn ih =>
    intro y0 y1 y2 y3
    unfold wp_X8_began_L29
    repeat' (with_reducible first | exact hQ _ _ | exact ih _ _ _ _ | refine And.imp ?_ ?_ | refine mn_X8_errs (fun _ _ => ?_) | refine mn_X8_isKnowing (fun _ => ?_) | refine mn_X8_began_b68 hQ ih | refine mn_X8_its (fun _ => ?_) | refine Exists.imp (fun _ => ?_) | exact id | refine mo_a (fun _ => ?_))
theorem mn_X8_began {x1 : Int32} {x2 : Int32} {h : hp_T} {Q Q' : Int32 → hp_T → Prop} (hQ : ∀ v0 v1, Q v0 v1 → Q' v0 v1) : wp_X8_began x1 x2 h Q → wp_X8_began x1 x2 h Q' := by
  unfold wp_X8_began
  repeat' (with_reducible first | exact hQ _ _ | refine And.imp ?_ ?_ | refine mn_X8_isKnack (fun _ => ?_) | refine mn_X8_errs (fun _ _ => ?_) | refine mn_X8_isVersion (fun _ => ?_) | exact mn_X8_began_L29 hQ _ _ _ _ _ | refine Exists.imp (fun _ => ?_) | exact id | refine mo_a (fun _ => ?_))
theorem mn_X8_body {x1 : Int32} {h : hp_T} {Q Q' : Int32 → hp_T → Prop} (hQ : ∀ v0 v1, Q v0 v1 → Q' v0 v1) : wp_X8_body x1 h Q → wp_X8_body x1 h Q' := by
  unfold wp_X8_body
  repeat' (with_reducible first | exact hQ _ _ | refine And.imp ?_ ?_ | refine mn_X8_in (fun _ => ?_) | refine mn_X8_errs (fun _ _ => ?_) | refine Exists.imp (fun _ => ?_) | exact id | refine mo_a (fun _ => ?_))
theorem mn_X8_isBits {x0 : Int32} {h : hp_T} {Q Q' : Int32 → Prop} (hQ : ∀ v0, Q v0 → Q' v0) : wp_X8_isBits x0 h Q → wp_X8_isBits x0 h Q' := by
  unfold wp_X8_isBits
  repeat' (with_reducible first | exact hQ _ | refine And.imp ?_ ?_ | refine mn_X8_in (fun _ => ?_) | refine Exists.imp (fun _ => ?_) | exact id | refine mo_a (fun _ => ?_))
theorem mn_X8_book {x1 : Int32} {h : hp_T} {Q Q' : Int32 → hp_T → Prop} (hQ : ∀ v0 v1, Q v0 v1 → Q' v0 v1) : wp_X8_book x1 h Q → wp_X8_book x1 h Q' := by
  unfold wp_X8_book
  repeat' (with_reducible first | exact hQ _ _ | refine And.imp ?_ ?_ | refine mn_X8_isBits (fun _ => ?_) | refine mn_X8_errs (fun _ _ => ?_) | refine Exists.imp (fun _ => ?_) | exact id | refine mo_a (fun _ => ?_))
theorem mn_X8_comes_L57 {x1 : Int32} {x2 : Int32} {x3 : Int32} {x4 : Int32} {x5 : Int32} {Q Q' : hp_T → Prop} (hQ : ∀ v0, Q v0 → Q' v0) : ∀ (nn : Nat) (y0 : Int32) (y1 : hp_T), wp_X8_comes_L57 x1 x2 x3 x4 x5 Q nn y0 y1 → wp_X8_comes_L57 x1 x2 x3 x4 x5 Q' nn y0 y1 := by
  intro nn
  induction nn with
  | zero => intro y0 y1; exact fun f => f
  | succ nn ih =>
    intro y0 y1
    unfold wp_X8_comes_L57
    repeat' (with_reducible first | exact hQ _ | exact ih _ _ | refine And.imp ?_ ?_ | refine mn_X8_at (fun _ => ?_) | refine mn_X8_has (fun _ => ?_) | refine Exists.imp (fun _ => ?_) | exact id | refine mo_a (fun _ => ?_))
theorem mn_X8_comes {x1 : Int32} {x2 : Int32} {x3 : Int32} {x4 : Int32} {x5 : Int32} {h : hp_T} {Q Q' : hp_T → Prop} (hQ : ∀ v0, Q v0 → Q' v0) : wp_X8_comes x1 x2 x3 x4 x5 h Q → wp_X8_comes x1 x2 x3 x4 x5 h Q' := by
  unfold wp_X8_comes
  repeat' (with_reducible first | exact hQ _ | refine And.imp ?_ ?_ | refine mn_X8_at (fun _ => ?_) | exact mn_X8_comes_L57 hQ _ _ _ | refine Exists.imp (fun _ => ?_) | exact id | refine mo_a (fun _ => ?_))
theorem mn_X8_isMan {x0 : Int32} {h : hp_T} {Q Q' : Int32 → Prop} (hQ : ∀ v0, Q v0 → Q' v0) : wp_X8_isMan x0 h Q → wp_X8_isMan x0 h Q' := by
  unfold wp_X8_isMan
  repeat' (with_reducible first | exact hQ _ | refine And.imp ?_ ?_ | refine mn_X8_in (fun _ => ?_) | refine Exists.imp (fun _ => ?_) | exact id | refine mo_a (fun _ => ?_))
theorem mn_X8_bunk {x1 : Int32} {h : hp_T} {Q Q' : Int32 → hp_T → Prop} (hQ : ∀ v0 v1, Q v0 v1 → Q' v0 v1) : wp_X8_bunk x1 h Q → wp_X8_bunk x1 h Q' := by
  unfold wp_X8_bunk
  repeat' (with_reducible first | exact hQ _ _ | refine And.imp ?_ ?_ | refine mn_X8_isMan (fun _ => ?_) | refine mn_X8_errs (fun _ _ => ?_) | refine mn_X8_comes (fun _ => ?_) | refine mn_X8_at (fun _ => ?_) | refine Exists.imp (fun _ => ?_) | exact id | refine mo_a (fun _ => ?_))
theorem mn_X8_held {x0 : Int32} {x1 : Int32} {x2 : Int32} {h : hp_T} {Q Q' : Int32 → Prop} (hQ : ∀ v0, Q v0 → Q' v0) : wp_X8_held x0 x1 x2 h Q → wp_X8_held x0 x1 x2 h Q' := by
  unfold wp_X8_held
  repeat' (with_reducible first | exact hQ _ | refine And.imp ?_ ?_ | refine Exists.imp (fun _ => ?_) | exact id | refine mo_a (fun _ => ?_))
theorem mn_X8_ones_L4 {x0 : Int32} {h : hp_T} {Q Q' : Int32 → Prop} (hQ : ∀ v0, Q v0 → Q' v0) : ∀ (nn : Nat) (y0 : Int32) (y1 : Int32), wp_X8_ones_L4 x0 h Q nn y0 y1 → wp_X8_ones_L4 x0 h Q' nn y0 y1 := by
  intro nn
  induction nn with
  | zero => intro y0 y1; exact fun f => f
  | succ nn ih =>
    intro y0 y1
    unfold wp_X8_ones_L4
    repeat' (with_reducible first | exact hQ _ | exact ih _ _ | refine And.imp ?_ ?_ | refine Exists.imp (fun _ => ?_) | exact id | refine mo_a (fun _ => ?_))
theorem mn_X8_ones {x0 : Int32} {h : hp_T} {Q Q' : Int32 → Prop} (hQ : ∀ v0, Q v0 → Q' v0) : wp_X8_ones x0 h Q → wp_X8_ones x0 h Q' := by
  unfold wp_X8_ones
  repeat' (with_reducible first | exact hQ _ | refine And.imp ?_ ?_ | exact mn_X8_ones_L4 hQ _ _ _ | refine Exists.imp (fun _ => ?_) | exact id | refine mo_a (fun _ => ?_))
theorem mn_X8_by {x0 : Int32} {x1 : Int32} {x2 : Int32} {h : hp_T} {Q Q' : Int32 → Prop} (hQ : ∀ v0, Q v0 → Q' v0) : wp_X8_by x0 x1 x2 h Q → wp_X8_by x0 x1 x2 h Q' := by
  unfold wp_X8_by
  repeat' (with_reducible first | exact hQ _ | refine And.imp ?_ ?_ | refine Exists.imp (fun _ => ?_) | exact id | refine mo_a (fun _ => ?_))
theorem mn_X8_worked_L6 {x1 : Int32} {x2 : Int32} {x3 : Int32} {x4 : Int32} {x5 : Int32} {Q Q' : Int32 → hp_T → Prop} (hQ : ∀ v0 v1, Q v0 v1 → Q' v0 v1) : ∀ (nn : Nat) (y0 : Int32) (y1 : Int32) (y2 : hp_T), wp_X8_worked_L6 x1 x2 x3 x4 x5 Q nn y0 y1 y2 → wp_X8_worked_L6 x1 x2 x3 x4 x5 Q' nn y0 y1 y2 := by
  intro nn
  induction nn with
  | zero => intro y0 y1 y2; exact fun f => f
  | succ nn ih =>
    intro y0 y1 y2
    unfold wp_X8_worked_L6
    repeat' (with_reducible first | exact hQ _ _ | exact ih _ _ _ | refine And.imp ?_ ?_ | refine mn_X8_by (fun _ => ?_) | refine Exists.imp (fun _ => ?_) | exact id | refine mo_a (fun _ => ?_))
theorem mn_X8_worked {x1 : Int32} {x2 : Int32} {x3 : Int32} {x4 : Int32} {x5 : Int32} {h : hp_T} {Q Q' : Int32 → hp_T → Prop} (hQ : ∀ v0 v1, Q v0 v1 → Q' v0 v1) : wp_X8_worked x1 x2 x3 x4 x5 h Q → wp_X8_worked x1 x2 x3 x4 x5 h Q' := by
  unfold wp_X8_worked
  repeat' (with_reducible first | exact hQ _ _ | refine And.imp ?_ ?_ | exact mn_X8_worked_L6 hQ _ _ _ _ | refine Exists.imp (fun _ => ?_) | exact id | refine mo_a (fun _ => ?_))
theorem mn_X8_needs {x1 : Int32} {x2 : Int32} {h : hp_T} {Q Q' : Int32 → hp_T → Prop} (hQ : ∀ v0 v1, Q v0 v1 → Q' v0 v1) : wp_X8_needs x1 x2 h Q → wp_X8_needs x1 x2 h Q' := by
  unfold wp_X8_needs
  repeat' (with_reducible first | exact hQ _ _ | refine And.imp ?_ ?_ | refine mn_X8_its (fun _ => ?_) | refine mn_X8_held (fun _ => ?_) | refine mn_X8_ones (fun _ => ?_) | refine mn_X8_worked (fun _ _ => ?_) | refine Exists.imp (fun _ => ?_) | exact id | refine mo_a (fun _ => ?_))
theorem mn_X8_wagesOf {x1 : Int32} {h : hp_T} {Q Q' : Int32 → hp_T → Prop} (hQ : ∀ v0 v1, Q v0 v1 → Q' v0 v1) : wp_X8_wagesOf x1 h Q → wp_X8_wagesOf x1 h Q' := by
  unfold wp_X8_wagesOf
  repeat' (with_reducible first | exact hQ _ _ | refine And.imp ?_ ?_ | refine mn_X8_its (fun _ => ?_) | refine mn_X8_ones (fun _ => ?_) | refine mn_X8_worked (fun _ _ => ?_) | refine mn_X8_held (fun _ => ?_) | refine Exists.imp (fun _ => ?_) | exact id | refine mo_a (fun _ => ?_))
theorem mn_X8_ofMan {x1 : Int32} {x2 : Int32} {h : hp_T} {Q Q' : Int32 → hp_T → Prop} (hQ : ∀ v0 v1, Q v0 v1 → Q' v0 v1) : wp_X8_ofMan x1 x2 h Q → wp_X8_ofMan x1 x2 h Q' := by
  unfold wp_X8_ofMan
  repeat' (with_reducible first | exact hQ _ _ | refine And.imp ?_ ?_ | refine mn_X8_wagesOf (fun _ _ => ?_) | refine mn_X8_needs (fun _ _ => ?_) | refine mn_X8_its (fun _ => ?_) | refine Exists.imp (fun _ => ?_) | exact id | refine mo_a (fun _ => ?_))
theorem mn_X8_bunkIs {x1 : Int32} {x2 : Int32} {h : hp_T} {Q Q' : Int32 → hp_T → Prop} (hQ : ∀ v0 v1, Q v0 v1 → Q' v0 v1) : wp_X8_bunkIs x1 x2 h Q → wp_X8_bunkIs x1 x2 h Q' := by
  unfold wp_X8_bunkIs
  repeat' (with_reducible first | exact hQ _ _ | refine And.imp ?_ ?_ | refine mn_X8_isBunk (fun _ => ?_) | refine mn_X8_errs (fun _ _ => ?_) | refine mn_X8_in (fun _ => ?_) | refine mn_X8_ofMan (fun _ _ => ?_) | refine Exists.imp (fun _ => ?_) | exact id | refine mo_a (fun _ => ?_))
theorem mn_X8_runs {x1 : Int32} {h : hp_T} {Q Q' : hp_T → Prop} (hQ : ∀ v0, Q v0 → Q' v0) : wp_X8_runs x1 h Q → wp_X8_runs x1 h Q' := by
  unfold wp_X8_runs
  repeat' (with_reducible first | exact hQ _ | refine And.imp ?_ ?_ | refine Exists.imp (fun _ => ?_) | exact id | refine mo_a (fun _ => ?_))
theorem mn_X8_hearing_b35 {x1 : Int32} {Q Q' : Int32 → hp_T → Prop} {y2 : Int32} {h : hp_T} (hQ : ∀ v0 v1, Q v0 v1 → Q' v0 v1) : wp_X8_hearing_b35 x1 Q y2 h → wp_X8_hearing_b35 x1 Q' y2 h := by
  unfold wp_X8_hearing_b35
  repeat' (with_reducible first | exact hQ _ _ | refine And.imp ?_ ?_ | refine mn_X8_runs (fun _ => ?_) | refine Exists.imp (fun _ => ?_) | exact id | refine mo_a (fun _ => ?_))
theorem mn_X8_hearing {x1 : Int32} {h : hp_T} {Q Q' : Int32 → hp_T → Prop} (hQ : ∀ v0 v1, Q v0 v1 → Q' v0 v1) : wp_X8_hearing x1 h Q → wp_X8_hearing x1 h Q' := by
  unfold wp_X8_hearing
  repeat' (with_reducible first | exact hQ _ _ | refine And.imp ?_ ?_ | refine mn_X8_its (fun _ => ?_) | refine mn_X8_runs (fun _ => ?_) | refine mn_X8_hearing_b35 hQ | refine Exists.imp (fun _ => ?_) | exact id | refine mo_a (fun _ => ?_))
theorem mn_X8_telling_b49 {x1 : Int32} {Q Q' : Int32 → hp_T → Prop} {y2 : Int32} {h : hp_T} (hQ : ∀ v0 v1, Q v0 v1 → Q' v0 v1) : wp_X8_telling_b49 x1 Q y2 h → wp_X8_telling_b49 x1 Q' y2 h := by
  unfold wp_X8_telling_b49
  repeat' (with_reducible first | exact hQ _ _ | refine And.imp ?_ ?_ | refine mn_X8_runs (fun _ => ?_) | refine mn_X8_hearing (fun _ _ => ?_) | refine mn_X8_its (fun _ => ?_) | refine Exists.imp (fun _ => ?_) | exact id | refine mo_a (fun _ => ?_))
theorem mn_X8_telling {x1 : Int32} {h : hp_T} {Q Q' : Int32 → hp_T → Prop} (hQ : ∀ v0 v1, Q v0 v1 → Q' v0 v1) : wp_X8_telling x1 h Q → wp_X8_telling x1 h Q' := by
  unfold wp_X8_telling
  repeat' (with_reducible first | exact hQ _ _ | refine And.imp ?_ ?_ | refine mn_X8_its (fun _ => ?_) | refine mn_X8_runs (fun _ => ?_) | refine mn_X8_telling_b49 hQ | refine Exists.imp (fun _ => ?_) | exact id | refine mo_a (fun _ => ?_))
theorem mn_X8_bunking_b32 {x1 : Int32} {Q Q' : Int32 → hp_T → Prop} {y2 : Int32} {h : hp_T} (hQ : ∀ v0 v1, Q v0 v1 → Q' v0 v1) : wp_X8_bunking_b32 x1 Q y2 h → wp_X8_bunking_b32 x1 Q' y2 h := by
  unfold wp_X8_bunking_b32
  repeat' (with_reducible first | exact hQ _ _ | refine And.imp ?_ ?_ | refine mn_X8_runs (fun _ => ?_) | refine mn_X8_telling (fun _ _ => ?_) | refine mn_X8_its (fun _ => ?_) | refine Exists.imp (fun _ => ?_) | exact id | refine mo_a (fun _ => ?_))
theorem mn_X8_bunking {x1 : Int32} {h : hp_T} {Q Q' : Int32 → hp_T → Prop} (hQ : ∀ v0 v1, Q v0 v1 → Q' v0 v1) : wp_X8_bunking x1 h Q → wp_X8_bunking x1 h Q' := by
  unfold wp_X8_bunking
  repeat' (with_reducible first | exact hQ _ _ | refine And.imp ?_ ?_ | refine mn_X8_its (fun _ => ?_) | refine mn_X8_runs (fun _ => ?_) | refine mn_X8_bunking_b32 hQ | refine Exists.imp (fun _ => ?_) | exact id | refine mo_a (fun _ => ?_))
theorem mn_X8_byteHere {h : hp_T} {Q Q' : Int32 → Prop} (hQ : ∀ v0, Q v0 → Q' v0) : wp_X8_byteHere h Q → wp_X8_byteHere h Q' := by
  unfold wp_X8_byteHere
  repeat' (with_reducible first | exact hQ _ | refine And.imp ?_ ?_ | refine Exists.imp (fun _ => ?_) | exact id | refine mo_a (fun _ => ?_))
theorem mn_X8_changes_L29 {x1 : Int32} {x2 : Int32} {Q Q' : Int32 → hp_T → Prop} (hQ : ∀ v0 v1, Q v0 v1 → Q' v0 v1) : ∀ (nn : Nat) (y0 : Int32) (y1 : Int32) (y2 : Int32) (y3 : hp_T), wp_X8_changes_L29 x1 x2 Q nn y0 y1 y2 y3 → wp_X8_changes_L29 x1 x2 Q' nn y0 y1 y2 y3 := by
  intro nn
  induction nn with
  | zero => intro y0 y1 y2 y3; exact fun f => f
  | succ nn ih =>
    intro y0 y1 y2 y3
    unfold wp_X8_changes_L29
    repeat' (with_reducible first | exact hQ _ _ | exact ih _ _ _ _ | refine And.imp ?_ ?_ | refine mn_X8_isKnowing (fun _ => ?_) | refine mn_X8_its (fun _ => ?_) | refine Exists.imp (fun _ => ?_) | exact id | refine mo_a (fun _ => ?_))
theorem mn_X8_changes {x1 : Int32} {x2 : Int32} {h : hp_T} {Q Q' : Int32 → hp_T → Prop} (hQ : ∀ v0 v1, Q v0 v1 → Q' v0 v1) : wp_X8_changes x1 x2 h Q → wp_X8_changes x1 x2 h Q' := by
  unfold wp_X8_changes
  repeat' (with_reducible first | exact hQ _ _ | refine And.imp ?_ ?_ | refine mn_X8_isKnack (fun _ => ?_) | refine mn_X8_errs (fun _ _ => ?_) | refine mn_X8_isVersion (fun _ => ?_) | exact mn_X8_changes_L29 hQ _ _ _ _ _ | refine Exists.imp (fun _ => ?_) | exact id | refine mo_a (fun _ => ?_))
theorem mn_X8_knowers_L4 {x1 : Int32} {h : hp_T} {Q Q' : Int32 → Prop} (hQ : ∀ v0, Q v0 → Q' v0) : ∀ (nn : Nat) (y0 : Int32) (y1 : Int32), wp_X8_knowers_L4 x1 h Q nn y0 y1 → wp_X8_knowers_L4 x1 h Q' nn y0 y1 := by
  intro nn
  induction nn with
  | zero => intro y0 y1; exact fun f => f
  | succ nn ih =>
    intro y0 y1
    unfold wp_X8_knowers_L4
    repeat' (with_reducible first | exact hQ _ | exact ih _ _ | refine And.imp ?_ ?_ | refine mn_X8_isKnowing (fun _ => ?_) | refine Exists.imp (fun _ => ?_) | exact id | refine mo_a (fun _ => ?_))
theorem mn_X8_knowers {x1 : Int32} {h : hp_T} {Q Q' : Int32 → Prop} (hQ : ∀ v0, Q v0 → Q' v0) : wp_X8_knowers x1 h Q → wp_X8_knowers x1 h Q' := by
  unfold wp_X8_knowers
  repeat' (with_reducible first | exact hQ _ | refine And.imp ?_ ?_ | exact mn_X8_knowers_L4 hQ _ _ _ | refine Exists.imp (fun _ => ?_) | exact id | refine mo_a (fun _ => ?_))
theorem mn_X8_draw {h : hp_T} {Q Q' : Int32 → hp_T → Prop} (hQ : ∀ v0 v1, Q v0 v1 → Q' v0 v1) : wp_X8_draw h Q → wp_X8_draw h Q' := by
  unfold wp_X8_draw
  repeat' (with_reducible first | exact hQ _ _ | refine And.imp ?_ ?_ | refine Exists.imp (fun _ => ?_) | exact id | refine mo_a (fun _ => ?_))
theorem mn_X8_isMute {x1 : Int32} {h : hp_T} {Q Q' : Int32 → Prop} (hQ : ∀ v0, Q v0 → Q' v0) : wp_X8_isMute x1 h Q → wp_X8_isMute x1 h Q' := by
  unfold wp_X8_isMute
  repeat' (with_reducible first | exact hQ _ | refine And.imp ?_ ?_ | refine mn_X8_its (fun _ => ?_) | refine Exists.imp (fun _ => ?_) | exact id | refine mo_a (fun _ => ?_))
theorem mn_X8_tells {x1 : Int32} {x2 : Int32} {h : hp_T} {Q Q' : Int32 → Prop} (hQ : ∀ v0, Q v0 → Q' v0) : wp_X8_tells x1 x2 h Q → wp_X8_tells x1 x2 h Q' := by
  unfold wp_X8_tells
  repeat' (with_reducible first | exact hQ _ | refine And.imp ?_ ?_ | refine mn_X8_its (fun _ => ?_) | refine mn_X8_held (fun _ => ?_) | refine Exists.imp (fun _ => ?_) | exact id | refine mo_a (fun _ => ?_))
theorem mn_X8_lesson {x1 : Int32} {x2 : Int32} {h : hp_T} {Q Q' : hp_T → Prop} (hQ : ∀ v0, Q v0 → Q' v0) : wp_X8_lesson x1 x2 h Q → wp_X8_lesson x1 x2 h Q' := by
  unfold wp_X8_lesson
  repeat' (with_reducible first | exact hQ _ | refine And.imp ?_ ?_ | refine mn_X8_its (fun _ => ?_) | refine mn_X8_isKnowing (fun _ => ?_) | refine mn_X8_isMute (fun _ => ?_) | refine mn_X8_at (fun _ => ?_) | refine mn_X8_held (fun _ => ?_) | refine mn_X8_needs (fun _ _ => ?_) | refine mn_X8_tells (fun _ => ?_) | refine mn_X8_draw (fun _ _ => ?_) | refine Exists.imp (fun _ => ?_) | exact id | refine mo_a (fun _ => ?_))
theorem mn_X8_where {x0 : Int32} {x1 : Int32} {h : hp_T} {Q Q' : Int32 → Prop} (hQ : ∀ v0, Q v0 → Q' v0) : wp_X8_where x0 x1 h Q → wp_X8_where x0 x1 h Q' := by
  unfold wp_X8_where
  repeat' (with_reducible first | exact hQ _ | refine And.imp ?_ ?_ | refine Exists.imp (fun _ => ?_) | exact id | refine mo_a (fun _ => ?_))
theorem mn_X8_ofTask {x1 : Int32} {x2 : Int32} {h : hp_T} {Q Q' : Int32 → Prop} (hQ : ∀ v0, Q v0 → Q' v0) : wp_X8_ofTask x1 x2 h Q → wp_X8_ofTask x1 x2 h Q' := by
  unfold wp_X8_ofTask
  repeat' (with_reducible first | exact hQ _ | refine And.imp ?_ ?_ | refine mn_X8_where (fun _ => ?_) | refine Exists.imp (fun _ => ?_) | exact id | refine mo_a (fun _ => ?_))
theorem mn_X8_isStaying {x1 : Int32} {h : hp_T} {Q Q' : Int32 → Prop} (hQ : ∀ v0, Q v0 → Q' v0) : wp_X8_isStaying x1 h Q → wp_X8_isStaying x1 h Q' := by
  unfold wp_X8_isStaying
  repeat' (with_reducible first | exact hQ _ | refine And.imp ?_ ?_ | refine mn_X8_its (fun _ => ?_) | refine Exists.imp (fun _ => ?_) | exact id | refine mo_a (fun _ => ?_))
theorem mn_X8_relieves {h : hp_T} {Q Q' : hp_T → Prop} (hQ : ∀ v0, Q v0 → Q' v0) : wp_X8_relieves h Q → wp_X8_relieves h Q' := by
  unfold wp_X8_relieves
  repeat' (with_reducible first | exact hQ _ | refine And.imp ?_ ?_ | refine mn_X8_isStaying (fun _ => ?_) | refine mn_X8_comes (fun _ => ?_) | refine Exists.imp (fun _ => ?_) | exact id | refine mo_a (fun _ => ?_))
theorem mn_X8_day_L40 {x1 : Int32} {Q Q' : hp_T → Prop} (hQ : ∀ v0, Q v0 → Q' v0) : ∀ (nn : Nat) (y0 : Int32) (y1 : hp_T), wp_X8_day_L40 x1 Q nn y0 y1 → wp_X8_day_L40 x1 Q' nn y0 y1 := by
  intro nn
  induction nn with
  | zero => intro y0 y1; exact fun f => f
  | succ nn ih =>
    intro y0 y1
    unfold wp_X8_day_L40
    repeat' (with_reducible first | exact hQ _ | exact ih _ _ | refine And.imp ?_ ?_ | refine mn_X8_ofTask (fun _ => ?_) | refine mn_X8_knowers (fun _ => ?_) | refine mn_X8_where (fun _ => ?_) | refine mn_X8_held (fun _ => ?_) | refine Exists.imp (fun _ => ?_) | exact id | refine mo_a (fun _ => ?_))
theorem mn_X8_day_L6 {x1 : Int32} {Q Q' : hp_T → Prop} (hQ : ∀ v0, Q v0 → Q' v0) : ∀ (nn : Nat) (y0 : Int32) (y1 : hp_T), wp_X8_day_L6 x1 Q nn y0 y1 → wp_X8_day_L6 x1 Q' nn y0 y1 := by
  intro nn
  induction nn with
  | zero => intro y0 y1; exact fun f => f
  | succ nn ih =>
    intro y0 y1
    unfold wp_X8_day_L6
    repeat' (with_reducible first | exact hQ _ | exact ih _ _ | refine And.imp ?_ ?_ | exact mn_X8_day_L40 hQ _ _ _ | refine mn_X8_lesson (fun _ => ?_) | refine Exists.imp (fun _ => ?_) | exact id | refine mo_a (fun _ => ?_))
theorem mn_X8_day {x1 : Int32} {h : hp_T} {Q Q' : hp_T → Prop} (hQ : ∀ v0, Q v0 → Q' v0) : wp_X8_day x1 h Q → wp_X8_day x1 h Q' := by
  unfold wp_X8_day
  repeat' (with_reducible first | exact hQ _ | refine And.imp ?_ ?_ | refine mn_X8_relieves (fun _ => ?_) | exact mn_X8_day_L6 hQ _ _ _ | refine Exists.imp (fun _ => ?_) | exact id | refine mo_a (fun _ => ?_))
theorem mn_X8_keepsAside_L2 {Q Q' : hp_T → Prop} (hQ : ∀ v0, Q v0 → Q' v0) : ∀ (nn : Nat) (y0 : Int32) (y1 : hp_T), wp_X8_keepsAside_L2 Q nn y0 y1 → wp_X8_keepsAside_L2 Q' nn y0 y1 := by
  intro nn
  induction nn with
  | zero => intro y0 y1; exact fun f => f
  | succ nn ih =>
    intro y0 y1
    unfold wp_X8_keepsAside_L2
    repeat' (with_reducible first | exact hQ _ | exact ih _ _ | refine And.imp ?_ ?_ | refine Exists.imp (fun _ => ?_) | exact id | refine mo_a (fun _ => ?_))
theorem mn_X8_keepsAside {h : hp_T} {Q Q' : hp_T → Prop} (hQ : ∀ v0, Q v0 → Q' v0) : wp_X8_keepsAside h Q → wp_X8_keepsAside h Q' := by
  unfold wp_X8_keepsAside
  repeat' (with_reducible first | exact hQ _ | refine And.imp ?_ ?_ | exact mn_X8_keepsAside_L2 hQ _ _ _ | refine Exists.imp (fun _ => ?_) | exact id | refine mo_a (fun _ => ?_))
theorem mn_X8_putsBack_L2 {Q Q' : hp_T → Prop} (hQ : ∀ v0, Q v0 → Q' v0) : ∀ (nn : Nat) (y0 : Int32) (y1 : hp_T), wp_X8_putsBack_L2 Q nn y0 y1 → wp_X8_putsBack_L2 Q' nn y0 y1 := by
  intro nn
  induction nn with
  | zero => intro y0 y1; exact fun f => f
  | succ nn ih =>
    intro y0 y1
    unfold wp_X8_putsBack_L2
    repeat' (with_reducible first | exact hQ _ | exact ih _ _ | refine And.imp ?_ ?_ | refine Exists.imp (fun _ => ?_) | exact id | refine mo_a (fun _ => ?_))
theorem mn_X8_putsBack {h : hp_T} {Q Q' : hp_T → Prop} (hQ : ∀ v0, Q v0 → Q' v0) : wp_X8_putsBack h Q → wp_X8_putsBack h Q' := by
  unfold wp_X8_putsBack
  repeat' (with_reducible first | exact hQ _ | refine And.imp ?_ ?_ | exact mn_X8_putsBack_L2 hQ _ _ _ | refine Exists.imp (fun _ => ?_) | exact id | refine mo_a (fun _ => ?_))
theorem mn_X8_check_L39 {x1 : Int32} {Q Q' : Int32 → hp_T → Prop} (hQ : ∀ v0 v1, Q v0 v1 → Q' v0 v1) : ∀ (nn : Nat) (y0 : Int32) (y1 : Int32) (y2 : Int32) (y3 : hp_T), wp_X8_check_L39 x1 Q nn y0 y1 y2 y3 → wp_X8_check_L39 x1 Q' nn y0 y1 y2 y3 := by
  intro nn
  induction nn with
  | zero => intro y0 y1 y2 y3; exact fun f => f
  | succ nn ih =>
    intro y0 y1 y2 y3
    unfold wp_X8_check_L39
    repeat' (with_reducible first | exact hQ _ _ | exact ih _ _ _ _ | refine And.imp ?_ ?_ | refine mn_X8_putsBack (fun _ => ?_) | refine mn_X8_day (fun _ => ?_) | refine mn_X8_knowers (fun _ => ?_) | refine Exists.imp (fun _ => ?_) | exact id | refine mo_a (fun _ => ?_))
theorem mn_X8_check {x1 : Int32} {h : hp_T} {Q Q' : Int32 → hp_T → Prop} (hQ : ∀ v0 v1, Q v0 v1 → Q' v0 v1) : wp_X8_check x1 h Q → wp_X8_check x1 h Q' := by
  unfold wp_X8_check
  repeat' (with_reducible first | exact hQ _ _ | refine And.imp ?_ ?_ | refine mn_X8_isKnack (fun _ => ?_) | refine mn_X8_errs (fun _ _ => ?_) | refine mn_X8_keepsAside (fun _ => ?_) | exact mn_X8_check_L39 hQ _ _ _ _ _ | refine Exists.imp (fun _ => ?_) | exact id | refine mo_a (fun _ => ?_))
theorem mn_X8_knownByAny_L4 {h : hp_T} {Q Q' : Int32 → Prop} (hQ : ∀ v0, Q v0 → Q' v0) : ∀ (nn : Nat) (y0 : Int32) (y1 : Int32), wp_X8_knownByAny_L4 h Q nn y0 y1 → wp_X8_knownByAny_L4 h Q' nn y0 y1 := by
  intro nn
  induction nn with
  | zero => intro y0 y1; exact fun f => f
  | succ nn ih =>
    intro y0 y1
    unfold wp_X8_knownByAny_L4
    repeat' (with_reducible first | exact hQ _ | exact ih _ _ | refine And.imp ?_ ?_ | refine mn_X8_its (fun _ => ?_) | refine Exists.imp (fun _ => ?_) | exact id | refine mo_a (fun _ => ?_))
theorem mn_X8_knownByAny {h : hp_T} {Q Q' : Int32 → Prop} (hQ : ∀ v0, Q v0 → Q' v0) : wp_X8_knownByAny h Q → wp_X8_knownByAny h Q' := by
  unfold wp_X8_knownByAny
  repeat' (with_reducible first | exact hQ _ | refine And.imp ?_ ?_ | exact mn_X8_knownByAny_L4 hQ _ _ _ | refine Exists.imp (fun _ => ?_) | exact id | refine mo_a (fun _ => ?_))
theorem mn_X8_count {x1 : Int32} {h : hp_T} {Q Q' : Int32 → hp_T → Prop} (hQ : ∀ v0 v1, Q v0 v1 → Q' v0 v1) : wp_X8_count x1 h Q → wp_X8_count x1 h Q' := by
  unfold wp_X8_count
  repeat' (with_reducible first | exact hQ _ _ | refine And.imp ?_ ?_ | refine mn_X8_knownByAny (fun _ => ?_) | refine mn_X8_errs (fun _ _ => ?_) | refine Exists.imp (fun _ => ?_) | exact id | refine mo_a (fun _ => ?_))
theorem mn_X8_daysGo_L12 {x1 : Int32} {x2 : Int32} {Q Q' : hp_T → Prop} (hQ : ∀ v0, Q v0 → Q' v0) : ∀ (nn : Nat) (y0 : Int32) (y1 : hp_T), wp_X8_daysGo_L12 x1 x2 Q nn y0 y1 → wp_X8_daysGo_L12 x1 x2 Q' nn y0 y1 := by
  intro nn
  induction nn with
  | zero => intro y0 y1; exact fun f => f
  | succ nn ih =>
    intro y0 y1
    unfold wp_X8_daysGo_L12
    repeat' (with_reducible first | exact hQ _ | exact ih _ _ | refine And.imp ?_ ?_ | refine mn_X8_day (fun _ => ?_) | refine Exists.imp (fun _ => ?_) | exact id | refine mo_a (fun _ => ?_))
theorem mn_X8_daysGo {x1 : Int32} {x2 : Int32} {h : hp_T} {Q Q' : hp_T → Prop} (hQ : ∀ v0, Q v0 → Q' v0) : wp_X8_daysGo x1 x2 h Q → wp_X8_daysGo x1 x2 h Q' := by
  unfold wp_X8_daysGo
  repeat' (with_reducible first | exact hQ _ | refine And.imp ?_ ?_ | exact mn_X8_daysGo_L12 hQ _ _ _ | refine Exists.imp (fun _ => ?_) | exact id | refine mo_a (fun _ => ?_))
theorem mn_X8_isSpan {x0 : Int32} {h : hp_T} {Q Q' : Int32 → Prop} (hQ : ∀ v0, Q v0 → Q' v0) : wp_X8_isSpan x0 h Q → wp_X8_isSpan x0 h Q' := by
  unfold wp_X8_isSpan
  repeat' (with_reducible first | exact hQ _ | refine And.imp ?_ ?_ | refine mn_X8_in (fun _ => ?_) | refine Exists.imp (fun _ => ?_) | exact id | refine mo_a (fun _ => ?_))
theorem mn_X8_daysWrong {x1 : Int32} {h : hp_T} {Q Q' : Int32 → Prop} (hQ : ∀ v0, Q v0 → Q' v0) : wp_X8_daysWrong x1 h Q → wp_X8_daysWrong x1 h Q' := by
  unfold wp_X8_daysWrong
  repeat' (with_reducible first | exact hQ _ | refine And.imp ?_ ?_ | refine mn_X8_isSpan (fun _ => ?_) | refine Exists.imp (fun _ => ?_) | exact id | refine mo_a (fun _ => ?_))
theorem mn_X8_days {x1 : Int32} {h : hp_T} {Q Q' : Int32 → hp_T → Prop} (hQ : ∀ v0 v1, Q v0 v1 → Q' v0 v1) : wp_X8_days x1 h Q → wp_X8_days x1 h Q' := by
  unfold wp_X8_days
  repeat' (with_reducible first | exact hQ _ _ | refine And.imp ?_ ?_ | refine mn_X8_daysWrong (fun _ => ?_) | refine mn_X8_daysGo (fun _ => ?_) | refine mn_X8_errs (fun _ _ => ?_) | refine Exists.imp (fun _ => ?_) | exact id | refine mo_a (fun _ => ?_))
theorem mn_X8_doneIn_L18 {x1 : Int32} {x2 : Int32} {Q Q' : Int32 → hp_T → Prop} (hQ : ∀ v0 v1, Q v0 v1 → Q' v0 v1) : ∀ (nn : Nat) (y0 : Int32) (y1 : Int32) (y2 : hp_T), wp_X8_doneIn_L18 x1 x2 Q nn y0 y1 y2 → wp_X8_doneIn_L18 x1 x2 Q' nn y0 y1 y2 := by
  intro nn
  induction nn with
  | zero => intro y0 y1 y2; exact fun f => f
  | succ nn ih =>
    intro y0 y1 y2
    unfold wp_X8_doneIn_L18
    repeat' (with_reducible first | exact hQ _ _ | exact ih _ _ _ | refine And.imp ?_ ?_ | refine mn_X8_putsBack (fun _ => ?_) | refine mn_X8_ofTask (fun _ => ?_) | refine Exists.imp (fun _ => ?_) | exact id | refine mo_a (fun _ => ?_))
theorem mn_X8_doneIn {x1 : Int32} {x2 : Int32} {h : hp_T} {Q Q' : Int32 → hp_T → Prop} (hQ : ∀ v0 v1, Q v0 v1 → Q' v0 v1) : wp_X8_doneIn x1 x2 h Q → wp_X8_doneIn x1 x2 h Q' := by
  unfold wp_X8_doneIn
  repeat' (with_reducible first | exact hQ _ _ | refine And.imp ?_ ?_ | refine mn_X8_daysGo (fun _ => ?_) | exact mn_X8_doneIn_L18 hQ _ _ _ _ | refine Exists.imp (fun _ => ?_) | exact id | refine mo_a (fun _ => ?_))
theorem mn_X8_draws {x1 : Int32} {h : hp_T} {Q Q' : Int32 → hp_T → Prop} (hQ : ∀ v0 v1, Q v0 v1 → Q' v0 v1) : wp_X8_draws x1 h Q → wp_X8_draws x1 h Q' := by
  unfold wp_X8_draws
  repeat' (with_reducible first | exact hQ _ _ | refine And.imp ?_ ?_ | refine mn_X8_daysWrong (fun _ => ?_) | refine mn_X8_daysGo (fun _ => ?_) | refine mn_X8_errs (fun _ _ => ?_) | refine Exists.imp (fun _ => ?_) | exact id | refine mo_a (fun _ => ?_))
theorem mn_X8_feed_L43 {x1 : Int64} {x3 : Int32} {Q Q' : Int32 → hp_T → Prop} (hQ : ∀ v0 v1, Q v0 v1 → Q' v0 v1) : ∀ (nn : Nat) (y0 : Int32) (y1 : hp_T), wp_X8_feed_L43 x1 x3 Q nn y0 y1 → wp_X8_feed_L43 x1 x3 Q' nn y0 y1 := by
  intro nn
  induction nn with
  | zero => intro y0 y1; exact fun f => f
  | succ nn ih =>
    intro y0 y1
    unfold wp_X8_feed_L43
    repeat' (with_reducible first | exact hQ _ _ | exact ih _ _ | refine And.imp ?_ ?_ | refine Exists.imp (fun _ => ?_) | exact id | refine mo_a (fun _ => ?_))
theorem mn_X8_feed {x1 : Int64} {x3 : Int32} {h : hp_T} {Q Q' : Int32 → hp_T → Prop} (hQ : ∀ v0 v1, Q v0 v1 → Q' v0 v1) : wp_X8_feed x1 x3 h Q → wp_X8_feed x1 x3 h Q' := by
  unfold wp_X8_feed
  repeat' (with_reducible first | exact hQ _ _ | refine And.imp ?_ ?_ | refine mn_X8_in (fun _ => ?_) | refine mn_X8_errs (fun _ _ => ?_) | exact mn_X8_feed_L43 hQ _ _ _ | refine Exists.imp (fun _ => ?_) | exact id | refine mo_a (fun _ => ?_))
theorem mn_X8_handed_L40 {x1 : Int32} {x2 : Int32} {Q Q' : Int32 → hp_T → Prop} (hQ : ∀ v0 v1, Q v0 v1 → Q' v0 v1) : ∀ (nn : Nat) (y0 : Int32) (y1 : hp_T), wp_X8_handed_L40 x1 x2 Q nn y0 y1 → wp_X8_handed_L40 x1 x2 Q' nn y0 y1 := by
  intro nn
  induction nn with
  | zero => intro y0 y1; exact fun f => f
  | succ nn ih =>
    intro y0 y1
    unfold wp_X8_handed_L40
    repeat' (with_reducible first | exact hQ _ _ | exact ih _ _ | refine And.imp ?_ ?_ | refine mn_X8_isMute (fun _ => ?_) | refine Exists.imp (fun _ => ?_) | exact id | refine mo_a (fun _ => ?_))
theorem mn_X8_handed {x1 : Int32} {x2 : Int32} {h : hp_T} {Q Q' : Int32 → hp_T → Prop} (hQ : ∀ v0 v1, Q v0 v1 → Q' v0 v1) : wp_X8_handed x1 x2 h Q → wp_X8_handed x1 x2 h Q' := by
  unfold wp_X8_handed
  repeat' (with_reducible first | exact hQ _ _ | refine And.imp ?_ ?_ | refine mn_X8_isBunk (fun _ => ?_) | refine mn_X8_errs (fun _ _ => ?_) | refine mn_X8_isKnack (fun _ => ?_) | refine mn_X8_isKnowing (fun _ => ?_) | exact mn_X8_handed_L40 hQ _ _ _ | refine Exists.imp (fun _ => ?_) | exact id | refine mo_a (fun _ => ?_))
theorem mn_X8_image_L2 {Q Q' : Int32 → hp_T → Prop} (hQ : ∀ v0 v1, Q v0 v1 → Q' v0 v1) : ∀ (nn : Nat) (y0 : Int32) (y1 : hp_T), wp_X8_image_L2 Q nn y0 y1 → wp_X8_image_L2 Q' nn y0 y1 := by
  intro nn
  induction nn with
  | zero => intro y0 y1; exact fun f => f
  | succ nn ih =>
    intro y0 y1
    unfold wp_X8_image_L2
    repeat' (with_reducible first | exact hQ _ _ | exact ih _ _ | refine And.imp ?_ ?_ | refine Exists.imp (fun _ => ?_) | exact id | refine mo_a (fun _ => ?_))
theorem mn_X8_image {h : hp_T} {Q Q' : Int32 → hp_T → Prop} (hQ : ∀ v0 v1, Q v0 v1 → Q' v0 v1) : wp_X8_image h Q → wp_X8_image h Q' := by
  unfold wp_X8_image
  repeat' (with_reducible first | exact hQ _ _ | refine And.imp ?_ ?_ | exact mn_X8_image_L2 hQ _ _ _ | refine Exists.imp (fun _ => ?_) | exact id | refine mo_a (fun _ => ?_))
theorem mn_X8_isDigitHere {h : hp_T} {Q Q' : Int32 → Prop} (hQ : ∀ v0, Q v0 → Q' v0) : wp_X8_isDigitHere h Q → wp_X8_isDigitHere h Q' := by
  unfold wp_X8_isDigitHere
  repeat' (with_reducible first | exact hQ _ | refine And.imp ?_ ?_ | refine mn_X8_byteHere (fun _ => ?_) | refine mn_X8_in (fun _ => ?_) | refine Exists.imp (fun _ => ?_) | exact id | refine mo_a (fun _ => ?_))
theorem mn_X8_isDoneWithout_b41 {x1 : Int32} {x2 : Int32} {h : hp_T} {Q Q' : Int32 → Prop} {lp_5 lp_5' : Int32 → Int32 → Prop} {y3 : Int32} {y4 : Int32} {y5 : Int32} {z0 : Int32} {z1 : Int32} (hQ : ∀ v0, Q v0 → Q' v0) (hlp_5 : ∀ v0 v1, lp_5 v0 v1 → lp_5' v0 v1) : wp_X8_isDoneWithout_b41 x1 x2 h Q lp_5 y3 y4 y5 z0 z1 → wp_X8_isDoneWithout_b41 x1 x2 h Q' lp_5' y3 y4 y5 z0 z1 := by
  unfold wp_X8_isDoneWithout_b41
  repeat' (with_reducible first | exact hQ _ | exact hlp_5 _ _ | refine And.imp ?_ ?_ | refine mn_X8_isKnowing (fun _ => ?_) | refine mn_X8_ofTask (fun _ => ?_) | refine Exists.imp (fun _ => ?_) | exact id | refine mo_a (fun _ => ?_))
theorem mn_X8_isDoneWithout_L5 {x1 : Int32} {x2 : Int32} {h : hp_T} {Q Q' : Int32 → Prop} (hQ : ∀ v0, Q v0 → Q' v0) : ∀ (nn : Nat) (y0 : Int32) (y1 : Int32), wp_X8_isDoneWithout_L5 x1 x2 h Q nn y0 y1 → wp_X8_isDoneWithout_L5 x1 x2 h Q' nn y0 y1 := by
  intro nn
  induction nn with
  | zero => intro y0 y1; exact fun f => f
  | succ nn ih =>
    intro y0 y1
    unfold wp_X8_isDoneWithout_L5
    repeat' (with_reducible first | exact hQ _ | exact ih _ _ | refine And.imp ?_ ?_ | refine mn_X8_ofTask (fun _ => ?_) | refine mn_X8_knowers (fun _ => ?_) | refine mn_X8_isKnowing (fun _ => ?_) | refine mn_X8_isDoneWithout_b41 hQ ih | refine Exists.imp (fun _ => ?_) | exact id | refine mo_a (fun _ => ?_))
theorem mn_X8_isDoneWithout {x1 : Int32} {x2 : Int32} {h : hp_T} {Q Q' : Int32 → Prop} (hQ : ∀ v0, Q v0 → Q' v0) : wp_X8_isDoneWithout x1 x2 h Q → wp_X8_isDoneWithout x1 x2 h Q' := by
  unfold wp_X8_isDoneWithout
  repeat' (with_reducible first | exact hQ _ | refine And.imp ?_ ?_ | exact mn_X8_isDoneWithout_L5 hQ _ _ _ | refine Exists.imp (fun _ => ?_) | exact id | refine mo_a (fun _ => ?_))
theorem mn_X8_isHere {x1 : Int32} {h : hp_T} {Q Q' : Int32 → Prop} (hQ : ∀ v0, Q v0 → Q' v0) : wp_X8_isHere x1 h Q → wp_X8_isHere x1 h Q' := by
  unfold wp_X8_isHere
  repeat' (with_reducible first | exact hQ _ | refine And.imp ?_ ?_ | refine mn_X8_byteHere (fun _ => ?_) | refine Exists.imp (fun _ => ?_) | exact id | refine mo_a (fun _ => ?_))
theorem mn_X8_isKept_L51 {x1 : Int32} {x2 : Int32} {x3 : Int32} {Q Q' : Int32 → hp_T → Prop} (hQ : ∀ v0 v1, Q v0 v1 → Q' v0 v1) : ∀ (nn : Nat) (y0 : Int32) (y1 : Int32) (y2 : hp_T), wp_X8_isKept_L51 x1 x2 x3 Q nn y0 y1 y2 → wp_X8_isKept_L51 x1 x2 x3 Q' nn y0 y1 y2 := by
  intro nn
  induction nn with
  | zero => intro y0 y1 y2; exact fun f => f
  | succ nn ih =>
    intro y0 y1 y2
    unfold wp_X8_isKept_L51
    repeat' (with_reducible first | exact hQ _ _ | exact ih _ _ _ | refine And.imp ?_ ?_ | refine mn_X8_putsBack (fun _ => ?_) | refine mn_X8_day (fun _ => ?_) | refine mn_X8_knowers (fun _ => ?_) | refine Exists.imp (fun _ => ?_) | exact id | refine mo_a (fun _ => ?_))
theorem mn_X8_isKept_L3 {x1 : Int32} {x2 : Int32} {x3 : Int32} {Q Q' : Int32 → hp_T → Prop} (hQ : ∀ v0 v1, Q v0 v1 → Q' v0 v1) : ∀ (nn : Nat) (y0 : Int32) (y1 : hp_T), wp_X8_isKept_L3 x1 x2 x3 Q nn y0 y1 → wp_X8_isKept_L3 x1 x2 x3 Q' nn y0 y1 := by
  intro nn
  induction nn with
  | zero => intro y0 y1; exact fun f => f
  | succ nn ih =>
    intro y0 y1
    unfold wp_X8_isKept_L3
    repeat' (with_reducible first | exact hQ _ _ | exact ih _ _ | refine And.imp ?_ ?_ | exact mn_X8_isKept_L51 hQ _ _ _ _ | refine mn_X8_at (fun _ => ?_) | refine mn_X8_has (fun _ => ?_) | refine Exists.imp (fun _ => ?_) | exact id | refine mo_a (fun _ => ?_))
theorem mn_X8_isKept {x1 : Int32} {x2 : Int32} {x3 : Int32} {h : hp_T} {Q Q' : Int32 → hp_T → Prop} (hQ : ∀ v0 v1, Q v0 v1 → Q' v0 v1) : wp_X8_isKept x1 x2 x3 h Q → wp_X8_isKept x1 x2 x3 h Q' := by
  unfold wp_X8_isKept
  repeat' (with_reducible first | exact hQ _ _ | refine And.imp ?_ ?_ | exact mn_X8_isKept_L3 hQ _ _ _ | refine Exists.imp (fun _ => ?_) | exact id | refine mo_a (fun _ => ?_))
theorem mn_X8_isSheet {x0 : Int32} {h : hp_T} {Q Q' : Int32 → Prop} (hQ : ∀ v0, Q v0 → Q' v0) : wp_X8_isSheet x0 h Q → wp_X8_isSheet x0 h Q' := by
  unfold wp_X8_isSheet
  repeat' (with_reducible first | exact hQ _ | refine And.imp ?_ ?_ | refine mn_X8_in (fun _ => ?_) | refine Exists.imp (fun _ => ?_) | exact id | refine mo_a (fun _ => ?_))
theorem mn_X8_isStanding {x1 : Int32} {x2 : Int32} {x3 : Int32} {h : hp_T} {Q Q' : Int32 → Prop} (hQ : ∀ v0, Q v0 → Q' v0) : wp_X8_isStanding x1 x2 x3 h Q → wp_X8_isStanding x1 x2 x3 h Q' := by
  unfold wp_X8_isStanding
  repeat' (with_reducible first | exact hQ _ | refine And.imp ?_ ?_ | refine Exists.imp (fun _ => ?_) | exact id | refine mo_a (fun _ => ?_))
theorem mn_X8_wrong {x1 : Int32} {h : hp_T} {Q Q' : Int32 → Prop} (hQ : ∀ v0, Q v0 → Q' v0) : wp_X8_wrong x1 h Q → wp_X8_wrong x1 h Q' := by
  unfold wp_X8_wrong
  repeat' (with_reducible first | exact hQ _ | refine And.imp ?_ ?_ | refine mn_X8_isSheet (fun _ => ?_) | refine Exists.imp (fun _ => ?_) | exact id | refine mo_a (fun _ => ?_))
theorem mn_X8_judge_L18 {x1 : Int32} {Q Q' : Int32 → hp_T → Prop} (hQ : ∀ v0 v1, Q v0 v1 → Q' v0 v1) : ∀ (nn : Nat) (y0 : Int32) (y1 : hp_T), wp_X8_judge_L18 x1 Q nn y0 y1 → wp_X8_judge_L18 x1 Q' nn y0 y1 := by
  intro nn
  induction nn with
  | zero => intro y0 y1; exact fun f => f
  | succ nn ih =>
    intro y0 y1
    unfold wp_X8_judge_L18
    repeat' (with_reducible first | exact hQ _ _ | exact ih _ _ | refine And.imp ?_ ?_ | refine mn_X8_its (fun _ => ?_) | refine Exists.imp (fun _ => ?_) | exact id | refine mo_a (fun _ => ?_))
theorem mn_X8_judge {x1 : Int32} {h : hp_T} {Q Q' : Int32 → hp_T → Prop} (hQ : ∀ v0 v1, Q v0 v1 → Q' v0 v1) : wp_X8_judge x1 h Q → wp_X8_judge x1 h Q' := by
  unfold wp_X8_judge
  repeat' (with_reducible first | exact hQ _ _ | refine And.imp ?_ ?_ | refine mn_X8_wrong (fun _ => ?_) | exact mn_X8_judge_L18 hQ _ _ _ | refine mn_X8_errs (fun _ _ => ?_) | refine Exists.imp (fun _ => ?_) | exact id | refine mo_a (fun _ => ?_))
theorem mn_X8_know_b57 {x1 : Int32} {x2 : Int32} {x3 : Int32} {Q Q' : Int32 → hp_T → Prop} {z0 : Int32} {h : hp_T} (hQ : ∀ v0 v1, Q v0 v1 → Q' v0 v1) : wp_X8_know_b57 x1 x2 x3 Q z0 h → wp_X8_know_b57 x1 x2 x3 Q' z0 h := by
  unfold wp_X8_know_b57
  repeat' (with_reducible first | exact hQ _ _ | refine And.imp ?_ ?_ | refine mn_X8_at (fun _ => ?_) | refine Exists.imp (fun _ => ?_) | exact id | refine mo_a (fun _ => ?_))
theorem mn_X8_know {x1 : Int32} {x2 : Int32} {x3 : Int32} {h : hp_T} {Q Q' : Int32 → hp_T → Prop} (hQ : ∀ v0 v1, Q v0 v1 → Q' v0 v1) : wp_X8_know x1 x2 x3 h Q → wp_X8_know x1 x2 x3 h Q' := by
  unfold wp_X8_know
  repeat' (with_reducible first | exact hQ _ _ | refine And.imp ?_ ?_ | refine mn_X8_isBunk (fun _ => ?_) | refine mn_X8_errs (fun _ _ => ?_) | refine mn_X8_isKnack (fun _ => ?_) | refine mn_X8_in (fun _ => ?_) | refine mn_X8_isKnowing (fun _ => ?_) | refine mn_X8_know_b57 hQ | refine mn_X8_its (fun _ => ?_) | refine Exists.imp (fun _ => ?_) | exact id | refine mo_a (fun _ => ?_))
theorem mn_X8_lost_L32 {x1 : Int32} {x2 : Int32} {Q Q' : Int32 → hp_T → Prop} (hQ : ∀ v0 v1, Q v0 v1 → Q' v0 v1) : ∀ (nn : Nat) (y0 : Int32) (y1 : hp_T), wp_X8_lost_L32 x1 x2 Q nn y0 y1 → wp_X8_lost_L32 x1 x2 Q' nn y0 y1 := by
  intro nn
  induction nn with
  | zero => intro y0 y1; exact fun f => f
  | succ nn ih =>
    intro y0 y1
    unfold wp_X8_lost_L32
    repeat' (with_reducible first | exact hQ _ _ | exact ih _ _ | refine And.imp ?_ ?_ | refine mn_X8_putsBack (fun _ => ?_) | refine mn_X8_errs (fun _ _ => ?_) | refine mn_X8_knowers (fun _ => ?_) | refine mn_X8_day (fun _ => ?_) | refine Exists.imp (fun _ => ?_) | exact id | refine mo_a (fun _ => ?_))
theorem mn_X8_lost {x1 : Int32} {x2 : Int32} {h : hp_T} {Q Q' : Int32 → hp_T → Prop} (hQ : ∀ v0 v1, Q v0 v1 → Q' v0 v1) : wp_X8_lost x1 x2 h Q → wp_X8_lost x1 x2 h Q' := by
  unfold wp_X8_lost
  repeat' (with_reducible first | exact hQ _ _ | refine And.imp ?_ ?_ | refine mn_X8_isKnack (fun _ => ?_) | refine mn_X8_errs (fun _ _ => ?_) | refine mn_X8_in (fun _ => ?_) | refine mn_X8_keepsAside (fun _ => ?_) | exact mn_X8_lost_L32 hQ _ _ _ | refine Exists.imp (fun _ => ?_) | exact id | refine mo_a (fun _ => ?_))
theorem mn_X8_misheard {x1 : Int32} {h : hp_T} {Q Q' : Int32 → hp_T → Prop} (hQ : ∀ v0 v1, Q v0 v1 → Q' v0 v1) : wp_X8_misheard x1 h Q → wp_X8_misheard x1 h Q' := by
  unfold wp_X8_misheard
  repeat' (with_reducible first | exact hQ _ _ | refine And.imp ?_ ?_ | refine mn_X8_in (fun _ => ?_) | refine mn_X8_errs (fun _ _ => ?_) | refine Exists.imp (fun _ => ?_) | exact id | refine mo_a (fun _ => ?_))
theorem mn_X8_move_L144 {x1 : Int32} {x2 : Int32} {x3 : Int32} {x4 : Int32} {x5 : Int32} {Q Q' : Int32 → hp_T → Prop} (hQ : ∀ v0 v1, Q v0 v1 → Q' v0 v1) : ∀ (nn : Nat) (y0 : Int32) (y1 : hp_T), wp_X8_move_L144 x1 x2 x3 x4 x5 Q nn y0 y1 → wp_X8_move_L144 x1 x2 x3 x4 x5 Q' nn y0 y1 := by
  intro nn
  induction nn with
  | zero => intro y0 y1; exact fun f => f
  | succ nn ih =>
    intro y0 y1
    unfold wp_X8_move_L144
    repeat' (with_reducible first | exact hQ _ _ | exact ih _ _ | refine And.imp ?_ ?_ | refine Exists.imp (fun _ => ?_) | exact id | refine mo_a (fun _ => ?_))
theorem mn_X8_move_L107 {x1 : Int32} {x2 : Int32} {x3 : Int32} {x4 : Int32} {x5 : Int32} {Q Q' : Int32 → hp_T → Prop} (hQ : ∀ v0 v1, Q v0 v1 → Q' v0 v1) : ∀ (nn : Nat) (y0 : Int32) (y1 : hp_T), wp_X8_move_L107 x1 x2 x3 x4 x5 Q nn y0 y1 → wp_X8_move_L107 x1 x2 x3 x4 x5 Q' nn y0 y1 := by
  intro nn
  induction nn with
  | zero => intro y0 y1; exact fun f => f
  | succ nn ih =>
    intro y0 y1
    unfold wp_X8_move_L107
    repeat' (with_reducible first | exact hQ _ _ | exact ih _ _ | refine And.imp ?_ ?_ | exact mn_X8_move_L144 hQ _ _ _ | refine Exists.imp (fun _ => ?_) | exact id | refine mo_a (fun _ => ?_))
theorem mn_X8_move {x1 : Int32} {x2 : Int32} {x3 : Int32} {x4 : Int32} {x5 : Int32} {h : hp_T} {Q Q' : Int32 → hp_T → Prop} (hQ : ∀ v0 v1, Q v0 v1 → Q' v0 v1) : wp_X8_move x1 x2 x3 x4 x5 h Q → wp_X8_move x1 x2 x3 x4 x5 h Q' := by
  unfold wp_X8_move
  repeat' (with_reducible first | exact hQ _ _ | refine And.imp ?_ ?_ | refine mn_X8_isSheet (fun _ => ?_) | refine mn_X8_errs (fun _ _ => ?_) | refine mn_X8_isStanding (fun _ => ?_) | exact mn_X8_move_L107 hQ _ _ _ | refine Exists.imp (fun _ => ?_) | exact id | refine mo_a (fun _ => ?_))
theorem mn_X8_nameHere {h : hp_T} {Q Q' : Int32 → Prop} (hQ : ∀ v0, Q v0 → Q' v0) : wp_X8_nameHere h Q → wp_X8_nameHere h Q' := by
  unfold wp_X8_nameHere
  repeat' (with_reducible first | exact hQ _ | refine And.imp ?_ ?_ | refine mn_X8_byteHere (fun _ => ?_) | refine Exists.imp (fun _ => ?_) | exact id | refine mo_a (fun _ => ?_))
theorem mn_X8_parting_b57 {x1 : Int32} {Q Q' : Int32 → hp_T → Prop} {y2 : Int32} {y3 : Int32} {z0 : Int32} {h : hp_T} (hQ : ∀ v0 v1, Q v0 v1 → Q' v0 v1) : wp_X8_parting_b57 x1 Q y2 y3 z0 h → wp_X8_parting_b57 x1 Q' y2 y3 z0 h := by
  unfold wp_X8_parting_b57
  repeat' (with_reducible first | exact hQ _ _ | refine And.imp ?_ ?_ | refine mn_X8_telling (fun _ _ => ?_) | refine Exists.imp (fun _ => ?_) | exact id | refine mo_a (fun _ => ?_))
theorem mn_X8_parting {x1 : Int32} {h : hp_T} {Q Q' : Int32 → hp_T → Prop} (hQ : ∀ v0 v1, Q v0 v1 → Q' v0 v1) : wp_X8_parting x1 h Q → wp_X8_parting x1 h Q' := by
  unfold wp_X8_parting
  repeat' (with_reducible first | exact hQ _ _ | refine And.imp ?_ ?_ | refine mn_X8_its (fun _ => ?_) | refine mn_X8_runs (fun _ => ?_) | refine mn_X8_parting_b57 hQ | refine Exists.imp (fun _ => ?_) | exact id | refine mo_a (fun _ => ?_))
theorem mn_X8_put {x1 : Int32} {x2 : Int32} {x3 : Int32} {h : hp_T} {Q Q' : Int32 → hp_T → Prop} (hQ : ∀ v0 v1, Q v0 v1 → Q' v0 v1) : wp_X8_put x1 x2 x3 h Q → wp_X8_put x1 x2 x3 h Q' := by
  unfold wp_X8_put
  repeat' (with_reducible first | exact hQ _ _ | refine And.imp ?_ ?_ | refine mn_X8_wrong (fun _ => ?_) | refine mn_X8_in (fun _ => ?_) | refine mn_X8_errs (fun _ _ => ?_) | refine Exists.imp (fun _ => ?_) | exact id | refine mo_a (fun _ => ?_))
theorem mn_X8_writes {x1 : Int32} {h : hp_T} {Q Q' : hp_T → Prop} (hQ : ∀ v0, Q v0 → Q' v0) : wp_X8_writes x1 h Q → wp_X8_writes x1 h Q' := by
  unfold wp_X8_writes
  repeat' (with_reducible first | exact hQ _ | refine And.imp ?_ ?_ | refine Exists.imp (fun _ => ?_) | exact id | refine mo_a (fun _ => ?_))
theorem mn_X8_readsNumber_L4 {Q Q' : hp_T → Prop} (hQ : ∀ v0, Q v0 → Q' v0) : ∀ (nn : Nat) (y0 : Int32) (y1 : Int32) (y2 : hp_T), wp_X8_readsNumber_L4 Q nn y0 y1 y2 → wp_X8_readsNumber_L4 Q' nn y0 y1 y2 := by
  intro nn
  induction nn with
  | zero => intro y0 y1 y2; exact fun f => f
  | succ nn ih =>
    intro y0 y1 y2
    unfold wp_X8_readsNumber_L4
    repeat' (with_reducible first | exact hQ _ | exact ih _ _ _ | refine And.imp ?_ ?_ | refine mn_X8_isDigitHere (fun _ => ?_) | refine mn_X8_writes (fun _ => ?_) | refine mn_X8_byteHere (fun _ => ?_) | refine Exists.imp (fun _ => ?_) | exact id | refine mo_a (fun _ => ?_))
theorem mn_X8_readsNumber {h : hp_T} {Q Q' : hp_T → Prop} (hQ : ∀ v0, Q v0 → Q' v0) : wp_X8_readsNumber h Q → wp_X8_readsNumber h Q' := by
  unfold wp_X8_readsNumber
  repeat' (with_reducible first | exact hQ _ | refine And.imp ?_ ?_ | exact mn_X8_readsNumber_L4 hQ _ _ _ _ | refine Exists.imp (fun _ => ?_) | exact id | refine mo_a (fun _ => ?_))
theorem mn_X8_readsText_L4 {rc : rt_X8} {Q Q' : hp_T → Prop} (hr : MO_X8 rc) (hQ : ∀ v0, Q v0 → Q' v0) : ∀ (nn : Nat) (y0 : hp_T), wp_X8_readsText_L4 rc Q nn y0 → wp_X8_readsText_L4 rc Q' nn y0 := by
  intro nn
  induction nn with
  | zero => intro y0; exact fun f => f
  | succ nn ih =>
    intro y0
    unfold wp_X8_readsText_L4
    repeat' (with_reducible first | exact hQ _ | exact ih _ | refine And.imp ?_ ?_ | refine mn_X8_isHere (fun _ => ?_) | refine mn_X8_writes (fun _ => ?_) | refine hr.2.1 _ _ _ (fun _ => ?_) | refine Exists.imp (fun _ => ?_) | exact id | refine mo_a (fun _ => ?_))
theorem mn_X8_readsText {rc : rt_X8} {h : hp_T} {Q Q' : hp_T → Prop} (hr : MO_X8 rc) (hQ : ∀ v0, Q v0 → Q' v0) : wp_X8_readsText rc h Q → wp_X8_readsText rc h Q' := by
  unfold wp_X8_readsText
  repeat' (with_reducible first | exact hQ _ | refine And.imp ?_ ?_ | exact mn_X8_readsText_L4 hr hQ _ _ | refine hr.2.1 _ _ _ (fun _ => ?_) | refine Exists.imp (fun _ => ?_) | exact id | refine mo_a (fun _ => ?_))
theorem mn_X8_readsAll_L4 {rc : rt_X8} {Q Q' : hp_T → Prop} (hr : MO_X8 rc) (hQ : ∀ v0, Q v0 → Q' v0) : ∀ (nn : Nat) (y0 : hp_T), wp_X8_readsAll_L4 rc Q nn y0 → wp_X8_readsAll_L4 rc Q' nn y0 := by
  intro nn
  induction nn with
  | zero => intro y0; exact fun f => f
  | succ nn ih =>
    intro y0
    unfold wp_X8_readsAll_L4
    repeat' (with_reducible first | exact hQ _ | exact ih _ | refine And.imp ?_ ?_ | refine mn_X8_isHere (fun _ => ?_) | refine mn_X8_writes (fun _ => ?_) | refine hr.2.2.1 _ _ _ (fun _ => ?_) | refine Exists.imp (fun _ => ?_) | exact id | refine mo_a (fun _ => ?_))
theorem mn_X8_readsAll {rc : rt_X8} {h : hp_T} {Q Q' : hp_T → Prop} (hr : MO_X8 rc) (hQ : ∀ v0, Q v0 → Q' v0) : wp_X8_readsAll rc h Q → wp_X8_readsAll rc h Q' := by
  unfold wp_X8_readsAll
  repeat' (with_reducible first | exact hQ _ | refine And.imp ?_ ?_ | exact mn_X8_readsAll_L4 hr hQ _ _ | refine hr.2.2.1 _ _ _ (fun _ => ?_) | refine Exists.imp (fun _ => ?_) | exact id | refine mo_a (fun _ => ?_))
theorem mn_X8_readsComparison_b31 {rc : rt_X8} {Q Q' : hp_T → Prop} {h : hp_T} (hr : MO_X8 rc) (hQ : ∀ v0, Q v0 → Q' v0) : wp_X8_readsComparison_b31 rc Q h → wp_X8_readsComparison_b31 rc Q' h := by
  unfold wp_X8_readsComparison_b31
  repeat' (with_reducible first | exact hQ _ | refine And.imp ?_ ?_ | refine mn_X8_isHere (fun _ => ?_) | refine mn_X8_writes (fun _ => ?_) | refine hr.2.2.2.1 _ _ _ (fun _ => ?_) | refine Exists.imp (fun _ => ?_) | exact id | refine mo_a (fun _ => ?_))
theorem mn_X8_readsComparison {rc : rt_X8} {h : hp_T} {Q Q' : hp_T → Prop} (hr : MO_X8 rc) (hQ : ∀ v0, Q v0 → Q' v0) : wp_X8_readsComparison rc h Q → wp_X8_readsComparison rc h Q' := by
  unfold wp_X8_readsComparison
  repeat' (with_reducible first | exact hQ _ | refine And.imp ?_ ?_ | refine mn_X8_isHere (fun _ => ?_) | refine mn_X8_readsComparison_b31 hr hQ | refine hr.2.2.2.1 _ _ _ (fun _ => ?_) | refine Exists.imp (fun _ => ?_) | exact id | refine mo_a (fun _ => ?_))
theorem mn_X8_readsSum_L4 {rc : rt_X8} {Q Q' : hp_T → Prop} (hr : MO_X8 rc) (hQ : ∀ v0, Q v0 → Q' v0) : ∀ (nn : Nat) (y0 : hp_T), wp_X8_readsSum_L4 rc Q nn y0 → wp_X8_readsSum_L4 rc Q' nn y0 := by
  intro nn
  induction nn with
  | zero => intro y0; exact fun f => f
  | succ nn ih =>
    intro y0
    unfold wp_X8_readsSum_L4
    repeat' (with_reducible first | exact hQ _ | exact ih _ | refine And.imp ?_ ?_ | refine mn_X8_isHere (fun _ => ?_) | refine mn_X8_writes (fun _ => ?_) | refine hr.2.2.2.2.1 _ _ _ (fun _ => ?_) | refine Exists.imp (fun _ => ?_) | exact id | refine mo_a (fun _ => ?_))
theorem mn_X8_readsSum {rc : rt_X8} {h : hp_T} {Q Q' : hp_T → Prop} (hr : MO_X8 rc) (hQ : ∀ v0, Q v0 → Q' v0) : wp_X8_readsSum rc h Q → wp_X8_readsSum rc h Q' := by
  unfold wp_X8_readsSum
  repeat' (with_reducible first | exact hQ _ | refine And.imp ?_ ?_ | exact mn_X8_readsSum_L4 hr hQ _ _ | refine hr.2.2.2.2.1 _ _ _ (fun _ => ?_) | refine Exists.imp (fun _ => ?_) | exact id | refine mo_a (fun _ => ?_))
theorem mn_X8_readsProduct_b31 {rc : rt_X8} {Q Q' : hp_T → Prop} {lp_4 lp_4' : hp_T → Prop} {h : hp_T} (hr : MO_X8 rc) (hQ : ∀ v0, Q v0 → Q' v0) (hlp_4 : ∀ v0, lp_4 v0 → lp_4' v0) : wp_X8_readsProduct_b31 rc Q lp_4 h → wp_X8_readsProduct_b31 rc Q' lp_4' h := by
  unfold wp_X8_readsProduct_b31
  repeat' (with_reducible first | exact hQ _ | exact hlp_4 _ | refine And.imp ?_ ?_ | refine mn_X8_isHere (fun _ => ?_) | refine mn_X8_writes (fun _ => ?_) | refine hr.2.2.2.2.2 _ _ _ (fun _ => ?_) | refine Exists.imp (fun _ => ?_) | exact id | refine mo_a (fun _ => ?_))
theorem mn_X8_readsProduct_L4 {rc : rt_X8} {Q Q' : hp_T → Prop} (hr : MO_X8 rc) (hQ : ∀ v0, Q v0 → Q' v0) : ∀ (nn : Nat) (y0 : hp_T), wp_X8_readsProduct_L4 rc Q nn y0 → wp_X8_readsProduct_L4 rc Q' nn y0 := by
  intro nn
  induction nn with
  | zero => intro y0; exact fun f => f
  | succ nn ih =>
    intro y0
    unfold wp_X8_readsProduct_L4
    repeat' (with_reducible first | exact hQ _ | exact ih _ | refine And.imp ?_ ?_ | refine mn_X8_isHere (fun _ => ?_) | refine mn_X8_readsProduct_b31 hr hQ ih | refine Exists.imp (fun _ => ?_) | exact id | refine mo_a (fun _ => ?_))
theorem mn_X8_readsProduct {rc : rt_X8} {h : hp_T} {Q Q' : hp_T → Prop} (hr : MO_X8 rc) (hQ : ∀ v0, Q v0 → Q' v0) : wp_X8_readsProduct rc h Q → wp_X8_readsProduct rc h Q' := by
  unfold wp_X8_readsProduct
  repeat' (with_reducible first | exact hQ _ | refine And.imp ?_ ?_ | exact mn_X8_readsProduct_L4 hr hQ _ _ | refine hr.2.2.2.2.2 _ _ _ (fun _ => ?_) | refine Exists.imp (fun _ => ?_) | exact id | refine mo_a (fun _ => ?_))
theorem mn_X8_readsOne_b70 {rc : rt_X8} {Q Q' : hp_T → Prop} {h : hp_T} (hr : MO_X8 rc) (hQ : ∀ v0, Q v0 → Q' v0) : wp_X8_readsOne_b70 rc Q h → wp_X8_readsOne_b70 rc Q' h := by
  unfold wp_X8_readsOne_b70
  repeat' (with_reducible first | exact hQ _ | refine And.imp ?_ ?_ | refine mn_X8_isHere (fun _ => ?_) | refine mn_X8_writes (fun _ => ?_) | refine hr.1 _ _ _ (fun _ => ?_) | refine hr.2.2.2.2.2 _ _ _ (fun _ => ?_) | refine Exists.imp (fun _ => ?_) | exact id | refine mo_a (fun _ => ?_))
theorem mn_X8_readsOne {rc : rt_X8} {h : hp_T} {Q Q' : hp_T → Prop} (hr : MO_X8 rc) (hQ : ∀ v0, Q v0 → Q' v0) : wp_X8_readsOne rc h Q → wp_X8_readsOne rc h Q' := by
  unfold wp_X8_readsOne
  repeat' (with_reducible first | exact hQ _ | refine And.imp ?_ ?_ | refine mn_X8_nameHere (fun _ => ?_) | refine mn_X8_isDigitHere (fun _ => ?_) | refine mn_X8_isHere (fun _ => ?_) | refine mn_X8_readsOne_b70 hr hQ | refine mn_X8_writes (fun _ => ?_) | refine mn_X8_readsNumber (fun _ => ?_) | refine Exists.imp (fun _ => ?_) | exact id | refine mo_a (fun _ => ?_))
theorem MOw_X8 : ∀ d, MO_X8 (wr_X8 d) := by
  intro d
  induction d with
  | zero => exact ⟨fun _ _ _ _ f => f, fun _ _ _ _ f => f, fun _ _ _ _ f => f, fun _ _ _ _ f => f, fun _ _ _ _ f => f, fun _ _ _ _ f => f⟩
  | succ d ih => exact ⟨fun _ _ _ hq => mn_X8_readsText ih hq, fun _ _ _ hq => mn_X8_readsAll ih hq, fun _ _ _ hq => mn_X8_readsComparison ih hq, fun _ _ _ hq => mn_X8_readsSum ih hq, fun _ _ _ hq => mn_X8_readsProduct ih hq, fun _ _ _ hq => mn_X8_readsOne ih hq⟩
theorem mn_X8_restore_L17 {Q Q' : Int32 → hp_T → Prop} (hQ : ∀ v0 v1, Q v0 v1 → Q' v0 v1) : ∀ (nn : Nat) (y0 : Int32) (y1 : hp_T), wp_X8_restore_L17 Q nn y0 y1 → wp_X8_restore_L17 Q' nn y0 y1 := by
  intro nn
  induction nn with
  | zero => intro y0 y1; exact fun f => f
  | succ nn ih =>
    intro y0 y1
    unfold wp_X8_restore_L17
    repeat' (with_reducible first | exact hQ _ _ | exact ih _ _ | refine And.imp ?_ ?_ | refine Exists.imp (fun _ => ?_) | exact id | refine mo_a (fun _ => ?_))
theorem mn_X8_restore {h : hp_T} {Q Q' : Int32 → hp_T → Prop} (hQ : ∀ v0 v1, Q v0 v1 → Q' v0 v1) : wp_X8_restore h Q → wp_X8_restore h Q' := by
  unfold wp_X8_restore
  repeat' (with_reducible first | exact hQ _ _ | refine And.imp ?_ ?_ | refine mn_X8_errs (fun _ _ => ?_) | exact mn_X8_restore_L17 hQ _ _ _ | refine Exists.imp (fun _ => ?_) | exact id | refine mo_a (fun _ => ?_))
theorem mn_X8_rosterWrong {x1 : Int32} {x2 : Int32} {h : hp_T} {Q Q' : Int32 → Prop} (hQ : ∀ v0, Q v0 → Q' v0) : wp_X8_rosterWrong x1 x2 h Q → wp_X8_rosterWrong x1 x2 h Q' := by
  unfold wp_X8_rosterWrong
  repeat' (with_reducible first | exact hQ _ | refine And.imp ?_ ?_ | refine mn_X8_isMan (fun _ => ?_) | refine mn_X8_isBits (fun _ => ?_) | refine Exists.imp (fun _ => ?_) | exact id | refine mo_a (fun _ => ?_))
theorem mn_X8_rostered {x1 : Int32} {x2 : Int32} {h : hp_T} {Q Q' : hp_T → Prop} (hQ : ∀ v0, Q v0 → Q' v0) : wp_X8_rostered x1 x2 h Q → wp_X8_rostered x1 x2 h Q' := by
  unfold wp_X8_rostered
  repeat' (with_reducible first | exact hQ _ | refine And.imp ?_ ?_ | refine Exists.imp (fun _ => ?_) | exact id | refine mo_a (fun _ => ?_))
theorem mn_X8_roster {x1 : Int32} {x2 : Int32} {h : hp_T} {Q Q' : Int32 → hp_T → Prop} (hQ : ∀ v0 v1, Q v0 v1 → Q' v0 v1) : wp_X8_roster x1 x2 h Q → wp_X8_roster x1 x2 h Q' := by
  unfold wp_X8_roster
  repeat' (with_reducible first | exact hQ _ _ | refine And.imp ?_ ?_ | refine mn_X8_rosterWrong (fun _ => ?_) | refine mn_X8_rostered (fun _ => ?_) | refine mn_X8_errs (fun _ _ => ?_) | refine Exists.imp (fun _ => ?_) | exact id | refine mo_a (fun _ => ?_))
theorem mn_X8_rosters_L18 {x1 : Int32} {Q Q' : Int32 → hp_T → Prop} (hQ : ∀ v0 v1, Q v0 v1 → Q' v0 v1) : ∀ (nn : Nat) (y0 : Int32) (y1 : hp_T), wp_X8_rosters_L18 x1 Q nn y0 y1 → wp_X8_rosters_L18 x1 Q' nn y0 y1 := by
  intro nn
  induction nn with
  | zero => intro y0 y1; exact fun f => f
  | succ nn ih =>
    intro y0 y1
    unfold wp_X8_rosters_L18
    repeat' (with_reducible first | exact hQ _ _ | exact ih _ _ | refine And.imp ?_ ?_ | refine mn_X8_rosterWrong (fun _ => ?_) | refine mn_X8_rostered (fun _ => ?_) | refine Exists.imp (fun _ => ?_) | exact id | refine mo_a (fun _ => ?_))
theorem mn_X8_rosters {x1 : Int32} {h : hp_T} {Q Q' : Int32 → hp_T → Prop} (hQ : ∀ v0 v1, Q v0 v1 → Q' v0 v1) : wp_X8_rosters x1 h Q → wp_X8_rosters x1 h Q' := by
  unfold wp_X8_rosters
  repeat' (with_reducible first | exact hQ _ _ | refine And.imp ?_ ?_ | refine mn_X8_wrong (fun _ => ?_) | exact mn_X8_rosters_L18 hQ _ _ _ | refine mn_X8_errs (fun _ _ => ?_) | refine Exists.imp (fun _ => ?_) | exact id | refine mo_a (fun _ => ?_))
theorem mn_X8_saves {x1 : Int32} {x2 : Int32} {h : hp_T} {Q Q' : Int32 → hp_T → Prop} (hQ : ∀ v0 v1, Q v0 v1 → Q' v0 v1) : wp_X8_saves x1 x2 h Q → wp_X8_saves x1 x2 h Q' := by
  unfold wp_X8_saves
  repeat' (with_reducible first | exact hQ _ _ | refine And.imp ?_ ?_ | refine mn_X8_isKnack (fun _ => ?_) | refine mn_X8_errs (fun _ _ => ?_) | refine mn_X8_in (fun _ => ?_) | refine mn_X8_keepsAside (fun _ => ?_) | refine mn_X8_doneIn (fun _ _ => ?_) | refine Exists.imp (fun _ => ?_) | exact id | refine mo_a (fun _ => ?_))
theorem mn_X8_seed {x1 : Int32} {h : hp_T} {Q Q' : Int32 → hp_T → Prop} (hQ : ∀ v0 v1, Q v0 v1 → Q' v0 v1) : wp_X8_seed x1 h Q → wp_X8_seed x1 h Q' := by
  unfold wp_X8_seed
  repeat' (with_reducible first | exact hQ _ _ | refine And.imp ?_ ?_ | refine Exists.imp (fun _ => ?_) | exact id | refine mo_a (fun _ => ?_))
theorem mn_X8_set {x1 : Int32} {x2 : Int32} {x3 : Int32} {h : hp_T} {Q Q' : Int32 → hp_T → Prop} (hQ : ∀ v0 v1, Q v0 v1 → Q' v0 v1) : wp_X8_set x1 x2 x3 h Q → wp_X8_set x1 x2 x3 h Q' := by
  unfold wp_X8_set
  repeat' (with_reducible first | exact hQ _ _ | refine And.imp ?_ ?_ | refine mn_X8_in (fun _ => ?_) | refine mn_X8_isBunk (fun _ => ?_) | refine mn_X8_errs (fun _ _ => ?_) | refine mn_X8_its (fun _ => ?_) | refine mn_X8_at (fun _ => ?_) | refine Exists.imp (fun _ => ?_) | exact id | refine mo_a (fun _ => ?_))
theorem mn_X8_sheet_L105 {x1 : Int32} {x2 : Int32} {x3 : Int32} {Q Q' : Int32 → hp_T → Prop} (hQ : ∀ v0 v1, Q v0 v1 → Q' v0 v1) : ∀ (nn : Nat) (y0 : Int32) (y1 : hp_T), wp_X8_sheet_L105 x1 x2 x3 Q nn y0 y1 → wp_X8_sheet_L105 x1 x2 x3 Q' nn y0 y1 := by
  intro nn
  induction nn with
  | zero => intro y0 y1; exact fun f => f
  | succ nn ih =>
    intro y0 y1
    unfold wp_X8_sheet_L105
    repeat' (with_reducible first | exact hQ _ _ | exact ih _ _ | refine And.imp ?_ ?_ | refine Exists.imp (fun _ => ?_) | exact id | refine mo_a (fun _ => ?_))
theorem mn_X8_sheet_b63 {x1 : Int32} {x2 : Int32} {x3 : Int32} {Q Q' : Int32 → hp_T → Prop} {h : hp_T} (hQ : ∀ v0 v1, Q v0 v1 → Q' v0 v1) : wp_X8_sheet_b63 x1 x2 x3 Q h → wp_X8_sheet_b63 x1 x2 x3 Q' h := by
  unfold wp_X8_sheet_b63
  repeat' (with_reducible first | exact hQ _ _ | refine And.imp ?_ ?_ | exact mn_X8_sheet_L105 hQ _ _ _ | refine mn_X8_errs (fun _ _ => ?_) | refine Exists.imp (fun _ => ?_) | exact id | refine mo_a (fun _ => ?_))
theorem mn_X8_sheet {x1 : Int32} {x2 : Int32} {x3 : Int32} {h : hp_T} {Q Q' : Int32 → hp_T → Prop} (hQ : ∀ v0 v1, Q v0 v1 → Q' v0 v1) : wp_X8_sheet x1 x2 x3 h Q → wp_X8_sheet x1 x2 x3 h Q' := by
  unfold wp_X8_sheet
  repeat' (with_reducible first | exact hQ _ _ | refine And.imp ?_ ?_ | refine mn_X8_isSheet (fun _ => ?_) | refine mn_X8_errs (fun _ _ => ?_) | refine mn_X8_sheet_b63 hQ | refine Exists.imp (fun _ => ?_) | exact id | refine mo_a (fun _ => ?_))
theorem mn_X8_storm_L41 {x1 : Int32} {Q Q' : Int32 → hp_T → Prop} {lp_24 lp_24' : Int32 → Int32 → Int32 → hp_T → Prop} (hQ : ∀ v0 v1, Q v0 v1 → Q' v0 v1) (hlp_24 : ∀ v0 v1 v2 v3, lp_24 v0 v1 v2 v3 → lp_24' v0 v1 v2 v3) : ∀ (nn : Nat) (y0 : Int32) (y1 : Int32) (y2 : Int32) (y3 : Int32) (y4 : hp_T), wp_X8_storm_L41 x1 Q lp_24 nn y0 y1 y2 y3 y4 → wp_X8_storm_L41 x1 Q' lp_24' nn y0 y1 y2 y3 y4 := by
  intro nn
  induction nn with
  | zero => intro y0 y1 y2 y3 y4; exact fun f => f
  | succ nn ih =>
    intro y0 y1 y2 y3 y4
    unfold wp_X8_storm_L41
    repeat' (with_reducible first | exact hQ _ _ | exact hlp_24 _ _ _ _ | exact ih _ _ _ _ _ | refine And.imp ?_ ?_ | refine mn_X8_isDoneWithout (fun _ => ?_) | refine Exists.imp (fun _ => ?_) | exact id | refine mo_a (fun _ => ?_))
theorem mn_X8_storm_L24 {x1 : Int32} {Q Q' : Int32 → hp_T → Prop} (hQ : ∀ v0 v1, Q v0 v1 → Q' v0 v1) : ∀ (nn : Nat) (y0 : Int32) (y1 : Int32) (y2 : Int32) (y3 : hp_T), wp_X8_storm_L24 x1 Q nn y0 y1 y2 y3 → wp_X8_storm_L24 x1 Q' nn y0 y1 y2 y3 := by
  intro nn
  induction nn with
  | zero => intro y0 y1 y2 y3; exact fun f => f
  | succ nn ih =>
    intro y0 y1 y2 y3
    unfold wp_X8_storm_L24
    repeat' (with_reducible first | exact hQ _ _ | exact ih _ _ _ _ | refine And.imp ?_ ?_ | refine mn_X8_errs (fun _ _ => ?_) | exact mn_X8_storm_L41 hQ ih _ _ _ _ _ _ | refine Exists.imp (fun _ => ?_) | exact id | refine mo_a (fun _ => ?_))
theorem mn_X8_storm {x1 : Int32} {h : hp_T} {Q Q' : Int32 → hp_T → Prop} (hQ : ∀ v0 v1, Q v0 v1 → Q' v0 v1) : wp_X8_storm x1 h Q → wp_X8_storm x1 h Q' := by
  unfold wp_X8_storm
  repeat' (with_reducible first | exact hQ _ _ | refine And.imp ?_ ?_ | refine mn_X8_in (fun _ => ?_) | refine mn_X8_errs (fun _ _ => ?_) | exact mn_X8_storm_L24 hQ _ _ _ _ _ | refine Exists.imp (fun _ => ?_) | exact id | refine mo_a (fun _ => ?_))
theorem mn_X8_task {x1 : Int32} {x2 : Int32} {x3 : Int32} {h : hp_T} {Q Q' : Int32 → hp_T → Prop} (hQ : ∀ v0 v1, Q v0 v1 → Q' v0 v1) : wp_X8_task x1 x2 x3 h Q → wp_X8_task x1 x2 x3 h Q' := by
  unfold wp_X8_task
  repeat' (with_reducible first | exact hQ _ _ | refine And.imp ?_ ?_ | refine mn_X8_in (fun _ => ?_) | refine mn_X8_errs (fun _ _ => ?_) | refine mn_X8_isKnack (fun _ => ?_) | refine mn_X8_ofTask (fun _ => ?_) | refine mn_X8_where (fun _ => ?_) | refine Exists.imp (fun _ => ?_) | exact id | refine mo_a (fun _ => ?_))
theorem mn_X8_toldTask {x1 : Int32} {x2 : Int32} {h : hp_T} {Q Q' : Int32 → Prop} (hQ : ∀ v0, Q v0 → Q' v0) : wp_X8_toldTask x1 x2 h Q → wp_X8_toldTask x1 x2 h Q' := by
  unfold wp_X8_toldTask
  repeat' (with_reducible first | exact hQ _ | refine And.imp ?_ ?_ | refine mn_X8_ofTask (fun _ => ?_) | refine mn_X8_knowers (fun _ => ?_) | refine Exists.imp (fun _ => ?_) | exact id | refine mo_a (fun _ => ?_))
theorem mn_X8_taskIs {x1 : Int32} {x2 : Int32} {h : hp_T} {Q Q' : Int32 → hp_T → Prop} (hQ : ∀ v0 v1, Q v0 v1 → Q' v0 v1) : wp_X8_taskIs x1 x2 h Q → wp_X8_taskIs x1 x2 h Q' := by
  unfold wp_X8_taskIs
  repeat' (with_reducible first | exact hQ _ _ | refine And.imp ?_ ?_ | refine mn_X8_in (fun _ => ?_) | refine mn_X8_errs (fun _ _ => ?_) | refine mn_X8_toldTask (fun _ => ?_) | refine Exists.imp (fun _ => ?_) | exact id | refine mo_a (fun _ => ?_))
theorem mn_X8_teachers_L46 {x1 : Int32} {x2 : Int32} {x3 : Int32} {Q Q' : Int32 → hp_T → Prop} (hQ : ∀ v0 v1, Q v0 v1 → Q' v0 v1) : ∀ (nn : Nat) (y0 : Int32) (y1 : Int32) (y2 : hp_T), wp_X8_teachers_L46 x1 x2 x3 Q nn y0 y1 y2 → wp_X8_teachers_L46 x1 x2 x3 Q' nn y0 y1 y2 := by
  intro nn
  induction nn with
  | zero => intro y0 y1 y2; exact fun f => f
  | succ nn ih =>
    intro y0 y1 y2
    unfold wp_X8_teachers_L46
    repeat' (with_reducible first | exact hQ _ _ | exact ih _ _ _ | refine And.imp ?_ ?_ | refine mn_X8_ones (fun _ => ?_) | refine mn_X8_errs (fun _ _ => ?_) | refine mn_X8_isKept (fun _ _ => ?_) | refine Exists.imp (fun _ => ?_) | exact id | refine mo_a (fun _ => ?_))
theorem mn_X8_teachers {x1 : Int32} {x2 : Int32} {x3 : Int32} {h : hp_T} {Q Q' : Int32 → hp_T → Prop} (hQ : ∀ v0 v1, Q v0 v1 → Q' v0 v1) : wp_X8_teachers x1 x2 x3 h Q → wp_X8_teachers x1 x2 x3 h Q' := by
  unfold wp_X8_teachers
  repeat' (with_reducible first | exact hQ _ _ | refine And.imp ?_ ?_ | refine mn_X8_isKnack (fun _ => ?_) | refine mn_X8_errs (fun _ _ => ?_) | refine mn_X8_in (fun _ => ?_) | refine mn_X8_keepsAside (fun _ => ?_) | exact mn_X8_teachers_L46 hQ _ _ _ _ | refine Exists.imp (fun _ => ?_) | exact id | refine mo_a (fun _ => ?_))
theorem mn_X8_tell {x1 : Int32} {h : hp_T} {Q Q' : Int32 → hp_T → Prop} (hQ : ∀ v0 v1, Q v0 v1 → Q' v0 v1) : wp_X8_tell x1 h Q → wp_X8_tell x1 h Q' := by
  unfold wp_X8_tell
  repeat' (with_reducible first | exact hQ _ _ | refine And.imp ?_ ?_ | refine mn_X8_errs (fun _ _ => ?_) | refine Exists.imp (fun _ => ?_) | exact id | refine mo_a (fun _ => ?_))
theorem mn_X8_text_L95 {x1 : Int32} {Q Q' : Int32 → hp_T → Prop} (hQ : ∀ v0 v1, Q v0 v1 → Q' v0 v1) : ∀ (nn : Nat) (y0 : Int32) (y1 : hp_T), wp_X8_text_L95 x1 Q nn y0 y1 → wp_X8_text_L95 x1 Q' nn y0 y1 := by
  intro nn
  induction nn with
  | zero => intro y0 y1; exact fun f => f
  | succ nn ih =>
    intro y0 y1
    unfold wp_X8_text_L95
    repeat' (with_reducible first | exact hQ _ _ | exact ih _ _ | refine And.imp ?_ ?_ | refine Exists.imp (fun _ => ?_) | exact id | refine mo_a (fun _ => ?_))
theorem mn_X8_text {x1 : Int32} {h : hp_T} {Q Q' : Int32 → hp_T → Prop} (hQ : ∀ v0 v1, Q v0 v1 → Q' v0 v1) : wp_X8_text x1 h Q → wp_X8_text x1 h Q' := by
  unfold wp_X8_text
  repeat' (with_reducible first | exact hQ _ _ | refine And.imp ?_ ?_ | refine mn_X8_in (fun _ => ?_) | refine mn_X8_errs (fun _ _ => ?_) | exact mn_X8_text_L95 hQ _ _ _ | refine (MOw_X8 60).1 _ _ _ (fun _ => ?_) | refine Exists.imp (fun _ => ?_) | exact id | refine mo_a (fun _ => ?_))
theorem mn_X8_then {x1 : Int32} {x2 : Int32} {x3 : Int32} {h : hp_T} {Q Q' : Int32 → hp_T → Prop} (hQ : ∀ v0 v1, Q v0 v1 → Q' v0 v1) : wp_X8_then x1 x2 x3 h Q → wp_X8_then x1 x2 x3 h Q' := by
  unfold wp_X8_then
  repeat' (with_reducible first | exact hQ _ _ | refine And.imp ?_ ?_ | refine mn_X8_in (fun _ => ?_) | refine mn_X8_errs (fun _ _ => ?_) | refine mn_X8_isBunk (fun _ => ?_) | refine mn_X8_keepsAside (fun _ => ?_) | refine mn_X8_daysGo (fun _ => ?_) | refine mn_X8_ofMan (fun _ _ => ?_) | refine mn_X8_putsBack (fun _ => ?_) | refine Exists.imp (fun _ => ?_) | exact id | refine mo_a (fun _ => ?_))
theorem mn_X8_thenTask {x1 : Int32} {x2 : Int32} {x3 : Int32} {h : hp_T} {Q Q' : Int32 → hp_T → Prop} (hQ : ∀ v0 v1, Q v0 v1 → Q' v0 v1) : wp_X8_thenTask x1 x2 x3 h Q → wp_X8_thenTask x1 x2 x3 h Q' := by
  unfold wp_X8_thenTask
  repeat' (with_reducible first | exact hQ _ _ | refine And.imp ?_ ?_ | refine mn_X8_in (fun _ => ?_) | refine mn_X8_errs (fun _ _ => ?_) | refine mn_X8_keepsAside (fun _ => ?_) | refine mn_X8_daysGo (fun _ => ?_) | refine mn_X8_toldTask (fun _ => ?_) | refine mn_X8_putsBack (fun _ => ?_) | refine Exists.imp (fun _ => ?_) | exact id | refine mo_a (fun _ => ?_))
theorem mn_X8_told {x1 : Int32} {h : hp_T} {Q Q' : Int32 → hp_T → Prop} (hQ : ∀ v0 v1, Q v0 v1 → Q' v0 v1) : wp_X8_told x1 h Q → wp_X8_told x1 h Q' := by
  unfold wp_X8_told
  repeat' (with_reducible first | exact hQ _ _ | refine And.imp ?_ ?_ | refine mn_X8_in (fun _ => ?_) | refine mn_X8_errs (fun _ _ => ?_) | refine Exists.imp (fun _ => ?_) | exact id | refine mo_a (fun _ => ?_))
theorem mn_X8_untell {x1 : Int32} {h : hp_T} {Q Q' : Int32 → hp_T → Prop} (hQ : ∀ v0 v1, Q v0 v1 → Q' v0 v1) : wp_X8_untell x1 h Q → wp_X8_untell x1 h Q' := by
  unfold wp_X8_untell
  repeat' (with_reducible first | exact hQ _ _ | refine And.imp ?_ ?_ | refine mn_X8_in (fun _ => ?_) | refine mn_X8_errs (fun _ _ => ?_) | refine Exists.imp (fun _ => ?_) | exact id | refine mo_a (fun _ => ?_))
theorem mn_X8_voice {x1 : Int32} {x2 : Int32} {x3 : Int32} {h : hp_T} {Q Q' : Int32 → hp_T → Prop} (hQ : ∀ v0 v1, Q v0 v1 → Q' v0 v1) : wp_X8_voice x1 x2 x3 h Q → wp_X8_voice x1 x2 x3 h Q' := by
  unfold wp_X8_voice
  repeat' (with_reducible first | exact hQ _ _ | refine And.imp ?_ ?_ | refine mn_X8_isBunk (fun _ => ?_) | refine mn_X8_errs (fun _ _ => ?_) | refine mn_X8_in (fun _ => ?_) | refine mn_X8_hearing (fun _ _ => ?_) | refine mn_X8_telling (fun _ _ => ?_) | refine mn_X8_bunking (fun _ _ => ?_) | refine mn_X8_parting (fun _ _ => ?_) | refine Exists.imp (fun _ => ?_) | exact id | refine mo_a (fun _ => ?_))
theorem mn_X8_wages_L35 {x1 : Int32} {Q Q' : Int32 → hp_T → Prop} {lp_22 lp_22' : Int32 → Int32 → hp_T → Prop} (hQ : ∀ v0 v1, Q v0 v1 → Q' v0 v1) (hlp_22 : ∀ v0 v1 v2, lp_22 v0 v1 v2 → lp_22' v0 v1 v2) : ∀ (nn : Nat) (y0 : Int32) (y1 : Int32) (y2 : Int32) (y3 : hp_T), wp_X8_wages_L35 x1 Q lp_22 nn y0 y1 y2 y3 → wp_X8_wages_L35 x1 Q' lp_22' nn y0 y1 y2 y3 := by
  intro nn
  induction nn with
  | zero => intro y0 y1 y2 y3; exact fun f => f
  | succ nn ih =>
    intro y0 y1 y2 y3
    unfold wp_X8_wages_L35
    repeat' (with_reducible first | exact hQ _ _ | exact hlp_22 _ _ _ | exact ih _ _ _ _ | refine And.imp ?_ ?_ | refine mn_X8_wagesOf (fun _ _ => ?_) | refine Exists.imp (fun _ => ?_) | exact id | refine mo_a (fun _ => ?_))
theorem mn_X8_wages_L22 {x1 : Int32} {Q Q' : Int32 → hp_T → Prop} (hQ : ∀ v0 v1, Q v0 v1 → Q' v0 v1) : ∀ (nn : Nat) (y0 : Int32) (y1 : Int32) (y2 : hp_T), wp_X8_wages_L22 x1 Q nn y0 y1 y2 → wp_X8_wages_L22 x1 Q' nn y0 y1 y2 := by
  intro nn
  induction nn with
  | zero => intro y0 y1 y2; exact fun f => f
  | succ nn ih =>
    intro y0 y1 y2
    unfold wp_X8_wages_L22
    repeat' (with_reducible first | exact hQ _ _ | exact ih _ _ _ | refine And.imp ?_ ?_ | refine mn_X8_putsBack (fun _ => ?_) | refine mn_X8_day (fun _ => ?_) | exact mn_X8_wages_L35 hQ ih _ _ _ _ _ | refine Exists.imp (fun _ => ?_) | exact id | refine mo_a (fun _ => ?_))
theorem mn_X8_wages {x1 : Int32} {h : hp_T} {Q Q' : Int32 → hp_T → Prop} (hQ : ∀ v0 v1, Q v0 v1 → Q' v0 v1) : wp_X8_wages x1 h Q → wp_X8_wages x1 h Q' := by
  unfold wp_X8_wages
  repeat' (with_reducible first | exact hQ _ _ | refine And.imp ?_ ?_ | refine mn_X8_isSpan (fun _ => ?_) | refine mn_X8_errs (fun _ _ => ?_) | refine mn_X8_keepsAside (fun _ => ?_) | exact mn_X8_wages_L22 hQ _ _ _ _ | refine Exists.imp (fun _ => ?_) | exact id | refine mo_a (fun _ => ?_))
