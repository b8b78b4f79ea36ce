/-! ===== PURE: the calls: check ===== -/
/-- what check finds: waits behind place i, T the row so far, W the waits -/
noncomputable def ckf (k : Int32) (W : st_T) : Nat → Nat → st_T → Option Nat
  | 0 => fun _ _ => none
  | r + 1 => fun i T => if kns (dy false T).1 k = W i then ckf k W r (i + 1) (dy false T).1 else some i
theorem w_check_L {n k : Nat} {W : st_T} (hn : n ≤ 24) (hk : k < 6) {Q : Int32 → hp_T → Prop} : ∀ (r i nn : Nat) (D : Int) (T : st_T) (h : hp_T), i + r = n → r < nn → D + r ≤ 100000 → Vl D T → Rl h 61 T → (∀ j, j < n → hp_i h (1 + 7) j = W j) → (ckf (nI k) W r i T = none → ∀ h1, fr PTK h h1 → Q 0 h1) → (∀ j, ckf (nI k) W r i T = some j → ∀ h1, fr PTK h h1 → Q (nI (1 + j)) h1) → wp_X7_check_L36 (nI k) Q nn (nI n) (nI i) h := by
  have k5 : (0 : Int32) ≤ nI k ∧ nI k ≤ 5 := by
    rw [i_le, i_le, i_nI (by omega)]
    have e0 : (0 : Int32).toInt = 0 := rfl
    have e5 : (5 : Int32).toInt = 5 := rfl
    omega
  intro r
  induction r with
  | zero =>
    intro i nn D T h hi hnn hD hV R hW q0 q1
    obtain ⟨nn, rfl⟩ : ∃ m, nn = m + 1 := ⟨nn - 1, by omega⟩
    unfold wp_X7_check_L36
    exact ⟨fun _ => q0 rfl h fr.refl, fun z => absurd (nI_le (by omega) (by omega)) z⟩
  | succ r ih =>
    intro i nn D T h hi hnn hD hV R hW q0 q1
    obtain ⟨nn, rfl⟩ : ∃ m, nn = m + 1 := ⟨nn - 1, by omega⟩
    unfold wp_X7_check_L36
    refine ⟨fun z => absurd z (nI_ge (by omega) (by omega)), fun _ => ?_⟩
    refine w_passDay (by decide) hV R ?_
    intro h1 f1 R1
    have V1 := Vl_dy false hV (by omega)
    have f1' : fr PTK h h1 := f1.mono fun a j z => PS_PTK (cr6 hV.1) z
    refine w_knowers V1.1 k5 R1.i ?_
    have hW1 : ∀ j, j < n → hp_i h1 (1 + 7) j = W j := fun j hj => by
      rw [f1'.2 (1 + 7) j (fun z => by
        rcases z with z | z
        · omega
        · exact absurd z (by decide))]
      exact hW j hj
    rw [nI_clamp (n := i) (by omega), hW1 i (by omega), show nI i + 1 = nI (i + 1) from nI_1 i, show (1 : Int32) + nI i = nI (1 + i) from nI_add 1 i]
    have e : ckf (nI k) W (r + 1) i T = if kns (dy false T).1 (nI k) = W i then ckf (nI k) W r (i + 1) (dy false T).1 else some i := rfl
    rw [e] at q0 q1
    refine ⟨vp_in_nI (by omega) (by decide), fun z => ?_, fun z => ?_⟩
    · rw [if_pos z] at q0 q1
      exact ih (i + 1) nn (D + 1) (dy false T).1 h1 (by omega) (by omega) (by omega) V1 R1 hW1 (fun y h2 f2 => q0 y h2 (f1'.trans f2)) (fun j y h2 f2 => q1 j y h2 (f1'.trans f2))
    · rw [if_neg z] at q1
      exact q1 i rfl h1 f1'
theorem m_check_L {n k : Nat} {W S : st_T} (hn : n ≤ 24) (hzS : ∀ j, 357 ≤ j → S j = 0) {Q : Int32 → hp_T → Prop} : ∀ (r i nn : Nat) (D : Int) (T : st_T) (h : hp_T), i + r = n → r + 1 < nn → D + r ≤ 100000 → Vl D T → hp_i h 106 = T → hp_i h 108 = S → (∀ j, 357 ≤ j → T j = 0) → (∀ j, j < n → T (213 + j) = W j) → (ckf (nI k) W r i T = none → ∀ h1, fr PMa h h1 → hp_i h1 106 = S → hp_i h1 108 = S → Q 0 h1) → (∀ j, ckf (nI k) W r i T = some j → ∀ h1, fr PMa h h1 → hp_i h1 106 = S → hp_i h1 108 = S → Q (nI (1 + j)) h1) → wp_X8_check_L39 (nI k) Q nn (nI n) (nI i) 1 h := by
  intro r
  induction r with
  | zero =>
    intro i nn D T h hi hnn hD hV hT h8 hz hW q0 q1
    obtain ⟨nn, rfl⟩ : ∃ m, nn = m + 1 := ⟨nn - 1, by omega⟩
    unfold wp_X8_check_L39
    refine ⟨fun z => absurd z (by decide), fun _ => ⟨fun _ => ?_, fun z => absurd (nI_le (by omega) (by omega)) z⟩⟩
    exact m_back h8 (fun j hj => ⟨hzS j hj, by rw [hT]; exact hz j hj⟩) (fun h1 f1 a b => ⟨fun y => absurd y (by decide), fun _ => q0 rfl h1 f1 a b⟩)
  | succ r ih =>
    intro i nn D T h hi hnn hD hV hT h8 hz hW q0 q1
    obtain ⟨nn, rfl⟩ : ∃ m, nn = m + 1 := ⟨nn - 1, by omega⟩
    unfold wp_X8_check_L39
    refine ⟨fun z => absurd z (by decide), fun _ => ⟨fun z => absurd z (nI_ge (by omega) (by omega)), fun _ => ?_⟩⟩
    refine m_day (dr := false) (by simp) hV hT ?_
    intro h1 f1 e1 _ _
    have V1 := Vl_dy false hV (by omega)
    have f1' : fr PMa h h1 := f1.mono fun a j z => PD_Ma z
    have e18 : hp_i h1 108 = S := by rw [f1.row (fun j z => by have z : PD 108 j := z; omega)]; exact h8
    have hW1 : ∀ j, j < n → (dy false T).1 (213 + j) = W j := fun j hj => by rw [dy_out hV (by omega) (by omega)]; exact hW j hj
    refine m_knowers V1.1 e1 ?_
    rw [show (213 : Int32) + nI i = nI (213 + i) from nI_add 213 i, nI_clamp (n := 213 + i) (by omega), e1, hW1 i (by omega), show nI i + 1 = nI (i + 1) from nI_1 i, Int32.add_zero]
    have e : ckf (nI k) W (r + 1) i T = if kns (dy false T).1 (nI k) = W i then ckf (nI k) W r (i + 1) (dy false T).1 else some i := rfl
    rw [e] at q0 q1
    refine ⟨vp_in_nI (by omega) (by decide), fun z => ?_, fun z => ?_⟩
    · rw [if_pos z] at q0 q1
      exact ih (i + 1) nn (D + 1) (dy false T).1 h1 (by omega) (by omega) (by omega) V1 e1 e18 (dy_z hV hz) hW1 (fun y h2 f2 => q0 y h2 (f1'.trans f2)) (fun j y h2 f2 => q1 j y h2 (f1'.trans f2))
    · rw [if_neg z] at q1
      obtain ⟨nn, rfl⟩ : ∃ m, nn = m + 1 := ⟨nn - 1, by omega⟩
      unfold wp_X8_check_L39
      refine ⟨fun _ => ?_, fun y => absurd rfl y⟩
      exact m_back e18 (fun j hj => ⟨hzS j hj, by rw [e1]; exact dy_z hV hz j hj⟩) (fun h2 f2 a b => ⟨fun _ => by rw [show (1 : Int32) + nI i = nI (1 + i) from nI_add 1 i]; exact q1 i rfl h2 (f1'.trans f2) a b, fun y => absurd rfl y⟩)
