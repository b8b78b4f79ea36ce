/-! ===== THE LAW ===== -/
def ab_X (G : ab_G) (F : ab_F) (b L : Nat) (xs : Nat → Int32) : Prop := match F with
  | (_, _, _, s, _, _, _, _, _) => va_X b L xs s s.heap ∧ b < s.heap.size ∧ ¬ G.1 ≤ b
section AB
variable {l : Launch} {G : ab_G} {F : ab_F} {R : Room} {cc : ByteArray} {nL : Nat} {own : String} {ret : Option FieldType} {nm : String} {Q : State → Prop} {k n : Nat} {h : hp_T} {lv : List (Nat × Value)} {st : List Value} {pc b L : Nat} {xs : Nat → Int32}
theorem ab_sld (C : ab_C G F R cc nL own ret nm) (hX : ab_X G F b L xs) {i : Int32} (hin : vp_in i L) {j : Nat} (hj : i.toNatClampNeg = j) (hd : decode cc pc = .ok (.iaload, 1)) (kk : ab_W l G F nL Q k n h lv (.int (xs j) :: st) (pc + 1)) : ab_W l G F nL Q k n h lv (.int i :: .ref b :: st) pc := by
  subst hj
  obtain ⟨p, e, R', s, m, args, below, meth, c⟩ := F
  obtain ⟨hR, hx, hb, hml, hown, hts, hU, hr, hlk, hnm, hB⟩ := C
  intro H locs ls hP hS hl
  exact va_sld hx hb hX.1 hX.2.1 hX.2.2 hS hin hd (kk H locs ls hP hS hl)
theorem ab_slen (C : ab_C G F R cc nL own ret nm) (hX : ab_X G F b L xs) (hd : decode cc pc = .ok (.arraylength, 1)) (kk : ab_W l G F nL Q k n h lv (.int (nI L) :: st) (pc + 1)) : ab_W l G F nL Q k n h lv (.ref b :: st) pc := by
  obtain ⟨p, e, R', s, m, args, below, meth, c⟩ := F
  obtain ⟨hR, hx, hb, hml, hown, hts, hU, hr, hlk, hnm, hB⟩ := C
  intro H locs ls hP hS hl
  exact va_slen hx hb hX.1 hX.2.1 hX.2.2 hS hd (kk H locs ls hP hS hl)
theorem ab_aloadS (C : ab_C G F R cc nL own ret nm) {q : Fin 4} {i : Nat} (j : Nat) {x : Nat} (hd : decode cc pc = .ok (.aload_n q, 1)) (hi : (q : Nat) = i) (hj : lv[j]? = some (i, .ref x)) (kk : ab_W l G F nL Q k n h lv (.ref x :: st) (pc + 1)) : ab_W l G F nL Q k n h lv st pc := ab_aload_n C j hd hi hj kk
end AB
def wp_L_law_L18 (b L : Nat) (xs : Nat → Int32) (Q : Prop) : Nat → Int32 → Nat → Nat → hp_T → Prop
  | 0 => fun _ _ _ _ => False
  | nn + 1 => fun y3 kc nc h => ((((nI L) - (6 : Int32)) < y3 → (kc ≤ 600000) ∧ (nc ≤ 7302249) ∧ Q) ∧ (¬ (((nI L) - (6 : Int32)) < y3) → (vp_in y3 L) ∧ ((((xs y3.toNatClampNeg) &&& (63 : Int32)) = (0 : Int32) → (vp_in (y3 + (1 : Int32)) L) ∧ ((kc + 0) ≤ 600000) ∧ ((nc + 0) ≤ 7302249) ∧ wp_X7_bunk (xs ((y3 + (1 : Int32)).toNatClampNeg)) h (fun v_20 h_21 => (vp_in (y3 + (1 : Int32)) L) ∧ (((kc + 0) + 0) ≤ 600000) ∧ (((nc + 0) + 0) ≤ 7302249) ∧ wp_X8_bunk (xs ((y3 + (1 : Int32)).toNatClampNeg)) h_21 (fun v_26 h_27 => ((v_20 = v_26 → (wp_L_law_L18 b L xs Q nn) (y3 + (6 : Int32)) ((kc + 0) + 0) ((nc + 0) + 0) h_27) ∧ (¬ (v_20 = v_26) → False))))) ∧ (¬ (((xs y3.toNatClampNeg) &&& (63 : Int32)) = (0 : Int32)) → ((((xs y3.toNatClampNeg) &&& (63 : Int32)) = (1 : Int32) → (vp_in (y3 + (1 : Int32)) L) ∧ (vp_in (y3 + (2 : Int32)) L) ∧ ((kc + 0) ≤ 600000) ∧ ((nc + 0) ≤ 7302249) ∧ wp_X7_bunkIs (xs ((y3 + (1 : Int32)).toNatClampNeg)) (xs ((y3 + (2 : Int32)).toNatClampNeg)) h (fun v_35 h_36 => (vp_in (y3 + (1 : Int32)) L) ∧ (vp_in (y3 + (2 : Int32)) L) ∧ (((kc + 0) + 0) ≤ 600000) ∧ (((nc + 0) + 0) ≤ 7302249) ∧ wp_X8_bunkIs (xs ((y3 + (1 : Int32)).toNatClampNeg)) (xs ((y3 + (2 : Int32)).toNatClampNeg)) h_36 (fun v_42 h_43 => ((v_35 = v_42 → (wp_L_law_L18 b L xs Q nn) (y3 + (6 : Int32)) ((kc + 0) + 0) ((nc + 0) + 0) h_43) ∧ (¬ (v_35 = v_42) → False))))) ∧ (¬ (((xs y3.toNatClampNeg) &&& (63 : Int32)) = (1 : Int32)) → ((((xs y3.toNatClampNeg) &&& (63 : Int32)) = (2 : Int32) → (vp_in (y3 + (1 : Int32)) L) ∧ (vp_in (y3 + (2 : Int32)) L) ∧ ((kc + 0) ≤ 600000) ∧ ((nc + 0) ≤ 7302249) ∧ wp_X7_as (xs ((y3 + (1 : Int32)).toNatClampNeg)) (xs ((y3 + (2 : Int32)).toNatClampNeg)) h (fun v_51 h_52 => (vp_in (y3 + (1 : Int32)) L) ∧ (vp_in (y3 + (2 : Int32)) L) ∧ (((kc + 0) + 0) ≤ 600000) ∧ (((nc + 0) + 0) ≤ 7302249) ∧ wp_X8_as (xs ((y3 + (1 : Int32)).toNatClampNeg)) (xs ((y3 + (2 : Int32)).toNatClampNeg)) h_52 (fun v_58 h_59 => ((v_51 = v_58 → (wp_L_law_L18 b L xs Q nn) (y3 + (6 : Int32)) ((kc + 0) + 0) ((nc + 0) + 0) h_59) ∧ (¬ (v_51 = v_58) → False))))) ∧ (¬ (((xs y3.toNatClampNeg) &&& (63 : Int32)) = (2 : Int32)) → ((((xs y3.toNatClampNeg) &&& (63 : Int32)) = (3 : Int32) → (vp_in (y3 + (1 : Int32)) L) ∧ (vp_in (y3 + (2 : Int32)) L) ∧ (vp_in (y3 + (3 : Int32)) L) ∧ ((kc + 0) ≤ 600000) ∧ ((nc + 0) ≤ 7302249) ∧ wp_X7_set (xs ((y3 + (1 : Int32)).toNatClampNeg)) (xs ((y3 + (2 : Int32)).toNatClampNeg)) (xs ((y3 + (3 : Int32)).toNatClampNeg)) h (fun v_68 h_69 => (vp_in (y3 + (1 : Int32)) L) ∧ (vp_in (y3 + (2 : Int32)) L) ∧ (vp_in (y3 + (3 : Int32)) L) ∧ (((kc + 0) + 0) ≤ 600000) ∧ (((nc + 0) + 0) ≤ 7302249) ∧ wp_X8_set (xs ((y3 + (1 : Int32)).toNatClampNeg)) (xs ((y3 + (2 : Int32)).toNatClampNeg)) (xs ((y3 + (3 : Int32)).toNatClampNeg)) h_69 (fun v_76 h_77 => ((v_68 = v_76 → (wp_L_law_L18 b L xs Q nn) (y3 + (6 : Int32)) ((kc + 0) + 0) ((nc + 0) + 0) h_77) ∧ (¬ (v_68 = v_76) → False))))) ∧ (¬ (((xs y3.toNatClampNeg) &&& (63 : Int32)) = (3 : Int32)) → ((((xs y3.toNatClampNeg) &&& (63 : Int32)) = (4 : Int32) → (vp_in (y3 + (1 : Int32)) L) ∧ (vp_in (y3 + (2 : Int32)) L) ∧ (vp_in (y3 + (3 : Int32)) L) ∧ ((kc + 0) ≤ 600000) ∧ ((nc + 0) ≤ 7302249) ∧ wp_X7_know (xs ((y3 + (1 : Int32)).toNatClampNeg)) (xs ((y3 + (2 : Int32)).toNatClampNeg)) (xs ((y3 + (3 : Int32)).toNatClampNeg)) h (fun v_86 h_87 => (vp_in (y3 + (1 : Int32)) L) ∧ (vp_in (y3 + (2 : Int32)) L) ∧ (vp_in (y3 + (3 : Int32)) L) ∧ (((kc + 0) + 0) ≤ 600000) ∧ (((nc + 0) + 0) ≤ 7302249) ∧ wp_X8_know (xs ((y3 + (1 : Int32)).toNatClampNeg)) (xs ((y3 + (2 : Int32)).toNatClampNeg)) (xs ((y3 + (3 : Int32)).toNatClampNeg)) h_87 (fun v_94 h_95 => ((v_86 = v_94 → (wp_L_law_L18 b L xs Q nn) (y3 + (6 : Int32)) ((kc + 0) + 0) ((nc + 0) + 0) h_95) ∧ (¬ (v_86 = v_94) → False))))) ∧ (¬ (((xs y3.toNatClampNeg) &&& (63 : Int32)) = (4 : Int32)) → ((((xs y3.toNatClampNeg) &&& (63 : Int32)) = (5 : Int32) → (vp_in (y3 + (1 : Int32)) L) ∧ (vp_in (y3 + (2 : Int32)) L) ∧ ((kc + 0) ≤ 600000) ∧ ((nc + 0) ≤ 7302249) ∧ wp_X7_roster (xs ((y3 + (1 : Int32)).toNatClampNeg)) (xs ((y3 + (2 : Int32)).toNatClampNeg)) h (fun v_103 h_104 => (vp_in (y3 + (1 : Int32)) L) ∧ (vp_in (y3 + (2 : Int32)) L) ∧ (((kc + 0) + 0) ≤ 600000) ∧ (((nc + 0) + 0) ≤ 7302249) ∧ wp_X8_roster (xs ((y3 + (1 : Int32)).toNatClampNeg)) (xs ((y3 + (2 : Int32)).toNatClampNeg)) h_104 (fun v_110 h_111 => ((v_103 = v_110 → (wp_L_law_L18 b L xs Q nn) (y3 + (6 : Int32)) ((kc + 0) + 0) ((nc + 0) + 0) h_111) ∧ (¬ (v_103 = v_110) → False))))) ∧ (¬ (((xs y3.toNatClampNeg) &&& (63 : Int32)) = (5 : Int32)) → ((((xs y3.toNatClampNeg) &&& (63 : Int32)) = (6 : Int32) → (vp_in (y3 + (1 : Int32)) L) ∧ ((kc + 0) ≤ 600000) ∧ ((nc + 0) ≤ 7302249) ∧ wp_X7_book (xs ((y3 + (1 : Int32)).toNatClampNeg)) h (fun v_118 h_119 => (vp_in (y3 + (1 : Int32)) L) ∧ (((kc + 0) + 0) ≤ 600000) ∧ (((nc + 0) + 0) ≤ 7302249) ∧ wp_X8_book (xs ((y3 + (1 : Int32)).toNatClampNeg)) h_119 (fun v_124 h_125 => ((v_118 = v_124 → (wp_L_law_L18 b L xs Q nn) (y3 + (6 : Int32)) ((kc + 0) + 0) ((nc + 0) + 0) h_125) ∧ (¬ (v_118 = v_124) → False))))) ∧ (¬ (((xs y3.toNatClampNeg) &&& (63 : Int32)) = (6 : Int32)) → ((((xs y3.toNatClampNeg) &&& (63 : Int32)) = (7 : Int32) → (vp_in (y3 + (1 : Int32)) L) ∧ (vp_in (y3 + (2 : Int32)) L) ∧ (vp_in (y3 + (3 : Int32)) L) ∧ ((kc + 0) ≤ 600000) ∧ ((nc + 0) ≤ 7302249) ∧ wp_X7_task (xs ((y3 + (1 : Int32)).toNatClampNeg)) (xs ((y3 + (2 : Int32)).toNatClampNeg)) (xs ((y3 + (3 : Int32)).toNatClampNeg)) h (fun v_134 h_135 => (vp_in (y3 + (1 : Int32)) L) ∧ (vp_in (y3 + (2 : Int32)) L) ∧ (vp_in (y3 + (3 : Int32)) L) ∧ (((kc + 0) + 0) ≤ 600000) ∧ (((nc + 0) + 0) ≤ 7302249) ∧ wp_X8_task (xs ((y3 + (1 : Int32)).toNatClampNeg)) (xs ((y3 + (2 : Int32)).toNatClampNeg)) (xs ((y3 + (3 : Int32)).toNatClampNeg)) h_135 (fun v_142 h_143 => ((v_134 = v_142 → (wp_L_law_L18 b L xs Q nn) (y3 + (6 : Int32)) ((kc + 0) + 0) ((nc + 0) + 0) h_143) ∧ (¬ (v_134 = v_142) → False))))) ∧ (¬ (((xs y3.toNatClampNeg) &&& (63 : Int32)) = (7 : Int32)) → ((((xs y3.toNatClampNeg) &&& (63 : Int32)) = (8 : Int32) → (vp_in (y3 + (1 : Int32)) L) ∧ (vp_in (y3 + (2 : Int32)) L) ∧ ((kc + 0) ≤ 600000) ∧ ((nc + 0) ≤ 7302249) ∧ wp_X7_taskIs (xs ((y3 + (1 : Int32)).toNatClampNeg)) (xs ((y3 + (2 : Int32)).toNatClampNeg)) h (fun v_151 h_152 => (vp_in (y3 + (1 : Int32)) L) ∧ (vp_in (y3 + (2 : Int32)) L) ∧ (((kc + 0) + 0) ≤ 600000) ∧ (((nc + 0) + 0) ≤ 7302249) ∧ wp_X8_taskIs (xs ((y3 + (1 : Int32)).toNatClampNeg)) (xs ((y3 + (2 : Int32)).toNatClampNeg)) h_152 (fun v_158 h_159 => ((v_151 = v_158 → (wp_L_law_L18 b L xs Q nn) (y3 + (6 : Int32)) ((kc + 0) + 0) ((nc + 0) + 0) h_159) ∧ (¬ (v_151 = v_158) → False))))) ∧ (¬ (((xs y3.toNatClampNeg) &&& (63 : Int32)) = (8 : Int32)) → ((((xs y3.toNatClampNeg) &&& (63 : Int32)) = (9 : Int32) → (vp_in (y3 + (1 : Int32)) L) ∧ (vp_in (y3 + (2 : Int32)) L) ∧ (vp_in (y3 + (3 : Int32)) L) ∧ ((kc + 0) ≤ 600000) ∧ ((nc + 0) ≤ 7302249) ∧ wp_X7_feed (((xs ((y3 + (1 : Int32)).toNatClampNeg)).toInt64 <<< ((32 : Int32).toInt64 &&& 63)) ||| ((xs ((y3 + (2 : Int32)).toNatClampNeg)).toInt64 &&& (4294967295 : Int64))) (xs ((y3 + (3 : Int32)).toNatClampNeg)) h (fun v_168 h_169 => (vp_in (y3 + (1 : Int32)) L) ∧ (vp_in (y3 + (2 : Int32)) L) ∧ (vp_in (y3 + (3 : Int32)) L) ∧ (((kc + 0) + 0) ≤ 600000) ∧ (((nc + 0) + 0) ≤ 7302249) ∧ wp_X8_feed (((xs ((y3 + (1 : Int32)).toNatClampNeg)).toInt64 <<< ((32 : Int32).toInt64 &&& 63)) ||| ((xs ((y3 + (2 : Int32)).toNatClampNeg)).toInt64 &&& (4294967295 : Int64))) (xs ((y3 + (3 : Int32)).toNatClampNeg)) h_169 (fun v_176 h_177 => ((v_168 = v_176 → (wp_L_law_L18 b L xs Q nn) (y3 + (6 : Int32)) ((kc + 0) + 0) ((nc + 0) + 0) h_177) ∧ (¬ (v_168 = v_176) → False))))) ∧ (¬ (((xs y3.toNatClampNeg) &&& (63 : Int32)) = (9 : Int32)) → ((((xs y3.toNatClampNeg) &&& (63 : Int32)) = (10 : Int32) → (vp_in (y3 + (1 : Int32)) L) ∧ ((kc + 3) ≤ 600000) ∧ ((nc + 122) ≤ 7302249) ∧ wp_X7_text (xs ((y3 + (1 : Int32)).toNatClampNeg)) h (fun v_184 h_185 => (vp_in (y3 + (1 : Int32)) L) ∧ (((kc + 3) + 0) ≤ 600000) ∧ (((nc + 122) + 0) ≤ 7302249) ∧ wp_X8_text (xs ((y3 + (1 : Int32)).toNatClampNeg)) h_185 (fun v_190 h_191 => ((v_184 = v_190 → (wp_L_law_L18 b L xs Q nn) (y3 + (6 : Int32)) ((kc + 3) + 0) ((nc + 122) + 0) h_191) ∧ (¬ (v_184 = v_190) → False))))) ∧ (¬ (((xs y3.toNatClampNeg) &&& (63 : Int32)) = (10 : Int32)) → ((((xs y3.toNatClampNeg) &&& (63 : Int32)) = (11 : Int32) → (vp_in (y3 + (1 : Int32)) L) ∧ ((kc + 0) ≤ 600000) ∧ ((nc + 0) ≤ 7302249) ∧ wp_X7_untell (xs ((y3 + (1 : Int32)).toNatClampNeg)) h (fun v_198 h_199 => (vp_in (y3 + (1 : Int32)) L) ∧ (((kc + 0) + 0) ≤ 600000) ∧ (((nc + 0) + 0) ≤ 7302249) ∧ wp_X8_untell (xs ((y3 + (1 : Int32)).toNatClampNeg)) h_199 (fun v_204 h_205 => ((v_198 = v_204 → (wp_L_law_L18 b L xs Q nn) (y3 + (6 : Int32)) ((kc + 0) + 0) ((nc + 0) + 0) h_205) ∧ (¬ (v_198 = v_204) → False))))) ∧ (¬ (((xs y3.toNatClampNeg) &&& (63 : Int32)) = (11 : Int32)) → ((((xs y3.toNatClampNeg) &&& (63 : Int32)) = (12 : Int32) → (vp_in (y3 + (1 : Int32)) L) ∧ ((kc + 0) ≤ 600000) ∧ ((nc + 0) ≤ 7302249) ∧ wp_X7_days (xs ((y3 + (1 : Int32)).toNatClampNeg)) h (fun v_212 h_213 => (vp_in (y3 + (1 : Int32)) L) ∧ (((kc + 0) + 0) ≤ 600000) ∧ (((nc + 0) + 0) ≤ 7302249) ∧ wp_X8_days (xs ((y3 + (1 : Int32)).toNatClampNeg)) h_213 (fun v_218 h_219 => ((v_212 = v_218 → (wp_L_law_L18 b L xs Q nn) (y3 + (6 : Int32)) ((kc + 0) + 0) ((nc + 0) + 0) h_219) ∧ (¬ (v_212 = v_218) → False))))) ∧ (¬ (((xs y3.toNatClampNeg) &&& (63 : Int32)) = (12 : Int32)) → ((((xs y3.toNatClampNeg) &&& (63 : Int32)) = (13 : Int32) → (vp_in (y3 + (1 : Int32)) L) ∧ ((kc + 0) ≤ 600000) ∧ ((nc + 0) ≤ 7302249) ∧ wp_X7_draws (xs ((y3 + (1 : Int32)).toNatClampNeg)) h (fun v_226 h_227 => (vp_in (y3 + (1 : Int32)) L) ∧ (((kc + 0) + 0) ≤ 600000) ∧ (((nc + 0) + 0) ≤ 7302249) ∧ wp_X8_draws (xs ((y3 + (1 : Int32)).toNatClampNeg)) h_227 (fun v_232 h_233 => ((v_226 = v_232 → (wp_L_law_L18 b L xs Q nn) (y3 + (6 : Int32)) ((kc + 0) + 0) ((nc + 0) + 0) h_233) ∧ (¬ (v_226 = v_232) → False))))) ∧ (¬ (((xs y3.toNatClampNeg) &&& (63 : Int32)) = (13 : Int32)) → ((((xs y3.toNatClampNeg) &&& (63 : Int32)) = (14 : Int32) → (vp_in (y3 + (1 : Int32)) L) ∧ ((kc + 0) ≤ 600000) ∧ ((nc + 0) ≤ 7302249) ∧ wp_X7_misheard (xs ((y3 + (1 : Int32)).toNatClampNeg)) h (fun v_240 h_241 => (vp_in (y3 + (1 : Int32)) L) ∧ (((kc + 0) + 0) ≤ 600000) ∧ (((nc + 0) + 0) ≤ 7302249) ∧ wp_X8_misheard (xs ((y3 + (1 : Int32)).toNatClampNeg)) h_241 (fun v_246 h_247 => ((v_240 = v_246 → (wp_L_law_L18 b L xs Q nn) (y3 + (6 : Int32)) ((kc + 0) + 0) ((nc + 0) + 0) h_247) ∧ (¬ (v_240 = v_246) → False))))) ∧ (¬ (((xs y3.toNatClampNeg) &&& (63 : Int32)) = (14 : Int32)) → ((((xs y3.toNatClampNeg) &&& (63 : Int32)) = (15 : Int32) → (vp_in (y3 + (1 : Int32)) L) ∧ ((kc + 0) ≤ 600000) ∧ ((nc + 0) ≤ 7302249) ∧ wp_X7_seed (xs ((y3 + (1 : Int32)).toNatClampNeg)) h (fun v_254 h_255 => (vp_in (y3 + (1 : Int32)) L) ∧ (((kc + 0) + 0) ≤ 600000) ∧ (((nc + 0) + 0) ≤ 7302249) ∧ wp_X8_seed (xs ((y3 + (1 : Int32)).toNatClampNeg)) h_255 (fun v_260 h_261 => ((v_254 = v_260 → (wp_L_law_L18 b L xs Q nn) (y3 + (6 : Int32)) ((kc + 0) + 0) ((nc + 0) + 0) h_261) ∧ (¬ (v_254 = v_260) → False))))) ∧ (¬ (((xs y3.toNatClampNeg) &&& (63 : Int32)) = (15 : Int32)) → ((((xs y3.toNatClampNeg) &&& (63 : Int32)) = (16 : Int32) → (vp_in (y3 + (1 : Int32)) L) ∧ (vp_in (y3 + (2 : Int32)) L) ∧ (vp_in (y3 + (3 : Int32)) L) ∧ ((kc + 0) ≤ 600000) ∧ ((nc + 0) ≤ 7302249) ∧ wp_X7_then (xs ((y3 + (1 : Int32)).toNatClampNeg)) (xs ((y3 + (2 : Int32)).toNatClampNeg)) (xs ((y3 + (3 : Int32)).toNatClampNeg)) h (fun v_270 h_271 => (vp_in (y3 + (1 : Int32)) L) ∧ (vp_in (y3 + (2 : Int32)) L) ∧ (vp_in (y3 + (3 : Int32)) L) ∧ (((kc + 0) + 0) ≤ 600000) ∧ (((nc + 0) + 0) ≤ 7302249) ∧ wp_X8_then (xs ((y3 + (1 : Int32)).toNatClampNeg)) (xs ((y3 + (2 : Int32)).toNatClampNeg)) (xs ((y3 + (3 : Int32)).toNatClampNeg)) h_271 (fun v_278 h_279 => ((v_270 = v_278 → (wp_L_law_L18 b L xs Q nn) (y3 + (6 : Int32)) ((kc + 0) + 0) ((nc + 0) + 0) h_279) ∧ (¬ (v_270 = v_278) → False))))) ∧ (¬ (((xs y3.toNatClampNeg) &&& (63 : Int32)) = (16 : Int32)) → ((((xs y3.toNatClampNeg) &&& (63 : Int32)) = (17 : Int32) → (vp_in (y3 + (1 : Int32)) L) ∧ (vp_in (y3 + (2 : Int32)) L) ∧ (vp_in (y3 + (3 : Int32)) L) ∧ ((kc + 0) ≤ 600000) ∧ ((nc + 0) ≤ 7302249) ∧ wp_X7_thenTask (xs ((y3 + (1 : Int32)).toNatClampNeg)) (xs ((y3 + (2 : Int32)).toNatClampNeg)) (xs ((y3 + (3 : Int32)).toNatClampNeg)) h (fun v_288 h_289 => (vp_in (y3 + (1 : Int32)) L) ∧ (vp_in (y3 + (2 : Int32)) L) ∧ (vp_in (y3 + (3 : Int32)) L) ∧ (((kc + 0) + 0) ≤ 600000) ∧ (((nc + 0) + 0) ≤ 7302249) ∧ wp_X8_thenTask (xs ((y3 + (1 : Int32)).toNatClampNeg)) (xs ((y3 + (2 : Int32)).toNatClampNeg)) (xs ((y3 + (3 : Int32)).toNatClampNeg)) h_289 (fun v_296 h_297 => ((v_288 = v_296 → (wp_L_law_L18 b L xs Q nn) (y3 + (6 : Int32)) ((kc + 0) + 0) ((nc + 0) + 0) h_297) ∧ (¬ (v_288 = v_296) → False))))) ∧ (¬ (((xs y3.toNatClampNeg) &&& (63 : Int32)) = (17 : Int32)) → ((((xs y3.toNatClampNeg) &&& (63 : Int32)) = (18 : Int32) → (vp_in (y3 + (1 : Int32)) L) ∧ (vp_in (y3 + (2 : Int32)) L) ∧ ((kc + 0) ≤ 600000) ∧ ((nc + 0) ≤ 7302249) ∧ wp_X7_lost (xs ((y3 + (1 : Int32)).toNatClampNeg)) (xs ((y3 + (2 : Int32)).toNatClampNeg)) h (fun v_305 h_306 => (vp_in (y3 + (1 : Int32)) L) ∧ (vp_in (y3 + (2 : Int32)) L) ∧ (((kc + 0) + 0) ≤ 600000) ∧ (((nc + 0) + 0) ≤ 7302249) ∧ wp_X8_lost (xs ((y3 + (1 : Int32)).toNatClampNeg)) (xs ((y3 + (2 : Int32)).toNatClampNeg)) h_306 (fun v_312 h_313 => ((v_305 = v_312 → (wp_L_law_L18 b L xs Q nn) (y3 + (6 : Int32)) ((kc + 0) + 0) ((nc + 0) + 0) h_313) ∧ (¬ (v_305 = v_312) → False))))) ∧ (¬ (((xs y3.toNatClampNeg) &&& (63 : Int32)) = (18 : Int32)) → ((((xs y3.toNatClampNeg) &&& (63 : Int32)) = (19 : Int32) → (vp_in (y3 + (1 : Int32)) L) ∧ (vp_in (y3 + (2 : Int32)) L) ∧ (vp_in (y3 + (3 : Int32)) L) ∧ ((kc + 0) ≤ 600000) ∧ ((nc + 0) ≤ 7302249) ∧ wp_X7_teachers (xs ((y3 + (1 : Int32)).toNatClampNeg)) (xs ((y3 + (2 : Int32)).toNatClampNeg)) (xs ((y3 + (3 : Int32)).toNatClampNeg)) h (fun v_322 h_323 => (vp_in (y3 + (1 : Int32)) L) ∧ (vp_in (y3 + (2 : Int32)) L) ∧ (vp_in (y3 + (3 : Int32)) L) ∧ (((kc + 0) + 0) ≤ 600000) ∧ (((nc + 0) + 0) ≤ 7302249) ∧ wp_X8_teachers (xs ((y3 + (1 : Int32)).toNatClampNeg)) (xs ((y3 + (2 : Int32)).toNatClampNeg)) (xs ((y3 + (3 : Int32)).toNatClampNeg)) h_323 (fun v_330 h_331 => ((v_322 = v_330 → (wp_L_law_L18 b L xs Q nn) (y3 + (6 : Int32)) ((kc + 0) + 0) ((nc + 0) + 0) h_331) ∧ (¬ (v_322 = v_330) → False))))) ∧ (¬ (((xs y3.toNatClampNeg) &&& (63 : Int32)) = (19 : Int32)) → ((((xs y3.toNatClampNeg) &&& (63 : Int32)) = (20 : Int32) → (vp_in (y3 + (1 : Int32)) L) ∧ ((kc + 0) ≤ 600000) ∧ ((nc + 0) ≤ 7302249) ∧ wp_X7_storm (xs ((y3 + (1 : Int32)).toNatClampNeg)) h (fun v_338 h_339 => (vp_in (y3 + (1 : Int32)) L) ∧ (((kc + 0) + 0) ≤ 600000) ∧ (((nc + 0) + 0) ≤ 7302249) ∧ wp_X8_storm (xs ((y3 + (1 : Int32)).toNatClampNeg)) h_339 (fun v_344 h_345 => ((v_338 = v_344 → (wp_L_law_L18 b L xs Q nn) (y3 + (6 : Int32)) ((kc + 0) + 0) ((nc + 0) + 0) h_345) ∧ (¬ (v_338 = v_344) → False))))) ∧ (¬ (((xs y3.toNatClampNeg) &&& (63 : Int32)) = (20 : Int32)) → ((((xs y3.toNatClampNeg) &&& (63 : Int32)) = (21 : Int32) → (vp_in (y3 + (1 : Int32)) L) ∧ (vp_in (y3 + (2 : Int32)) L) ∧ ((kc + 0) ≤ 600000) ∧ ((nc + 0) ≤ 7302249) ∧ wp_X7_saves (xs ((y3 + (1 : Int32)).toNatClampNeg)) (xs ((y3 + (2 : Int32)).toNatClampNeg)) h (fun v_353 h_354 => (vp_in (y3 + (1 : Int32)) L) ∧ (vp_in (y3 + (2 : Int32)) L) ∧ (((kc + 0) + 0) ≤ 600000) ∧ (((nc + 0) + 0) ≤ 7302249) ∧ wp_X8_saves (xs ((y3 + (1 : Int32)).toNatClampNeg)) (xs ((y3 + (2 : Int32)).toNatClampNeg)) h_354 (fun v_360 h_361 => ((v_353 = v_360 → (wp_L_law_L18 b L xs Q nn) (y3 + (6 : Int32)) ((kc + 0) + 0) ((nc + 0) + 0) h_361) ∧ (¬ (v_353 = v_360) → False))))) ∧ (¬ (((xs y3.toNatClampNeg) &&& (63 : Int32)) = (21 : Int32)) → ((((xs y3.toNatClampNeg) &&& (63 : Int32)) = (22 : Int32) → (vp_in (y3 + (1 : Int32)) L) ∧ (vp_in (y3 + (2 : Int32)) L) ∧ ((kc + 0) ≤ 600000) ∧ ((nc + 0) ≤ 7302249) ∧ wp_X7_changes (xs ((y3 + (1 : Int32)).toNatClampNeg)) (xs ((y3 + (2 : Int32)).toNatClampNeg)) h (fun v_369 h_370 => (vp_in (y3 + (1 : Int32)) L) ∧ (vp_in (y3 + (2 : Int32)) L) ∧ (((kc + 0) + 0) ≤ 600000) ∧ (((nc + 0) + 0) ≤ 7302249) ∧ wp_X8_changes (xs ((y3 + (1 : Int32)).toNatClampNeg)) (xs ((y3 + (2 : Int32)).toNatClampNeg)) h_370 (fun v_376 h_377 => ((v_369 = v_376 → (wp_L_law_L18 b L xs Q nn) (y3 + (6 : Int32)) ((kc + 0) + 0) ((nc + 0) + 0) h_377) ∧ (¬ (v_369 = v_376) → False))))) ∧ (¬ (((xs y3.toNatClampNeg) &&& (63 : Int32)) = (22 : Int32)) → ((((xs y3.toNatClampNeg) &&& (63 : Int32)) = (23 : Int32) → (vp_in (y3 + (1 : Int32)) L) ∧ (vp_in (y3 + (2 : Int32)) L) ∧ ((kc + 0) ≤ 600000) ∧ ((nc + 0) ≤ 7302249) ∧ wp_X7_began (xs ((y3 + (1 : Int32)).toNatClampNeg)) (xs ((y3 + (2 : Int32)).toNatClampNeg)) h (fun v_385 h_386 => (vp_in (y3 + (1 : Int32)) L) ∧ (vp_in (y3 + (2 : Int32)) L) ∧ (((kc + 0) + 0) ≤ 600000) ∧ (((nc + 0) + 0) ≤ 7302249) ∧ wp_X8_began (xs ((y3 + (1 : Int32)).toNatClampNeg)) (xs ((y3 + (2 : Int32)).toNatClampNeg)) h_386 (fun v_392 h_393 => ((v_385 = v_392 → (wp_L_law_L18 b L xs Q nn) (y3 + (6 : Int32)) ((kc + 0) + 0) ((nc + 0) + 0) h_393) ∧ (¬ (v_385 = v_392) → False))))) ∧ (¬ (((xs y3.toNatClampNeg) &&& (63 : Int32)) = (23 : Int32)) → ((((xs y3.toNatClampNeg) &&& (63 : Int32)) = (24 : Int32) → (vp_in (y3 + (1 : Int32)) L) ∧ (vp_in (y3 + (2 : Int32)) L) ∧ ((kc + 0) ≤ 600000) ∧ ((nc + 0) ≤ 7302249) ∧ wp_X7_handed (xs ((y3 + (1 : Int32)).toNatClampNeg)) (xs ((y3 + (2 : Int32)).toNatClampNeg)) h (fun v_401 h_402 => (vp_in (y3 + (1 : Int32)) L) ∧ (vp_in (y3 + (2 : Int32)) L) ∧ (((kc + 0) + 0) ≤ 600000) ∧ (((nc + 0) + 0) ≤ 7302249) ∧ wp_X8_handed (xs ((y3 + (1 : Int32)).toNatClampNeg)) (xs ((y3 + (2 : Int32)).toNatClampNeg)) h_402 (fun v_408 h_409 => ((v_401 = v_408 → (wp_L_law_L18 b L xs Q nn) (y3 + (6 : Int32)) ((kc + 0) + 0) ((nc + 0) + 0) h_409) ∧ (¬ (v_401 = v_408) → False))))) ∧ (¬ (((xs y3.toNatClampNeg) &&& (63 : Int32)) = (24 : Int32)) → ((((xs y3.toNatClampNeg) &&& (63 : Int32)) = (25 : Int32) → (vp_in (y3 + (1 : Int32)) L) ∧ ((kc + 0) ≤ 600000) ∧ ((nc + 0) ≤ 7302249) ∧ wp_X7_wages (xs ((y3 + (1 : Int32)).toNatClampNeg)) h (fun v_416 h_417 => (vp_in (y3 + (1 : Int32)) L) ∧ (((kc + 0) + 0) ≤ 600000) ∧ (((nc + 0) + 0) ≤ 7302249) ∧ wp_X8_wages (xs ((y3 + (1 : Int32)).toNatClampNeg)) h_417 (fun v_422 h_423 => ((v_416 = v_422 → (wp_L_law_L18 b L xs Q nn) (y3 + (6 : Int32)) ((kc + 0) + 0) ((nc + 0) + 0) h_423) ∧ (¬ (v_416 = v_422) → False))))) ∧ (¬ (((xs y3.toNatClampNeg) &&& (63 : Int32)) = (25 : Int32)) → ((((xs y3.toNatClampNeg) &&& (63 : Int32)) = (26 : Int32) → (vp_in (y3 + (1 : Int32)) L) ∧ (vp_in (y3 + (2 : Int32)) L) ∧ (vp_in (y3 + (3 : Int32)) L) ∧ ((kc + 0) ≤ 600000) ∧ ((nc + 0) ≤ 7302249) ∧ wp_X7_voice (xs ((y3 + (1 : Int32)).toNatClampNeg)) (xs ((y3 + (2 : Int32)).toNatClampNeg)) (xs ((y3 + (3 : Int32)).toNatClampNeg)) h (fun v_432 h_433 => (vp_in (y3 + (1 : Int32)) L) ∧ (vp_in (y3 + (2 : Int32)) L) ∧ (vp_in (y3 + (3 : Int32)) L) ∧ (((kc + 0) + 0) ≤ 600000) ∧ (((nc + 0) + 0) ≤ 7302249) ∧ wp_X8_voice (xs ((y3 + (1 : Int32)).toNatClampNeg)) (xs ((y3 + (2 : Int32)).toNatClampNeg)) (xs ((y3 + (3 : Int32)).toNatClampNeg)) h_433 (fun v_440 h_441 => ((v_432 = v_440 → (wp_L_law_L18 b L xs Q nn) (y3 + (6 : Int32)) ((kc + 0) + 0) ((nc + 0) + 0) h_441) ∧ (¬ (v_432 = v_440) → False))))) ∧ (¬ (((xs y3.toNatClampNeg) &&& (63 : Int32)) = (26 : Int32)) → ((((xs y3.toNatClampNeg) &&& (63 : Int32)) = (27 : Int32) → (vp_in (y3 + (1 : Int32)) L) ∧ ((kc + 0) ≤ 600000) ∧ ((nc + 0) ≤ 7302249) ∧ wp_X7_body (xs ((y3 + (1 : Int32)).toNatClampNeg)) h (fun v_448 h_449 => (vp_in (y3 + (1 : Int32)) L) ∧ (((kc + 0) + 0) ≤ 600000) ∧ (((nc + 0) + 0) ≤ 7302249) ∧ wp_X8_body (xs ((y3 + (1 : Int32)).toNatClampNeg)) h_449 (fun v_454 h_455 => ((v_448 = v_454 → (wp_L_law_L18 b L xs Q nn) (y3 + (6 : Int32)) ((kc + 0) + 0) ((nc + 0) + 0) h_455) ∧ (¬ (v_448 = v_454) → False))))) ∧ (¬ (((xs y3.toNatClampNeg) &&& (63 : Int32)) = (27 : Int32)) → ((((xs y3.toNatClampNeg) &&& (63 : Int32)) = (28 : Int32) → (vp_in (y3 + (1 : Int32)) L) ∧ (vp_in (y3 + (2 : Int32)) L) ∧ (vp_in (y3 + (3 : Int32)) L) ∧ ((kc + 0) ≤ 600000) ∧ ((nc + 0) ≤ 7302249) ∧ wp_X7_sheet (xs ((y3 + (1 : Int32)).toNatClampNeg)) (xs ((y3 + (2 : Int32)).toNatClampNeg)) (xs ((y3 + (3 : Int32)).toNatClampNeg)) h (fun v_464 h_465 => (vp_in (y3 + (1 : Int32)) L) ∧ (vp_in (y3 + (2 : Int32)) L) ∧ (vp_in (y3 + (3 : Int32)) L) ∧ (((kc + 0) + 0) ≤ 600000) ∧ (((nc + 0) + 0) ≤ 7302249) ∧ wp_X8_sheet (xs ((y3 + (1 : Int32)).toNatClampNeg)) (xs ((y3 + (2 : Int32)).toNatClampNeg)) (xs ((y3 + (3 : Int32)).toNatClampNeg)) h_465 (fun v_472 h_473 => ((v_464 = v_472 → (wp_L_law_L18 b L xs Q nn) (y3 + (6 : Int32)) ((kc + 0) + 0) ((nc + 0) + 0) h_473) ∧ (¬ (v_464 = v_472) → False))))) ∧ (¬ (((xs y3.toNatClampNeg) &&& (63 : Int32)) = (28 : Int32)) → ((((xs y3.toNatClampNeg) &&& (63 : Int32)) = (29 : Int32) → (vp_in (y3 + (1 : Int32)) L) ∧ (vp_in (y3 + (2 : Int32)) L) ∧ (vp_in (y3 + (3 : Int32)) L) ∧ ((kc + 0) ≤ 600000) ∧ ((nc + 0) ≤ 7302249) ∧ wp_X7_put (xs ((y3 + (1 : Int32)).toNatClampNeg)) (xs ((y3 + (2 : Int32)).toNatClampNeg)) (xs ((y3 + (3 : Int32)).toNatClampNeg)) h (fun v_482 h_483 => (vp_in (y3 + (1 : Int32)) L) ∧ (vp_in (y3 + (2 : Int32)) L) ∧ (vp_in (y3 + (3 : Int32)) L) ∧ (((kc + 0) + 0) ≤ 600000) ∧ (((nc + 0) + 0) ≤ 7302249) ∧ wp_X8_put (xs ((y3 + (1 : Int32)).toNatClampNeg)) (xs ((y3 + (2 : Int32)).toNatClampNeg)) (xs ((y3 + (3 : Int32)).toNatClampNeg)) h_483 (fun v_490 h_491 => ((v_482 = v_490 → (wp_L_law_L18 b L xs Q nn) (y3 + (6 : Int32)) ((kc + 0) + 0) ((nc + 0) + 0) h_491) ∧ (¬ (v_482 = v_490) → False))))) ∧ (¬ (((xs y3.toNatClampNeg) &&& (63 : Int32)) = (29 : Int32)) → ((((xs y3.toNatClampNeg) &&& (63 : Int32)) = (30 : Int32) → (vp_in (y3 + (1 : Int32)) L) ∧ (vp_in (y3 + (2 : Int32)) L) ∧ (vp_in (y3 + (3 : Int32)) L) ∧ (vp_in (y3 + (4 : Int32)) L) ∧ (vp_in (y3 + (5 : Int32)) L) ∧ ((kc + 0) ≤ 600000) ∧ ((nc + 0) ≤ 7302249) ∧ wp_X7_move (xs ((y3 + (1 : Int32)).toNatClampNeg)) (xs ((y3 + (2 : Int32)).toNatClampNeg)) (xs ((y3 + (3 : Int32)).toNatClampNeg)) (xs ((y3 + (4 : Int32)).toNatClampNeg)) (xs ((y3 + (5 : Int32)).toNatClampNeg)) h (fun v_502 h_503 => (vp_in (y3 + (1 : Int32)) L) ∧ (vp_in (y3 + (2 : Int32)) L) ∧ (vp_in (y3 + (3 : Int32)) L) ∧ (vp_in (y3 + (4 : Int32)) L) ∧ (vp_in (y3 + (5 : Int32)) L) ∧ (((kc + 0) + 0) ≤ 600000) ∧ (((nc + 0) + 0) ≤ 7302249) ∧ wp_X8_move (xs ((y3 + (1 : Int32)).toNatClampNeg)) (xs ((y3 + (2 : Int32)).toNatClampNeg)) (xs ((y3 + (3 : Int32)).toNatClampNeg)) (xs ((y3 + (4 : Int32)).toNatClampNeg)) (xs ((y3 + (5 : Int32)).toNatClampNeg)) h_503 (fun v_512 h_513 => ((v_502 = v_512 → (wp_L_law_L18 b L xs Q nn) (y3 + (6 : Int32)) ((kc + 0) + 0) ((nc + 0) + 0) h_513) ∧ (¬ (v_502 = v_512) → False))))) ∧ (¬ (((xs y3.toNatClampNeg) &&& (63 : Int32)) = (30 : Int32)) → ((((xs y3.toNatClampNeg) &&& (63 : Int32)) = (31 : Int32) → (vp_in (y3 + (1 : Int32)) L) ∧ ((kc + 0) ≤ 600000) ∧ ((nc + 0) ≤ 7302249) ∧ wp_X7_rosters (xs ((y3 + (1 : Int32)).toNatClampNeg)) h (fun v_520 h_521 => (vp_in (y3 + (1 : Int32)) L) ∧ (((kc + 0) + 0) ≤ 600000) ∧ (((nc + 0) + 0) ≤ 7302249) ∧ wp_X8_rosters (xs ((y3 + (1 : Int32)).toNatClampNeg)) h_521 (fun v_526 h_527 => ((v_520 = v_526 → (wp_L_law_L18 b L xs Q nn) (y3 + (6 : Int32)) ((kc + 0) + 0) ((nc + 0) + 0) h_527) ∧ (¬ (v_520 = v_526) → False))))) ∧ (¬ (((xs y3.toNatClampNeg) &&& (63 : Int32)) = (31 : Int32)) → ((((xs y3.toNatClampNeg) &&& (63 : Int32)) = (32 : Int32) → (vp_in (y3 + (1 : Int32)) L) ∧ ((kc + 0) ≤ 600000) ∧ ((nc + 0) ≤ 7302249) ∧ wp_X7_judge (xs ((y3 + (1 : Int32)).toNatClampNeg)) h (fun v_534 h_535 => (vp_in (y3 + (1 : Int32)) L) ∧ (((kc + 0) + 0) ≤ 600000) ∧ (((nc + 0) + 0) ≤ 7302249) ∧ wp_X8_judge (xs ((y3 + (1 : Int32)).toNatClampNeg)) h_535 (fun v_540 h_541 => ((v_534 = v_540 → (wp_L_law_L18 b L xs Q nn) (y3 + (6 : Int32)) ((kc + 0) + 0) ((nc + 0) + 0) h_541) ∧ (¬ (v_534 = v_540) → False))))) ∧ (¬ (((xs y3.toNatClampNeg) &&& (63 : Int32)) = (32 : Int32)) → ((((xs y3.toNatClampNeg) &&& (63 : Int32)) = (33 : Int32) → ((kc + 0) ≤ 600000) ∧ ((nc + 0) ≤ 7302249) ∧ wp_X7_image h (fun v_547 h_548 => (((kc + 0) + 0) ≤ 600000) ∧ (((nc + 0) + 0) ≤ 7302249) ∧ wp_X8_image h_548 (fun v_552 h_553 => ((v_547 = v_552 → (wp_L_law_L18 b L xs Q nn) (y3 + (6 : Int32)) ((kc + 0) + 0) ((nc + 0) + 0) h_553) ∧ (¬ (v_547 = v_552) → False))))) ∧ (¬ (((xs y3.toNatClampNeg) &&& (63 : Int32)) = (33 : Int32)) → ((((xs y3.toNatClampNeg) &&& (63 : Int32)) = (34 : Int32) → ((kc + 0) ≤ 600000) ∧ ((nc + 0) ≤ 7302249) ∧ wp_X7_restore h (fun v_559 h_560 => (((kc + 0) + 0) ≤ 600000) ∧ (((nc + 0) + 0) ≤ 7302249) ∧ wp_X8_restore h_560 (fun v_564 h_565 => ((v_559 = v_564 → (wp_L_law_L18 b L xs Q nn) (y3 + (6 : Int32)) ((kc + 0) + 0) ((nc + 0) + 0) h_565) ∧ (¬ (v_559 = v_564) → False))))) ∧ (¬ (((xs y3.toNatClampNeg) &&& (63 : Int32)) = (34 : Int32)) → ((((xs y3.toNatClampNeg) &&& (63 : Int32)) = (35 : Int32) → (vp_in (y3 + (1 : Int32)) L) ∧ ((kc + 0) ≤ 600000) ∧ ((nc + 0) ≤ 7302249) ∧ wp_X7_tell (xs ((y3 + (1 : Int32)).toNatClampNeg)) h (fun v_572 h_573 => (vp_in (y3 + (1 : Int32)) L) ∧ (((kc + 0) + 0) ≤ 600000) ∧ (((nc + 0) + 0) ≤ 7302249) ∧ wp_X8_tell (xs ((y3 + (1 : Int32)).toNatClampNeg)) h_573 (fun v_578 h_579 => ((v_572 = v_578 → (wp_L_law_L18 b L xs Q nn) (y3 + (6 : Int32)) ((kc + 0) + 0) ((nc + 0) + 0) h_579) ∧ (¬ (v_572 = v_578) → False))))) ∧ (¬ (((xs y3.toNatClampNeg) &&& (63 : Int32)) = (35 : Int32)) → ((((xs y3.toNatClampNeg) &&& (63 : Int32)) = (36 : Int32) → (vp_in (y3 + (1 : Int32)) L) ∧ ((kc + 0) ≤ 600000) ∧ ((nc + 0) ≤ 7302249) ∧ wp_X7_check (xs ((y3 + (1 : Int32)).toNatClampNeg)) h (fun v_586 h_587 => (vp_in (y3 + (1 : Int32)) L) ∧ (((kc + 0) + 0) ≤ 600000) ∧ (((nc + 0) + 0) ≤ 7302249) ∧ wp_X8_check (xs ((y3 + (1 : Int32)).toNatClampNeg)) h_587 (fun v_592 h_593 => ((v_586 = v_592 → (wp_L_law_L18 b L xs Q nn) (y3 + (6 : Int32)) ((kc + 0) + 0) ((nc + 0) + 0) h_593) ∧ (¬ (v_586 = v_592) → False))))) ∧ (¬ (((xs y3.toNatClampNeg) &&& (63 : Int32)) = (36 : Int32)) → ((((xs y3.toNatClampNeg) &&& (63 : Int32)) = (37 : Int32) → (vp_in (y3 + (1 : Int32)) L) ∧ ((kc + 0) ≤ 600000) ∧ ((nc + 0) ≤ 7302249) ∧ wp_X7_count (xs ((y3 + (1 : Int32)).toNatClampNeg)) h (fun v_600 h_601 => (vp_in (y3 + (1 : Int32)) L) ∧ (((kc + 0) + 0) ≤ 600000) ∧ (((nc + 0) + 0) ≤ 7302249) ∧ wp_X8_count (xs ((y3 + (1 : Int32)).toNatClampNeg)) h_601 (fun v_606 h_607 => ((v_600 = v_606 → (wp_L_law_L18 b L xs Q nn) (y3 + (6 : Int32)) ((kc + 0) + 0) ((nc + 0) + 0) h_607) ∧ (¬ (v_600 = v_606) → False))))) ∧ (¬ (((xs y3.toNatClampNeg) &&& (63 : Int32)) = (37 : Int32)) → ((((xs y3.toNatClampNeg) &&& (63 : Int32)) = (38 : Int32) → (vp_in (y3 + (1 : Int32)) L) ∧ ((kc + 0) ≤ 600000) ∧ ((nc + 0) ≤ 7302249) ∧ wp_X7_told (xs ((y3 + (1 : Int32)).toNatClampNeg)) h (fun v_614 h_615 => (vp_in (y3 + (1 : Int32)) L) ∧ (((kc + 0) + 0) ≤ 600000) ∧ (((nc + 0) + 0) ≤ 7302249) ∧ wp_X8_told (xs ((y3 + (1 : Int32)).toNatClampNeg)) h_615 (fun v_620 h_621 => ((v_614 = v_620 → (wp_L_law_L18 b L xs Q nn) (y3 + (6 : Int32)) ((kc + 0) + 0) ((nc + 0) + 0) h_621) ∧ (¬ (v_614 = v_620) → False))))) ∧ (¬ (((xs y3.toNatClampNeg) &&& (63 : Int32)) = (38 : Int32)) → (wp_L_law_L18 b L xs Q nn) (y3 + (6 : Int32)) kc nc h))))))))))))))))))))))))))))))))))))))))))))))))))))))))))))))))))))))))))))))))
set_option maxRecDepth 100000 in
set_option maxHeartbeats 4000000 in
theorem bt_L_law_L18 {l : Launch} {G : ab_G} {Z : State → Prop} {nm : String} {F : ab_F} {b : Nat} {L : Nat} {xs : Nat → Int32} {Q : Prop}  (C : ab_C G F room_1 cL_law 4 RL (some .boolean) nm) (hX : ab_X G F b L xs) (hR : ∀ (k n : Nat) (h : hp_T) (lv : List (Nat × Value)) (pc : Nat), decode cL_law pc = .ok (.ireturn, 1) → k ≤ 600000 → n ≤ 7302249 → ab_W l G F 4 Z k n h lv [.int 1] pc)  : ∀ (nn : Nat) (y3 : Int32) (kc : Nat) (nc : Nat) (h : hp_T), wf h → wp_L_law_L18 b L xs Q nn y3 kc nc h → ab_W l G F 4 Z kc nc h [(0, .ref b), (1, .ref (G.1 + 0)), (2, .ref (G.1 + 105)), (3, .int y3)] [] 18 := by
  intro nn
  induction nn with
  | zero =>
    intro y3 kc nc h hw f
    exact absurd f id
  | succ nn ih =>
    intro y3 kc nc h hw f
    unfold wp_L_law_L18 at f
    refine ab_iload_n C 3 dL_law_18 rfl rfl ?_
    refine ab_aload_n C 0 dL_law_19 rfl rfl ?_
    refine ab_slen C hX dL_law_20 ?_
    refine ab_bipush C (v := (6 : Int32)) dL_law_21 (by decide) ?_
    refine ab_isub C dL_law_23 ?_
    refine ab_icmp_gt C (tgt := 1437) dL_law_24 (by decide) (fun c_12 => ?_) (fun c_12 => ?_)
    · have f := f.1 c_12
      refine ab_iconst C (v := (1 : Int32)) dL_law_1437 (by decide) ?_
      obtain ⟨c_13, c_14, f⟩ := f
      exact hR _ _ _ _ _ dL_law_1438 c_13 c_14
    · have f := f.2 c_12
      refine ab_aload_n C 0 dL_law_27 rfl rfl ?_
      refine ab_iload_n C 3 dL_law_28 rfl rfl ?_
      obtain ⟨c_15, f⟩ := f
      refine ab_sld C hX c_15 (j := y3.toNatClampNeg) rfl dL_law_29 ?_
      refine ab_bipush C (v := (63 : Int32)) dL_law_30 (by decide) ?_
      refine ab_iand C dL_law_32 ?_
      by_cases c_16 : ((xs y3.toNatClampNeg) &&& (63 : Int32)) = (0 : Int32)
      · have f := f.1 c_16
        refine ab_tabC C (off := 171) (tgt := 204) dL_law_33 c_16 (by decide) (by decide) (by decide) (by decide) ?_
        refine ab_aload_n C 1 dL_law_204 rfl rfl ?_
        refine ab_aload_n C 0 dL_law_205 rfl rfl ?_
        refine ab_iload_n C 3 dL_law_206 rfl rfl ?_
        refine ab_iconst C (v := (1 : Int32)) dL_law_207 (by decide) ?_
        refine ab_iadd C dL_law_208 ?_
        obtain ⟨c_17, f⟩ := f
        refine ab_sld C hX c_17 (j := (y3 + (1 : Int32)).toNatClampNeg) rfl dL_law_209 ?_
        obtain ⟨c_18, f⟩ := f
        obtain ⟨c_19, f⟩ := f
        refine ab_callV C (k := kc) (n := nc) (rest := []) [.int (xs ((y3 + (1 : Int32)).toNatClampNeg))] cl_L_13 (mt_X7_bunk  hw f) rfl (by decide) kd_0 (wf_lt hw kd_0 rfl) ⟨rfl, rfl, Nat.le_of_ble_eq_true rfl, Nat.le_of_ble_eq_true rfl, c_18, c_19⟩ rfl rfl (Nat.le_of_ble_eq_true rfl) dL_law_210 (ab_kh (k := (kc + 0)) (n := (nc + 0)) (fun v_20 h_21 hw_22 f => ?_))
        refine ab_aload_n C 2 dL_law_213 rfl rfl ?_
        refine ab_aload_n C 0 dL_law_214 rfl rfl ?_
        refine ab_iload_n C 3 dL_law_215 rfl rfl ?_
        refine ab_iconst C (v := (1 : Int32)) dL_law_216 (by decide) ?_
        refine ab_iadd C dL_law_217 ?_
        obtain ⟨c_23, f⟩ := f
        refine ab_sld C hX c_23 (j := (y3 + (1 : Int32)).toNatClampNeg) rfl dL_law_218 ?_
        obtain ⟨c_24, f⟩ := f
        obtain ⟨c_25, f⟩ := f
        refine ab_callV C (k := (kc + 0)) (n := (nc + 0)) (rest := [.int v_20]) [.int (xs ((y3 + (1 : Int32)).toNatClampNeg))] cl_L_17 (mt_X8_bunk  hw_22 f) rfl (by decide) kd_105 (wf_lt hw_22 kd_105 rfl) ⟨rfl, rfl, Nat.le_of_ble_eq_true rfl, Nat.le_of_ble_eq_true rfl, c_24, c_25⟩ rfl rfl (Nat.le_of_ble_eq_true rfl) dL_law_219 (ab_kh (k := ((kc + 0) + 0)) (n := ((nc + 0) + 0)) (fun v_26 h_27 hw_28 f => ?_))
        refine ab_icmp_eq C (tgt := 1431) dL_law_222 (by decide) (fun c_29 => ?_) (fun c_29 => ?_)
        · have f := f.1 c_29
          refine ab_iinc C (lv' := [(3, .int (y3 + (6 : Int32))), (0, .ref b), (1, .ref (G.1 + 0)), (2, .ref (G.1 + 105))]) 3 (v := (y3 + (6 : Int32))) dL_law_1431 rfl rfl (by decide) rfl ?_
          refine ab_goto C (tgt := 18) dL_law_1434 (by decide) ?_
          refine ab_sub (lv' := [(0, .ref b), (1, .ref (G.1 + 0)), (2, .ref (G.1 + 105)), (3, .int (y3 + (6 : Int32)))]) [1, 2, 3, 0] rfl ?_
          exact ih (y3 + (6 : Int32)) ((kc + 0) + 0) ((nc + 0) + 0) h_27  hw_28 f
        · have f := f.2 c_29
          refine ab_iconst C (v := (0 : Int32)) dL_law_225 (by decide) ?_
          exact absurd f id
      have f := f.2 c_16
      by_cases c_30 : ((xs y3.toNatClampNeg) &&& (63 : Int32)) = (1 : Int32)
      · have f := f.1 c_30
        refine ab_tabC C (off := 194) (tgt := 227) dL_law_33 c_30 (by decide) (by decide) (by decide) (by decide) ?_
        refine ab_aload_n C 1 dL_law_227 rfl rfl ?_
        refine ab_aload_n C 0 dL_law_228 rfl rfl ?_
        refine ab_iload_n C 3 dL_law_229 rfl rfl ?_
        refine ab_iconst C (v := (1 : Int32)) dL_law_230 (by decide) ?_
        refine ab_iadd C dL_law_231 ?_
        obtain ⟨c_31, f⟩ := f
        refine ab_sld C hX c_31 (j := (y3 + (1 : Int32)).toNatClampNeg) rfl dL_law_232 ?_
        refine ab_aload_n C 0 dL_law_233 rfl rfl ?_
        refine ab_iload_n C 3 dL_law_234 rfl rfl ?_
        refine ab_iconst C (v := (2 : Int32)) dL_law_235 (by decide) ?_
        refine ab_iadd C dL_law_236 ?_
        obtain ⟨c_32, f⟩ := f
        refine ab_sld C hX c_32 (j := (y3 + (2 : Int32)).toNatClampNeg) rfl dL_law_237 ?_
        obtain ⟨c_33, f⟩ := f
        obtain ⟨c_34, f⟩ := f
        refine ab_callV C (k := kc) (n := nc) (rest := []) [.int (xs ((y3 + (1 : Int32)).toNatClampNeg)), .int (xs ((y3 + (2 : Int32)).toNatClampNeg))] cl_L_18 (mt_X7_bunkIs  hw f) rfl (by decide) kd_0 (wf_lt hw kd_0 rfl) ⟨rfl, rfl, Nat.le_of_ble_eq_true rfl, Nat.le_of_ble_eq_true rfl, c_33, c_34⟩ rfl rfl (Nat.le_of_ble_eq_true rfl) dL_law_238 (ab_kh (k := (kc + 0)) (n := (nc + 0)) (fun v_35 h_36 hw_37 f => ?_))
        refine ab_aload_n C 2 dL_law_241 rfl rfl ?_
        refine ab_aload_n C 0 dL_law_242 rfl rfl ?_
        refine ab_iload_n C 3 dL_law_243 rfl rfl ?_
        refine ab_iconst C (v := (1 : Int32)) dL_law_244 (by decide) ?_
        refine ab_iadd C dL_law_245 ?_
        obtain ⟨c_38, f⟩ := f
        refine ab_sld C hX c_38 (j := (y3 + (1 : Int32)).toNatClampNeg) rfl dL_law_246 ?_
        refine ab_aload_n C 0 dL_law_247 rfl rfl ?_
        refine ab_iload_n C 3 dL_law_248 rfl rfl ?_
        refine ab_iconst C (v := (2 : Int32)) dL_law_249 (by decide) ?_
        refine ab_iadd C dL_law_250 ?_
        obtain ⟨c_39, f⟩ := f
        refine ab_sld C hX c_39 (j := (y3 + (2 : Int32)).toNatClampNeg) rfl dL_law_251 ?_
        obtain ⟨c_40, f⟩ := f
        obtain ⟨c_41, f⟩ := f
        refine ab_callV C (k := (kc + 0)) (n := (nc + 0)) (rest := [.int v_35]) [.int (xs ((y3 + (1 : Int32)).toNatClampNeg)), .int (xs ((y3 + (2 : Int32)).toNatClampNeg))] cl_L_22 (mt_X8_bunkIs  hw_37 f) rfl (by decide) kd_105 (wf_lt hw_37 kd_105 rfl) ⟨rfl, rfl, Nat.le_of_ble_eq_true rfl, Nat.le_of_ble_eq_true rfl, c_40, c_41⟩ rfl rfl (Nat.le_of_ble_eq_true rfl) dL_law_252 (ab_kh (k := ((kc + 0) + 0)) (n := ((nc + 0) + 0)) (fun v_42 h_43 hw_44 f => ?_))
        refine ab_icmp_eq C (tgt := 1431) dL_law_255 (by decide) (fun c_45 => ?_) (fun c_45 => ?_)
        · have f := f.1 c_45
          refine ab_iinc C (lv' := [(3, .int (y3 + (6 : Int32))), (0, .ref b), (1, .ref (G.1 + 0)), (2, .ref (G.1 + 105))]) 3 (v := (y3 + (6 : Int32))) dL_law_1431 rfl rfl (by decide) rfl ?_
          refine ab_goto C (tgt := 18) dL_law_1434 (by decide) ?_
          refine ab_sub (lv' := [(0, .ref b), (1, .ref (G.1 + 0)), (2, .ref (G.1 + 105)), (3, .int (y3 + (6 : Int32)))]) [1, 2, 3, 0] rfl ?_
          exact ih (y3 + (6 : Int32)) ((kc + 0) + 0) ((nc + 0) + 0) h_43  hw_44 f
        · have f := f.2 c_45
          refine ab_iconst C (v := (0 : Int32)) dL_law_258 (by decide) ?_
          exact absurd f id
      have f := f.2 c_30
      by_cases c_46 : ((xs y3.toNatClampNeg) &&& (63 : Int32)) = (2 : Int32)
      · have f := f.1 c_46
        refine ab_tabC C (off := 227) (tgt := 260) dL_law_33 c_46 (by decide) (by decide) (by decide) (by decide) ?_
        refine ab_aload_n C 1 dL_law_260 rfl rfl ?_
        refine ab_aload_n C 0 dL_law_261 rfl rfl ?_
        refine ab_iload_n C 3 dL_law_262 rfl rfl ?_
        refine ab_iconst C (v := (1 : Int32)) dL_law_263 (by decide) ?_
        refine ab_iadd C dL_law_264 ?_
        obtain ⟨c_47, f⟩ := f
        refine ab_sld C hX c_47 (j := (y3 + (1 : Int32)).toNatClampNeg) rfl dL_law_265 ?_
        refine ab_aload_n C 0 dL_law_266 rfl rfl ?_
        refine ab_iload_n C 3 dL_law_267 rfl rfl ?_
        refine ab_iconst C (v := (2 : Int32)) dL_law_268 (by decide) ?_
        refine ab_iadd C dL_law_269 ?_
        obtain ⟨c_48, f⟩ := f
        refine ab_sld C hX c_48 (j := (y3 + (2 : Int32)).toNatClampNeg) rfl dL_law_270 ?_
        obtain ⟨c_49, f⟩ := f
        obtain ⟨c_50, f⟩ := f
        refine ab_callV C (k := kc) (n := nc) (rest := []) [.int (xs ((y3 + (1 : Int32)).toNatClampNeg)), .int (xs ((y3 + (2 : Int32)).toNatClampNeg))] cl_L_23 (mt_X7_as  hw f) rfl (by decide) kd_0 (wf_lt hw kd_0 rfl) ⟨rfl, rfl, Nat.le_of_ble_eq_true rfl, Nat.le_of_ble_eq_true rfl, c_49, c_50⟩ rfl rfl (Nat.le_of_ble_eq_true rfl) dL_law_271 (ab_kh (k := (kc + 0)) (n := (nc + 0)) (fun v_51 h_52 hw_53 f => ?_))
        refine ab_aload_n C 2 dL_law_274 rfl rfl ?_
        refine ab_aload_n C 0 dL_law_275 rfl rfl ?_
        refine ab_iload_n C 3 dL_law_276 rfl rfl ?_
        refine ab_iconst C (v := (1 : Int32)) dL_law_277 (by decide) ?_
        refine ab_iadd C dL_law_278 ?_
        obtain ⟨c_54, f⟩ := f
        refine ab_sld C hX c_54 (j := (y3 + (1 : Int32)).toNatClampNeg) rfl dL_law_279 ?_
        refine ab_aload_n C 0 dL_law_280 rfl rfl ?_
        refine ab_iload_n C 3 dL_law_281 rfl rfl ?_
        refine ab_iconst C (v := (2 : Int32)) dL_law_282 (by decide) ?_
        refine ab_iadd C dL_law_283 ?_
        obtain ⟨c_55, f⟩ := f
        refine ab_sld C hX c_55 (j := (y3 + (2 : Int32)).toNatClampNeg) rfl dL_law_284 ?_
        obtain ⟨c_56, f⟩ := f
        obtain ⟨c_57, f⟩ := f
        refine ab_callV C (k := (kc + 0)) (n := (nc + 0)) (rest := [.int v_51]) [.int (xs ((y3 + (1 : Int32)).toNatClampNeg)), .int (xs ((y3 + (2 : Int32)).toNatClampNeg))] cl_L_26 (mt_X8_as  hw_53 f) rfl (by decide) kd_105 (wf_lt hw_53 kd_105 rfl) ⟨rfl, rfl, Nat.le_of_ble_eq_true rfl, Nat.le_of_ble_eq_true rfl, c_56, c_57⟩ rfl rfl (Nat.le_of_ble_eq_true rfl) dL_law_285 (ab_kh (k := ((kc + 0) + 0)) (n := ((nc + 0) + 0)) (fun v_58 h_59 hw_60 f => ?_))
        refine ab_icmp_eq C (tgt := 1431) dL_law_288 (by decide) (fun c_61 => ?_) (fun c_61 => ?_)
        · have f := f.1 c_61
          refine ab_iinc C (lv' := [(3, .int (y3 + (6 : Int32))), (0, .ref b), (1, .ref (G.1 + 0)), (2, .ref (G.1 + 105))]) 3 (v := (y3 + (6 : Int32))) dL_law_1431 rfl rfl (by decide) rfl ?_
          refine ab_goto C (tgt := 18) dL_law_1434 (by decide) ?_
          refine ab_sub (lv' := [(0, .ref b), (1, .ref (G.1 + 0)), (2, .ref (G.1 + 105)), (3, .int (y3 + (6 : Int32)))]) [1, 2, 3, 0] rfl ?_
          exact ih (y3 + (6 : Int32)) ((kc + 0) + 0) ((nc + 0) + 0) h_59  hw_60 f
        · have f := f.2 c_61
          refine ab_iconst C (v := (0 : Int32)) dL_law_291 (by decide) ?_
          exact absurd f id
      have f := f.2 c_46
      by_cases c_62 : ((xs y3.toNatClampNeg) &&& (63 : Int32)) = (3 : Int32)
      · have f := f.1 c_62
        refine ab_tabC C (off := 260) (tgt := 293) dL_law_33 c_62 (by decide) (by decide) (by decide) (by decide) ?_
        refine ab_aload_n C 1 dL_law_293 rfl rfl ?_
        refine ab_aload_n C 0 dL_law_294 rfl rfl ?_
        refine ab_iload_n C 3 dL_law_295 rfl rfl ?_
        refine ab_iconst C (v := (1 : Int32)) dL_law_296 (by decide) ?_
        refine ab_iadd C dL_law_297 ?_
        obtain ⟨c_63, f⟩ := f
        refine ab_sld C hX c_63 (j := (y3 + (1 : Int32)).toNatClampNeg) rfl dL_law_298 ?_
        refine ab_aload_n C 0 dL_law_299 rfl rfl ?_
        refine ab_iload_n C 3 dL_law_300 rfl rfl ?_
        refine ab_iconst C (v := (2 : Int32)) dL_law_301 (by decide) ?_
        refine ab_iadd C dL_law_302 ?_
        obtain ⟨c_64, f⟩ := f
        refine ab_sld C hX c_64 (j := (y3 + (2 : Int32)).toNatClampNeg) rfl dL_law_303 ?_
        refine ab_aload_n C 0 dL_law_304 rfl rfl ?_
        refine ab_iload_n C 3 dL_law_305 rfl rfl ?_
        refine ab_iconst C (v := (3 : Int32)) dL_law_306 (by decide) ?_
        refine ab_iadd C dL_law_307 ?_
        obtain ⟨c_65, f⟩ := f
        refine ab_sld C hX c_65 (j := (y3 + (3 : Int32)).toNatClampNeg) rfl dL_law_308 ?_
        obtain ⟨c_66, f⟩ := f
        obtain ⟨c_67, f⟩ := f
        refine ab_callV C (k := kc) (n := nc) (rest := []) [.int (xs ((y3 + (1 : Int32)).toNatClampNeg)), .int (xs ((y3 + (2 : Int32)).toNatClampNeg)), .int (xs ((y3 + (3 : Int32)).toNatClampNeg))] cl_L_27 (mt_X7_set  hw f) rfl (by decide) kd_0 (wf_lt hw kd_0 rfl) ⟨rfl, rfl, Nat.le_of_ble_eq_true rfl, Nat.le_of_ble_eq_true rfl, c_66, c_67⟩ rfl rfl (Nat.le_of_ble_eq_true rfl) dL_law_309 (ab_kh (k := (kc + 0)) (n := (nc + 0)) (fun v_68 h_69 hw_70 f => ?_))
        refine ab_aload_n C 2 dL_law_312 rfl rfl ?_
        refine ab_aload_n C 0 dL_law_313 rfl rfl ?_
        refine ab_iload_n C 3 dL_law_314 rfl rfl ?_
        refine ab_iconst C (v := (1 : Int32)) dL_law_315 (by decide) ?_
        refine ab_iadd C dL_law_316 ?_
        obtain ⟨c_71, f⟩ := f
        refine ab_sld C hX c_71 (j := (y3 + (1 : Int32)).toNatClampNeg) rfl dL_law_317 ?_
        refine ab_aload_n C 0 dL_law_318 rfl rfl ?_
        refine ab_iload_n C 3 dL_law_319 rfl rfl ?_
        refine ab_iconst C (v := (2 : Int32)) dL_law_320 (by decide) ?_
        refine ab_iadd C dL_law_321 ?_
        obtain ⟨c_72, f⟩ := f
        refine ab_sld C hX c_72 (j := (y3 + (2 : Int32)).toNatClampNeg) rfl dL_law_322 ?_
        refine ab_aload_n C 0 dL_law_323 rfl rfl ?_
        refine ab_iload_n C 3 dL_law_324 rfl rfl ?_
        refine ab_iconst C (v := (3 : Int32)) dL_law_325 (by decide) ?_
        refine ab_iadd C dL_law_326 ?_
        obtain ⟨c_73, f⟩ := f
        refine ab_sld C hX c_73 (j := (y3 + (3 : Int32)).toNatClampNeg) rfl dL_law_327 ?_
        obtain ⟨c_74, f⟩ := f
        obtain ⟨c_75, f⟩ := f
        refine ab_callV C (k := (kc + 0)) (n := (nc + 0)) (rest := [.int v_68]) [.int (xs ((y3 + (1 : Int32)).toNatClampNeg)), .int (xs ((y3 + (2 : Int32)).toNatClampNeg)), .int (xs ((y3 + (3 : Int32)).toNatClampNeg))] cl_L_31 (mt_X8_set  hw_70 f) rfl (by decide) kd_105 (wf_lt hw_70 kd_105 rfl) ⟨rfl, rfl, Nat.le_of_ble_eq_true rfl, Nat.le_of_ble_eq_true rfl, c_74, c_75⟩ rfl rfl (Nat.le_of_ble_eq_true rfl) dL_law_328 (ab_kh (k := ((kc + 0) + 0)) (n := ((nc + 0) + 0)) (fun v_76 h_77 hw_78 f => ?_))
        refine ab_icmp_eq C (tgt := 1431) dL_law_331 (by decide) (fun c_79 => ?_) (fun c_79 => ?_)
        · have f := f.1 c_79
          refine ab_iinc C (lv' := [(3, .int (y3 + (6 : Int32))), (0, .ref b), (1, .ref (G.1 + 0)), (2, .ref (G.1 + 105))]) 3 (v := (y3 + (6 : Int32))) dL_law_1431 rfl rfl (by decide) rfl ?_
          refine ab_goto C (tgt := 18) dL_law_1434 (by decide) ?_
          refine ab_sub (lv' := [(0, .ref b), (1, .ref (G.1 + 0)), (2, .ref (G.1 + 105)), (3, .int (y3 + (6 : Int32)))]) [1, 2, 3, 0] rfl ?_
          exact ih (y3 + (6 : Int32)) ((kc + 0) + 0) ((nc + 0) + 0) h_77  hw_78 f
        · have f := f.2 c_79
          refine ab_iconst C (v := (0 : Int32)) dL_law_334 (by decide) ?_
          exact absurd f id
      have f := f.2 c_62
      by_cases c_80 : ((xs y3.toNatClampNeg) &&& (63 : Int32)) = (4 : Int32)
      · have f := f.1 c_80
        refine ab_tabC C (off := 303) (tgt := 336) dL_law_33 c_80 (by decide) (by decide) (by decide) (by decide) ?_
        refine ab_aload_n C 1 dL_law_336 rfl rfl ?_
        refine ab_aload_n C 0 dL_law_337 rfl rfl ?_
        refine ab_iload_n C 3 dL_law_338 rfl rfl ?_
        refine ab_iconst C (v := (1 : Int32)) dL_law_339 (by decide) ?_
        refine ab_iadd C dL_law_340 ?_
        obtain ⟨c_81, f⟩ := f
        refine ab_sld C hX c_81 (j := (y3 + (1 : Int32)).toNatClampNeg) rfl dL_law_341 ?_
        refine ab_aload_n C 0 dL_law_342 rfl rfl ?_
        refine ab_iload_n C 3 dL_law_343 rfl rfl ?_
        refine ab_iconst C (v := (2 : Int32)) dL_law_344 (by decide) ?_
        refine ab_iadd C dL_law_345 ?_
        obtain ⟨c_82, f⟩ := f
        refine ab_sld C hX c_82 (j := (y3 + (2 : Int32)).toNatClampNeg) rfl dL_law_346 ?_
        refine ab_aload_n C 0 dL_law_347 rfl rfl ?_
        refine ab_iload_n C 3 dL_law_348 rfl rfl ?_
        refine ab_iconst C (v := (3 : Int32)) dL_law_349 (by decide) ?_
        refine ab_iadd C dL_law_350 ?_
        obtain ⟨c_83, f⟩ := f
        refine ab_sld C hX c_83 (j := (y3 + (3 : Int32)).toNatClampNeg) rfl dL_law_351 ?_
        obtain ⟨c_84, f⟩ := f
        obtain ⟨c_85, f⟩ := f
        refine ab_callV C (k := kc) (n := nc) (rest := []) [.int (xs ((y3 + (1 : Int32)).toNatClampNeg)), .int (xs ((y3 + (2 : Int32)).toNatClampNeg)), .int (xs ((y3 + (3 : Int32)).toNatClampNeg))] cl_L_32 (mt_X7_know  hw f) rfl (by decide) kd_0 (wf_lt hw kd_0 rfl) ⟨rfl, rfl, Nat.le_of_ble_eq_true rfl, Nat.le_of_ble_eq_true rfl, c_84, c_85⟩ rfl rfl (Nat.le_of_ble_eq_true rfl) dL_law_352 (ab_kh (k := (kc + 0)) (n := (nc + 0)) (fun v_86 h_87 hw_88 f => ?_))
        refine ab_aload_n C 2 dL_law_355 rfl rfl ?_
        refine ab_aload_n C 0 dL_law_356 rfl rfl ?_
        refine ab_iload_n C 3 dL_law_357 rfl rfl ?_
        refine ab_iconst C (v := (1 : Int32)) dL_law_358 (by decide) ?_
        refine ab_iadd C dL_law_359 ?_
        obtain ⟨c_89, f⟩ := f
        refine ab_sld C hX c_89 (j := (y3 + (1 : Int32)).toNatClampNeg) rfl dL_law_360 ?_
        refine ab_aload_n C 0 dL_law_361 rfl rfl ?_
        refine ab_iload_n C 3 dL_law_362 rfl rfl ?_
        refine ab_iconst C (v := (2 : Int32)) dL_law_363 (by decide) ?_
        refine ab_iadd C dL_law_364 ?_
        obtain ⟨c_90, f⟩ := f
        refine ab_sld C hX c_90 (j := (y3 + (2 : Int32)).toNatClampNeg) rfl dL_law_365 ?_
        refine ab_aload_n C 0 dL_law_366 rfl rfl ?_
        refine ab_iload_n C 3 dL_law_367 rfl rfl ?_
        refine ab_iconst C (v := (3 : Int32)) dL_law_368 (by decide) ?_
        refine ab_iadd C dL_law_369 ?_
        obtain ⟨c_91, f⟩ := f
        refine ab_sld C hX c_91 (j := (y3 + (3 : Int32)).toNatClampNeg) rfl dL_law_370 ?_
        obtain ⟨c_92, f⟩ := f
        obtain ⟨c_93, f⟩ := f
        refine ab_callV C (k := (kc + 0)) (n := (nc + 0)) (rest := [.int v_86]) [.int (xs ((y3 + (1 : Int32)).toNatClampNeg)), .int (xs ((y3 + (2 : Int32)).toNatClampNeg)), .int (xs ((y3 + (3 : Int32)).toNatClampNeg))] cl_L_35 (mt_X8_know  hw_88 f) rfl (by decide) kd_105 (wf_lt hw_88 kd_105 rfl) ⟨rfl, rfl, Nat.le_of_ble_eq_true rfl, Nat.le_of_ble_eq_true rfl, c_92, c_93⟩ rfl rfl (Nat.le_of_ble_eq_true rfl) dL_law_371 (ab_kh (k := ((kc + 0) + 0)) (n := ((nc + 0) + 0)) (fun v_94 h_95 hw_96 f => ?_))
        refine ab_icmp_eq C (tgt := 1431) dL_law_374 (by decide) (fun c_97 => ?_) (fun c_97 => ?_)
        · have f := f.1 c_97
          refine ab_iinc C (lv' := [(3, .int (y3 + (6 : Int32))), (0, .ref b), (1, .ref (G.1 + 0)), (2, .ref (G.1 + 105))]) 3 (v := (y3 + (6 : Int32))) dL_law_1431 rfl rfl (by decide) rfl ?_
          refine ab_goto C (tgt := 18) dL_law_1434 (by decide) ?_
          refine ab_sub (lv' := [(0, .ref b), (1, .ref (G.1 + 0)), (2, .ref (G.1 + 105)), (3, .int (y3 + (6 : Int32)))]) [1, 2, 3, 0] rfl ?_
          exact ih (y3 + (6 : Int32)) ((kc + 0) + 0) ((nc + 0) + 0) h_95  hw_96 f
        · have f := f.2 c_97
          refine ab_iconst C (v := (0 : Int32)) dL_law_377 (by decide) ?_
          exact absurd f id
      have f := f.2 c_80
      by_cases c_98 : ((xs y3.toNatClampNeg) &&& (63 : Int32)) = (5 : Int32)
      · have f := f.1 c_98
        refine ab_tabC C (off := 346) (tgt := 379) dL_law_33 c_98 (by decide) (by decide) (by decide) (by decide) ?_
        refine ab_aload_n C 1 dL_law_379 rfl rfl ?_
        refine ab_aload_n C 0 dL_law_380 rfl rfl ?_
        refine ab_iload_n C 3 dL_law_381 rfl rfl ?_
        refine ab_iconst C (v := (1 : Int32)) dL_law_382 (by decide) ?_
        refine ab_iadd C dL_law_383 ?_
        obtain ⟨c_99, f⟩ := f
        refine ab_sld C hX c_99 (j := (y3 + (1 : Int32)).toNatClampNeg) rfl dL_law_384 ?_
        refine ab_aload_n C 0 dL_law_385 rfl rfl ?_
        refine ab_iload_n C 3 dL_law_386 rfl rfl ?_
        refine ab_iconst C (v := (2 : Int32)) dL_law_387 (by decide) ?_
        refine ab_iadd C dL_law_388 ?_
        obtain ⟨c_100, f⟩ := f
        refine ab_sld C hX c_100 (j := (y3 + (2 : Int32)).toNatClampNeg) rfl dL_law_389 ?_
        obtain ⟨c_101, f⟩ := f
        obtain ⟨c_102, f⟩ := f
        refine ab_callV C (k := kc) (n := nc) (rest := []) [.int (xs ((y3 + (1 : Int32)).toNatClampNeg)), .int (xs ((y3 + (2 : Int32)).toNatClampNeg))] cl_L_36 (mt_X7_roster  hw f) rfl (by decide) kd_0 (wf_lt hw kd_0 rfl) ⟨rfl, rfl, Nat.le_of_ble_eq_true rfl, Nat.le_of_ble_eq_true rfl, c_101, c_102⟩ rfl rfl (Nat.le_of_ble_eq_true rfl) dL_law_390 (ab_kh (k := (kc + 0)) (n := (nc + 0)) (fun v_103 h_104 hw_105 f => ?_))
        refine ab_aload_n C 2 dL_law_393 rfl rfl ?_
        refine ab_aload_n C 0 dL_law_394 rfl rfl ?_
        refine ab_iload_n C 3 dL_law_395 rfl rfl ?_
        refine ab_iconst C (v := (1 : Int32)) dL_law_396 (by decide) ?_
        refine ab_iadd C dL_law_397 ?_
        obtain ⟨c_106, f⟩ := f
        refine ab_sld C hX c_106 (j := (y3 + (1 : Int32)).toNatClampNeg) rfl dL_law_398 ?_
        refine ab_aload_n C 0 dL_law_399 rfl rfl ?_
        refine ab_iload_n C 3 dL_law_400 rfl rfl ?_
        refine ab_iconst C (v := (2 : Int32)) dL_law_401 (by decide) ?_
        refine ab_iadd C dL_law_402 ?_
        obtain ⟨c_107, f⟩ := f
        refine ab_sld C hX c_107 (j := (y3 + (2 : Int32)).toNatClampNeg) rfl dL_law_403 ?_
        obtain ⟨c_108, f⟩ := f
        obtain ⟨c_109, f⟩ := f
        refine ab_callV C (k := (kc + 0)) (n := (nc + 0)) (rest := [.int v_103]) [.int (xs ((y3 + (1 : Int32)).toNatClampNeg)), .int (xs ((y3 + (2 : Int32)).toNatClampNeg))] cl_L_39 (mt_X8_roster  hw_105 f) rfl (by decide) kd_105 (wf_lt hw_105 kd_105 rfl) ⟨rfl, rfl, Nat.le_of_ble_eq_true rfl, Nat.le_of_ble_eq_true rfl, c_108, c_109⟩ rfl rfl (Nat.le_of_ble_eq_true rfl) dL_law_404 (ab_kh (k := ((kc + 0) + 0)) (n := ((nc + 0) + 0)) (fun v_110 h_111 hw_112 f => ?_))
        refine ab_icmp_eq C (tgt := 1431) dL_law_407 (by decide) (fun c_113 => ?_) (fun c_113 => ?_)
        · have f := f.1 c_113
          refine ab_iinc C (lv' := [(3, .int (y3 + (6 : Int32))), (0, .ref b), (1, .ref (G.1 + 0)), (2, .ref (G.1 + 105))]) 3 (v := (y3 + (6 : Int32))) dL_law_1431 rfl rfl (by decide) rfl ?_
          refine ab_goto C (tgt := 18) dL_law_1434 (by decide) ?_
          refine ab_sub (lv' := [(0, .ref b), (1, .ref (G.1 + 0)), (2, .ref (G.1 + 105)), (3, .int (y3 + (6 : Int32)))]) [1, 2, 3, 0] rfl ?_
          exact ih (y3 + (6 : Int32)) ((kc + 0) + 0) ((nc + 0) + 0) h_111  hw_112 f
        · have f := f.2 c_113
          refine ab_iconst C (v := (0 : Int32)) dL_law_410 (by decide) ?_
          exact absurd f id
      have f := f.2 c_98
      by_cases c_114 : ((xs y3.toNatClampNeg) &&& (63 : Int32)) = (6 : Int32)
      · have f := f.1 c_114
        refine ab_tabC C (off := 379) (tgt := 412) dL_law_33 c_114 (by decide) (by decide) (by decide) (by decide) ?_
        refine ab_aload_n C 1 dL_law_412 rfl rfl ?_
        refine ab_aload_n C 0 dL_law_413 rfl rfl ?_
        refine ab_iload_n C 3 dL_law_414 rfl rfl ?_
        refine ab_iconst C (v := (1 : Int32)) dL_law_415 (by decide) ?_
        refine ab_iadd C dL_law_416 ?_
        obtain ⟨c_115, f⟩ := f
        refine ab_sld C hX c_115 (j := (y3 + (1 : Int32)).toNatClampNeg) rfl dL_law_417 ?_
        obtain ⟨c_116, f⟩ := f
        obtain ⟨c_117, f⟩ := f
        refine ab_callV C (k := kc) (n := nc) (rest := []) [.int (xs ((y3 + (1 : Int32)).toNatClampNeg))] cl_L_40 (mt_X7_book  hw f) rfl (by decide) kd_0 (wf_lt hw kd_0 rfl) ⟨rfl, rfl, Nat.le_of_ble_eq_true rfl, Nat.le_of_ble_eq_true rfl, c_116, c_117⟩ rfl rfl (Nat.le_of_ble_eq_true rfl) dL_law_418 (ab_kh (k := (kc + 0)) (n := (nc + 0)) (fun v_118 h_119 hw_120 f => ?_))
        refine ab_aload_n C 2 dL_law_421 rfl rfl ?_
        refine ab_aload_n C 0 dL_law_422 rfl rfl ?_
        refine ab_iload_n C 3 dL_law_423 rfl rfl ?_
        refine ab_iconst C (v := (1 : Int32)) dL_law_424 (by decide) ?_
        refine ab_iadd C dL_law_425 ?_
        obtain ⟨c_121, f⟩ := f
        refine ab_sld C hX c_121 (j := (y3 + (1 : Int32)).toNatClampNeg) rfl dL_law_426 ?_
        obtain ⟨c_122, f⟩ := f
        obtain ⟨c_123, f⟩ := f
        refine ab_callV C (k := (kc + 0)) (n := (nc + 0)) (rest := [.int v_118]) [.int (xs ((y3 + (1 : Int32)).toNatClampNeg))] cl_L_43 (mt_X8_book  hw_120 f) rfl (by decide) kd_105 (wf_lt hw_120 kd_105 rfl) ⟨rfl, rfl, Nat.le_of_ble_eq_true rfl, Nat.le_of_ble_eq_true rfl, c_122, c_123⟩ rfl rfl (Nat.le_of_ble_eq_true rfl) dL_law_427 (ab_kh (k := ((kc + 0) + 0)) (n := ((nc + 0) + 0)) (fun v_124 h_125 hw_126 f => ?_))
        refine ab_icmp_eq C (tgt := 1431) dL_law_430 (by decide) (fun c_127 => ?_) (fun c_127 => ?_)
        · have f := f.1 c_127
          refine ab_iinc C (lv' := [(3, .int (y3 + (6 : Int32))), (0, .ref b), (1, .ref (G.1 + 0)), (2, .ref (G.1 + 105))]) 3 (v := (y3 + (6 : Int32))) dL_law_1431 rfl rfl (by decide) rfl ?_
          refine ab_goto C (tgt := 18) dL_law_1434 (by decide) ?_
          refine ab_sub (lv' := [(0, .ref b), (1, .ref (G.1 + 0)), (2, .ref (G.1 + 105)), (3, .int (y3 + (6 : Int32)))]) [1, 2, 3, 0] rfl ?_
          exact ih (y3 + (6 : Int32)) ((kc + 0) + 0) ((nc + 0) + 0) h_125  hw_126 f
        · have f := f.2 c_127
          refine ab_iconst C (v := (0 : Int32)) dL_law_433 (by decide) ?_
          exact absurd f id
      have f := f.2 c_114
      by_cases c_128 : ((xs y3.toNatClampNeg) &&& (63 : Int32)) = (7 : Int32)
      · have f := f.1 c_128
        refine ab_tabC C (off := 402) (tgt := 435) dL_law_33 c_128 (by decide) (by decide) (by decide) (by decide) ?_
        refine ab_aload_n C 1 dL_law_435 rfl rfl ?_
        refine ab_aload_n C 0 dL_law_436 rfl rfl ?_
        refine ab_iload_n C 3 dL_law_437 rfl rfl ?_
        refine ab_iconst C (v := (1 : Int32)) dL_law_438 (by decide) ?_
        refine ab_iadd C dL_law_439 ?_
        obtain ⟨c_129, f⟩ := f
        refine ab_sld C hX c_129 (j := (y3 + (1 : Int32)).toNatClampNeg) rfl dL_law_440 ?_
        refine ab_aload_n C 0 dL_law_441 rfl rfl ?_
        refine ab_iload_n C 3 dL_law_442 rfl rfl ?_
        refine ab_iconst C (v := (2 : Int32)) dL_law_443 (by decide) ?_
        refine ab_iadd C dL_law_444 ?_
        obtain ⟨c_130, f⟩ := f
        refine ab_sld C hX c_130 (j := (y3 + (2 : Int32)).toNatClampNeg) rfl dL_law_445 ?_
        refine ab_aload_n C 0 dL_law_446 rfl rfl ?_
        refine ab_iload_n C 3 dL_law_447 rfl rfl ?_
        refine ab_iconst C (v := (3 : Int32)) dL_law_448 (by decide) ?_
        refine ab_iadd C dL_law_449 ?_
        obtain ⟨c_131, f⟩ := f
        refine ab_sld C hX c_131 (j := (y3 + (3 : Int32)).toNatClampNeg) rfl dL_law_450 ?_
        obtain ⟨c_132, f⟩ := f
        obtain ⟨c_133, f⟩ := f
        refine ab_callV C (k := kc) (n := nc) (rest := []) [.int (xs ((y3 + (1 : Int32)).toNatClampNeg)), .int (xs ((y3 + (2 : Int32)).toNatClampNeg)), .int (xs ((y3 + (3 : Int32)).toNatClampNeg))] cl_L_44 (mt_X7_task  hw f) rfl (by decide) kd_0 (wf_lt hw kd_0 rfl) ⟨rfl, rfl, Nat.le_of_ble_eq_true rfl, Nat.le_of_ble_eq_true rfl, c_132, c_133⟩ rfl rfl (Nat.le_of_ble_eq_true rfl) dL_law_451 (ab_kh (k := (kc + 0)) (n := (nc + 0)) (fun v_134 h_135 hw_136 f => ?_))
        refine ab_aload_n C 2 dL_law_454 rfl rfl ?_
        refine ab_aload_n C 0 dL_law_455 rfl rfl ?_
        refine ab_iload_n C 3 dL_law_456 rfl rfl ?_
        refine ab_iconst C (v := (1 : Int32)) dL_law_457 (by decide) ?_
        refine ab_iadd C dL_law_458 ?_
        obtain ⟨c_137, f⟩ := f
        refine ab_sld C hX c_137 (j := (y3 + (1 : Int32)).toNatClampNeg) rfl dL_law_459 ?_
        refine ab_aload_n C 0 dL_law_460 rfl rfl ?_
        refine ab_iload_n C 3 dL_law_461 rfl rfl ?_
        refine ab_iconst C (v := (2 : Int32)) dL_law_462 (by decide) ?_
        refine ab_iadd C dL_law_463 ?_
        obtain ⟨c_138, f⟩ := f
        refine ab_sld C hX c_138 (j := (y3 + (2 : Int32)).toNatClampNeg) rfl dL_law_464 ?_
        refine ab_aload_n C 0 dL_law_465 rfl rfl ?_
        refine ab_iload_n C 3 dL_law_466 rfl rfl ?_
        refine ab_iconst C (v := (3 : Int32)) dL_law_467 (by decide) ?_
        refine ab_iadd C dL_law_468 ?_
        obtain ⟨c_139, f⟩ := f
        refine ab_sld C hX c_139 (j := (y3 + (3 : Int32)).toNatClampNeg) rfl dL_law_469 ?_
        obtain ⟨c_140, f⟩ := f
        obtain ⟨c_141, f⟩ := f
        refine ab_callV C (k := (kc + 0)) (n := (nc + 0)) (rest := [.int v_134]) [.int (xs ((y3 + (1 : Int32)).toNatClampNeg)), .int (xs ((y3 + (2 : Int32)).toNatClampNeg)), .int (xs ((y3 + (3 : Int32)).toNatClampNeg))] cl_L_47 (mt_X8_task  hw_136 f) rfl (by decide) kd_105 (wf_lt hw_136 kd_105 rfl) ⟨rfl, rfl, Nat.le_of_ble_eq_true rfl, Nat.le_of_ble_eq_true rfl, c_140, c_141⟩ rfl rfl (Nat.le_of_ble_eq_true rfl) dL_law_470 (ab_kh (k := ((kc + 0) + 0)) (n := ((nc + 0) + 0)) (fun v_142 h_143 hw_144 f => ?_))
        refine ab_icmp_eq C (tgt := 1431) dL_law_473 (by decide) (fun c_145 => ?_) (fun c_145 => ?_)
        · have f := f.1 c_145
          refine ab_iinc C (lv' := [(3, .int (y3 + (6 : Int32))), (0, .ref b), (1, .ref (G.1 + 0)), (2, .ref (G.1 + 105))]) 3 (v := (y3 + (6 : Int32))) dL_law_1431 rfl rfl (by decide) rfl ?_
          refine ab_goto C (tgt := 18) dL_law_1434 (by decide) ?_
          refine ab_sub (lv' := [(0, .ref b), (1, .ref (G.1 + 0)), (2, .ref (G.1 + 105)), (3, .int (y3 + (6 : Int32)))]) [1, 2, 3, 0] rfl ?_
          exact ih (y3 + (6 : Int32)) ((kc + 0) + 0) ((nc + 0) + 0) h_143  hw_144 f
        · have f := f.2 c_145
          refine ab_iconst C (v := (0 : Int32)) dL_law_476 (by decide) ?_
          exact absurd f id
      have f := f.2 c_128
      by_cases c_146 : ((xs y3.toNatClampNeg) &&& (63 : Int32)) = (8 : Int32)
      · have f := f.1 c_146
        refine ab_tabC C (off := 445) (tgt := 478) dL_law_33 c_146 (by decide) (by decide) (by decide) (by decide) ?_
        refine ab_aload_n C 1 dL_law_478 rfl rfl ?_
        refine ab_aload_n C 0 dL_law_479 rfl rfl ?_
        refine ab_iload_n C 3 dL_law_480 rfl rfl ?_
        refine ab_iconst C (v := (1 : Int32)) dL_law_481 (by decide) ?_
        refine ab_iadd C dL_law_482 ?_
        obtain ⟨c_147, f⟩ := f
        refine ab_sld C hX c_147 (j := (y3 + (1 : Int32)).toNatClampNeg) rfl dL_law_483 ?_
        refine ab_aload_n C 0 dL_law_484 rfl rfl ?_
        refine ab_iload_n C 3 dL_law_485 rfl rfl ?_
        refine ab_iconst C (v := (2 : Int32)) dL_law_486 (by decide) ?_
        refine ab_iadd C dL_law_487 ?_
        obtain ⟨c_148, f⟩ := f
        refine ab_sld C hX c_148 (j := (y3 + (2 : Int32)).toNatClampNeg) rfl dL_law_488 ?_
        obtain ⟨c_149, f⟩ := f
        obtain ⟨c_150, f⟩ := f
        refine ab_callV C (k := kc) (n := nc) (rest := []) [.int (xs ((y3 + (1 : Int32)).toNatClampNeg)), .int (xs ((y3 + (2 : Int32)).toNatClampNeg))] cl_L_48 (mt_X7_taskIs  hw f) rfl (by decide) kd_0 (wf_lt hw kd_0 rfl) ⟨rfl, rfl, Nat.le_of_ble_eq_true rfl, Nat.le_of_ble_eq_true rfl, c_149, c_150⟩ rfl rfl (Nat.le_of_ble_eq_true rfl) dL_law_489 (ab_kh (k := (kc + 0)) (n := (nc + 0)) (fun v_151 h_152 hw_153 f => ?_))
        refine ab_aload_n C 2 dL_law_492 rfl rfl ?_
        refine ab_aload_n C 0 dL_law_493 rfl rfl ?_
        refine ab_iload_n C 3 dL_law_494 rfl rfl ?_
        refine ab_iconst C (v := (1 : Int32)) dL_law_495 (by decide) ?_
        refine ab_iadd C dL_law_496 ?_
        obtain ⟨c_154, f⟩ := f
        refine ab_sld C hX c_154 (j := (y3 + (1 : Int32)).toNatClampNeg) rfl dL_law_497 ?_
        refine ab_aload_n C 0 dL_law_498 rfl rfl ?_
        refine ab_iload_n C 3 dL_law_499 rfl rfl ?_
        refine ab_iconst C (v := (2 : Int32)) dL_law_500 (by decide) ?_
        refine ab_iadd C dL_law_501 ?_
        obtain ⟨c_155, f⟩ := f
        refine ab_sld C hX c_155 (j := (y3 + (2 : Int32)).toNatClampNeg) rfl dL_law_502 ?_
        obtain ⟨c_156, f⟩ := f
        obtain ⟨c_157, f⟩ := f
        refine ab_callV C (k := (kc + 0)) (n := (nc + 0)) (rest := [.int v_151]) [.int (xs ((y3 + (1 : Int32)).toNatClampNeg)), .int (xs ((y3 + (2 : Int32)).toNatClampNeg))] cl_L_51 (mt_X8_taskIs  hw_153 f) rfl (by decide) kd_105 (wf_lt hw_153 kd_105 rfl) ⟨rfl, rfl, Nat.le_of_ble_eq_true rfl, Nat.le_of_ble_eq_true rfl, c_156, c_157⟩ rfl rfl (Nat.le_of_ble_eq_true rfl) dL_law_503 (ab_kh (k := ((kc + 0) + 0)) (n := ((nc + 0) + 0)) (fun v_158 h_159 hw_160 f => ?_))
        refine ab_icmp_eq C (tgt := 1431) dL_law_506 (by decide) (fun c_161 => ?_) (fun c_161 => ?_)
        · have f := f.1 c_161
          refine ab_iinc C (lv' := [(3, .int (y3 + (6 : Int32))), (0, .ref b), (1, .ref (G.1 + 0)), (2, .ref (G.1 + 105))]) 3 (v := (y3 + (6 : Int32))) dL_law_1431 rfl rfl (by decide) rfl ?_
          refine ab_goto C (tgt := 18) dL_law_1434 (by decide) ?_
          refine ab_sub (lv' := [(0, .ref b), (1, .ref (G.1 + 0)), (2, .ref (G.1 + 105)), (3, .int (y3 + (6 : Int32)))]) [1, 2, 3, 0] rfl ?_
          exact ih (y3 + (6 : Int32)) ((kc + 0) + 0) ((nc + 0) + 0) h_159  hw_160 f
        · have f := f.2 c_161
          refine ab_iconst C (v := (0 : Int32)) dL_law_509 (by decide) ?_
          exact absurd f id
      have f := f.2 c_146
      by_cases c_162 : ((xs y3.toNatClampNeg) &&& (63 : Int32)) = (9 : Int32)
      · have f := f.1 c_162
        refine ab_tabC C (off := 478) (tgt := 511) dL_law_33 c_162 (by decide) (by decide) (by decide) (by decide) ?_
        refine ab_aload_n C 1 dL_law_511 rfl rfl ?_
        refine ab_aload_n C 0 dL_law_512 rfl rfl ?_
        refine ab_iload_n C 3 dL_law_513 rfl rfl ?_
        refine ab_iconst C (v := (1 : Int32)) dL_law_514 (by decide) ?_
        refine ab_iadd C dL_law_515 ?_
        obtain ⟨c_163, f⟩ := f
        refine ab_sld C hX c_163 (j := (y3 + (1 : Int32)).toNatClampNeg) rfl dL_law_516 ?_
        refine ab_i2l C dL_law_517 ?_
        refine ab_bipush C (v := (32 : Int32)) dL_law_518 (by decide) ?_
        refine ab_lshl C dL_law_520 ?_
        refine ab_aload_n C 0 dL_law_521 rfl rfl ?_
        refine ab_iload_n C 3 dL_law_522 rfl rfl ?_
        refine ab_iconst C (v := (2 : Int32)) dL_law_523 (by decide) ?_
        refine ab_iadd C dL_law_524 ?_
        obtain ⟨c_164, f⟩ := f
        refine ab_sld C hX c_164 (j := (y3 + (2 : Int32)).toNatClampNeg) rfl dL_law_525 ?_
        refine ab_i2l C dL_law_526 ?_
        refine ab_ldc2 C kw_t1222 dL_law_527 ?_
        refine ab_land C dL_law_530 ?_
        refine ab_lor C dL_law_531 ?_
        refine ab_aload_n C 0 dL_law_532 rfl rfl ?_
        refine ab_iload_n C 3 dL_law_533 rfl rfl ?_
        refine ab_iconst C (v := (3 : Int32)) dL_law_534 (by decide) ?_
        refine ab_iadd C dL_law_535 ?_
        obtain ⟨c_165, f⟩ := f
        refine ab_sld C hX c_165 (j := (y3 + (3 : Int32)).toNatClampNeg) rfl dL_law_536 ?_
        obtain ⟨c_166, f⟩ := f
        obtain ⟨c_167, f⟩ := f
        refine ab_callV C (k := kc) (n := nc) (rest := []) [.long (((xs ((y3 + (1 : Int32)).toNatClampNeg)).toInt64 <<< ((32 : Int32).toInt64 &&& 63)) ||| ((xs ((y3 + (2 : Int32)).toNatClampNeg)).toInt64 &&& (4294967295 : Int64))), .int (xs ((y3 + (3 : Int32)).toNatClampNeg))] cl_L_54 (mt_X7_feed  hw f) rfl (by decide) kd_0 (wf_lt hw kd_0 rfl) ⟨rfl, rfl, Nat.le_of_ble_eq_true rfl, Nat.le_of_ble_eq_true rfl, c_166, c_167⟩ rfl rfl (Nat.le_of_ble_eq_true rfl) dL_law_537 (ab_kh (k := (kc + 0)) (n := (nc + 0)) (fun v_168 h_169 hw_170 f => ?_))
        refine ab_aload_n C 2 dL_law_540 rfl rfl ?_
        refine ab_aload_n C 0 dL_law_541 rfl rfl ?_
        refine ab_iload_n C 3 dL_law_542 rfl rfl ?_
        refine ab_iconst C (v := (1 : Int32)) dL_law_543 (by decide) ?_
        refine ab_iadd C dL_law_544 ?_
        obtain ⟨c_171, f⟩ := f
        refine ab_sld C hX c_171 (j := (y3 + (1 : Int32)).toNatClampNeg) rfl dL_law_545 ?_
        refine ab_i2l C dL_law_546 ?_
        refine ab_bipush C (v := (32 : Int32)) dL_law_547 (by decide) ?_
        refine ab_lshl C dL_law_549 ?_
        refine ab_aload_n C 0 dL_law_550 rfl rfl ?_
        refine ab_iload_n C 3 dL_law_551 rfl rfl ?_
        refine ab_iconst C (v := (2 : Int32)) dL_law_552 (by decide) ?_
        refine ab_iadd C dL_law_553 ?_
        obtain ⟨c_172, f⟩ := f
        refine ab_sld C hX c_172 (j := (y3 + (2 : Int32)).toNatClampNeg) rfl dL_law_554 ?_
        refine ab_i2l C dL_law_555 ?_
        refine ab_ldc2 C kw_t1222 dL_law_556 ?_
        refine ab_land C dL_law_559 ?_
        refine ab_lor C dL_law_560 ?_
        refine ab_aload_n C 0 dL_law_561 rfl rfl ?_
        refine ab_iload_n C 3 dL_law_562 rfl rfl ?_
        refine ab_iconst C (v := (3 : Int32)) dL_law_563 (by decide) ?_
        refine ab_iadd C dL_law_564 ?_
        obtain ⟨c_173, f⟩ := f
        refine ab_sld C hX c_173 (j := (y3 + (3 : Int32)).toNatClampNeg) rfl dL_law_565 ?_
        obtain ⟨c_174, f⟩ := f
        obtain ⟨c_175, f⟩ := f
        refine ab_callV C (k := (kc + 0)) (n := (nc + 0)) (rest := [.int v_168]) [.long (((xs ((y3 + (1 : Int32)).toNatClampNeg)).toInt64 <<< ((32 : Int32).toInt64 &&& 63)) ||| ((xs ((y3 + (2 : Int32)).toNatClampNeg)).toInt64 &&& (4294967295 : Int64))), .int (xs ((y3 + (3 : Int32)).toNatClampNeg))] cl_L_58 (mt_X8_feed  hw_170 f) rfl (by decide) kd_105 (wf_lt hw_170 kd_105 rfl) ⟨rfl, rfl, Nat.le_of_ble_eq_true rfl, Nat.le_of_ble_eq_true rfl, c_174, c_175⟩ rfl rfl (Nat.le_of_ble_eq_true rfl) dL_law_566 (ab_kh (k := ((kc + 0) + 0)) (n := ((nc + 0) + 0)) (fun v_176 h_177 hw_178 f => ?_))
        refine ab_icmp_eq C (tgt := 1431) dL_law_569 (by decide) (fun c_179 => ?_) (fun c_179 => ?_)
        · have f := f.1 c_179
          refine ab_iinc C (lv' := [(3, .int (y3 + (6 : Int32))), (0, .ref b), (1, .ref (G.1 + 0)), (2, .ref (G.1 + 105))]) 3 (v := (y3 + (6 : Int32))) dL_law_1431 rfl rfl (by decide) rfl ?_
          refine ab_goto C (tgt := 18) dL_law_1434 (by decide) ?_
          refine ab_sub (lv' := [(0, .ref b), (1, .ref (G.1 + 0)), (2, .ref (G.1 + 105)), (3, .int (y3 + (6 : Int32)))]) [1, 2, 3, 0] rfl ?_
          exact ih (y3 + (6 : Int32)) ((kc + 0) + 0) ((nc + 0) + 0) h_177  hw_178 f
        · have f := f.2 c_179
          refine ab_iconst C (v := (0 : Int32)) dL_law_572 (by decide) ?_
          exact absurd f id
      have f := f.2 c_162
      by_cases c_180 : ((xs y3.toNatClampNeg) &&& (63 : Int32)) = (10 : Int32)
      · have f := f.1 c_180
        refine ab_tabC C (off := 541) (tgt := 574) dL_law_33 c_180 (by decide) (by decide) (by decide) (by decide) ?_
        refine ab_aload_n C 1 dL_law_574 rfl rfl ?_
        refine ab_aload_n C 0 dL_law_575 rfl rfl ?_
        refine ab_iload_n C 3 dL_law_576 rfl rfl ?_
        refine ab_iconst C (v := (1 : Int32)) dL_law_577 (by decide) ?_
        refine ab_iadd C dL_law_578 ?_
        obtain ⟨c_181, f⟩ := f
        refine ab_sld C hX c_181 (j := (y3 + (1 : Int32)).toNatClampNeg) rfl dL_law_579 ?_
        obtain ⟨c_182, f⟩ := f
        obtain ⟨c_183, f⟩ := f
        refine ab_callV C (k := kc) (n := nc) (rest := []) [.int (xs ((y3 + (1 : Int32)).toNatClampNeg))] cl_L_59 (mt_X7_text  hw f) rfl (by decide) kd_0 (wf_lt hw kd_0 rfl) ⟨rfl, rfl, Nat.le_of_ble_eq_true rfl, Nat.le_of_ble_eq_true rfl, c_182, c_183⟩ rfl rfl (Nat.le_of_ble_eq_true rfl) dL_law_580 (ab_kh (k := (kc + 3)) (n := (nc + 122)) (fun v_184 h_185 hw_186 f => ?_))
        refine ab_aload_n C 2 dL_law_583 rfl rfl ?_
        refine ab_aload_n C 0 dL_law_584 rfl rfl ?_
        refine ab_iload_n C 3 dL_law_585 rfl rfl ?_
        refine ab_iconst C (v := (1 : Int32)) dL_law_586 (by decide) ?_
        refine ab_iadd C dL_law_587 ?_
        obtain ⟨c_187, f⟩ := f
        refine ab_sld C hX c_187 (j := (y3 + (1 : Int32)).toNatClampNeg) rfl dL_law_588 ?_
        obtain ⟨c_188, f⟩ := f
        obtain ⟨c_189, f⟩ := f
        refine ab_callV C (k := (kc + 3)) (n := (nc + 122)) (rest := [.int v_184]) [.int (xs ((y3 + (1 : Int32)).toNatClampNeg))] cl_L_62 (mt_X8_text  hw_186 f) rfl (by decide) kd_105 (wf_lt hw_186 kd_105 rfl) ⟨rfl, rfl, Nat.le_of_ble_eq_true rfl, Nat.le_of_ble_eq_true rfl, c_188, c_189⟩ rfl rfl (Nat.le_of_ble_eq_true rfl) dL_law_589 (ab_kh (k := ((kc + 3) + 0)) (n := ((nc + 122) + 0)) (fun v_190 h_191 hw_192 f => ?_))
        refine ab_icmp_eq C (tgt := 1431) dL_law_592 (by decide) (fun c_193 => ?_) (fun c_193 => ?_)
        · have f := f.1 c_193
          refine ab_iinc C (lv' := [(3, .int (y3 + (6 : Int32))), (0, .ref b), (1, .ref (G.1 + 0)), (2, .ref (G.1 + 105))]) 3 (v := (y3 + (6 : Int32))) dL_law_1431 rfl rfl (by decide) rfl ?_
          refine ab_goto C (tgt := 18) dL_law_1434 (by decide) ?_
          refine ab_sub (lv' := [(0, .ref b), (1, .ref (G.1 + 0)), (2, .ref (G.1 + 105)), (3, .int (y3 + (6 : Int32)))]) [1, 2, 3, 0] rfl ?_
          exact ih (y3 + (6 : Int32)) ((kc + 3) + 0) ((nc + 122) + 0) h_191  hw_192 f
        · have f := f.2 c_193
          refine ab_iconst C (v := (0 : Int32)) dL_law_595 (by decide) ?_
          exact absurd f id
      have f := f.2 c_180
      by_cases c_194 : ((xs y3.toNatClampNeg) &&& (63 : Int32)) = (11 : Int32)
      · have f := f.1 c_194
        refine ab_tabC C (off := 564) (tgt := 597) dL_law_33 c_194 (by decide) (by decide) (by decide) (by decide) ?_
        refine ab_aload_n C 1 dL_law_597 rfl rfl ?_
        refine ab_aload_n C 0 dL_law_598 rfl rfl ?_
        refine ab_iload_n C 3 dL_law_599 rfl rfl ?_
        refine ab_iconst C (v := (1 : Int32)) dL_law_600 (by decide) ?_
        refine ab_iadd C dL_law_601 ?_
        obtain ⟨c_195, f⟩ := f
        refine ab_sld C hX c_195 (j := (y3 + (1 : Int32)).toNatClampNeg) rfl dL_law_602 ?_
        obtain ⟨c_196, f⟩ := f
        obtain ⟨c_197, f⟩ := f
        refine ab_callV C (k := kc) (n := nc) (rest := []) [.int (xs ((y3 + (1 : Int32)).toNatClampNeg))] cl_L_63 (mt_X7_untell  hw f) rfl (by decide) kd_0 (wf_lt hw kd_0 rfl) ⟨rfl, rfl, Nat.le_of_ble_eq_true rfl, Nat.le_of_ble_eq_true rfl, c_196, c_197⟩ rfl rfl (Nat.le_of_ble_eq_true rfl) dL_law_603 (ab_kh (k := (kc + 0)) (n := (nc + 0)) (fun v_198 h_199 hw_200 f => ?_))
        refine ab_aload_n C 2 dL_law_606 rfl rfl ?_
        refine ab_aload_n C 0 dL_law_607 rfl rfl ?_
        refine ab_iload_n C 3 dL_law_608 rfl rfl ?_
        refine ab_iconst C (v := (1 : Int32)) dL_law_609 (by decide) ?_
        refine ab_iadd C dL_law_610 ?_
        obtain ⟨c_201, f⟩ := f
        refine ab_sld C hX c_201 (j := (y3 + (1 : Int32)).toNatClampNeg) rfl dL_law_611 ?_
        obtain ⟨c_202, f⟩ := f
        obtain ⟨c_203, f⟩ := f
        refine ab_callV C (k := (kc + 0)) (n := (nc + 0)) (rest := [.int v_198]) [.int (xs ((y3 + (1 : Int32)).toNatClampNeg))] cl_L_66 (mt_X8_untell  hw_200 f) rfl (by decide) kd_105 (wf_lt hw_200 kd_105 rfl) ⟨rfl, rfl, Nat.le_of_ble_eq_true rfl, Nat.le_of_ble_eq_true rfl, c_202, c_203⟩ rfl rfl (Nat.le_of_ble_eq_true rfl) dL_law_612 (ab_kh (k := ((kc + 0) + 0)) (n := ((nc + 0) + 0)) (fun v_204 h_205 hw_206 f => ?_))
        refine ab_icmp_eq C (tgt := 1431) dL_law_615 (by decide) (fun c_207 => ?_) (fun c_207 => ?_)
        · have f := f.1 c_207
          refine ab_iinc C (lv' := [(3, .int (y3 + (6 : Int32))), (0, .ref b), (1, .ref (G.1 + 0)), (2, .ref (G.1 + 105))]) 3 (v := (y3 + (6 : Int32))) dL_law_1431 rfl rfl (by decide) rfl ?_
          refine ab_goto C (tgt := 18) dL_law_1434 (by decide) ?_
          refine ab_sub (lv' := [(0, .ref b), (1, .ref (G.1 + 0)), (2, .ref (G.1 + 105)), (3, .int (y3 + (6 : Int32)))]) [1, 2, 3, 0] rfl ?_
          exact ih (y3 + (6 : Int32)) ((kc + 0) + 0) ((nc + 0) + 0) h_205  hw_206 f
        · have f := f.2 c_207
          refine ab_iconst C (v := (0 : Int32)) dL_law_618 (by decide) ?_
          exact absurd f id
      have f := f.2 c_194
      by_cases c_208 : ((xs y3.toNatClampNeg) &&& (63 : Int32)) = (12 : Int32)
      · have f := f.1 c_208
        refine ab_tabC C (off := 587) (tgt := 620) dL_law_33 c_208 (by decide) (by decide) (by decide) (by decide) ?_
        refine ab_aload_n C 1 dL_law_620 rfl rfl ?_
        refine ab_aload_n C 0 dL_law_621 rfl rfl ?_
        refine ab_iload_n C 3 dL_law_622 rfl rfl ?_
        refine ab_iconst C (v := (1 : Int32)) dL_law_623 (by decide) ?_
        refine ab_iadd C dL_law_624 ?_
        obtain ⟨c_209, f⟩ := f
        refine ab_sld C hX c_209 (j := (y3 + (1 : Int32)).toNatClampNeg) rfl dL_law_625 ?_
        obtain ⟨c_210, f⟩ := f
        obtain ⟨c_211, f⟩ := f
        refine ab_callV C (k := kc) (n := nc) (rest := []) [.int (xs ((y3 + (1 : Int32)).toNatClampNeg))] cl_L_67 (mt_X7_days  hw f) rfl (by decide) kd_0 (wf_lt hw kd_0 rfl) ⟨rfl, rfl, Nat.le_of_ble_eq_true rfl, Nat.le_of_ble_eq_true rfl, c_210, c_211⟩ rfl rfl (Nat.le_of_ble_eq_true rfl) dL_law_626 (ab_kh (k := (kc + 0)) (n := (nc + 0)) (fun v_212 h_213 hw_214 f => ?_))
        refine ab_aload_n C 2 dL_law_629 rfl rfl ?_
        refine ab_aload_n C 0 dL_law_630 rfl rfl ?_
        refine ab_iload_n C 3 dL_law_631 rfl rfl ?_
        refine ab_iconst C (v := (1 : Int32)) dL_law_632 (by decide) ?_
        refine ab_iadd C dL_law_633 ?_
        obtain ⟨c_215, f⟩ := f
        refine ab_sld C hX c_215 (j := (y3 + (1 : Int32)).toNatClampNeg) rfl dL_law_634 ?_
        obtain ⟨c_216, f⟩ := f
        obtain ⟨c_217, f⟩ := f
        refine ab_callV C (k := (kc + 0)) (n := (nc + 0)) (rest := [.int v_212]) [.int (xs ((y3 + (1 : Int32)).toNatClampNeg))] cl_L_70 (mt_X8_days  hw_214 f) rfl (by decide) kd_105 (wf_lt hw_214 kd_105 rfl) ⟨rfl, rfl, Nat.le_of_ble_eq_true rfl, Nat.le_of_ble_eq_true rfl, c_216, c_217⟩ rfl rfl (Nat.le_of_ble_eq_true rfl) dL_law_635 (ab_kh (k := ((kc + 0) + 0)) (n := ((nc + 0) + 0)) (fun v_218 h_219 hw_220 f => ?_))
        refine ab_icmp_eq C (tgt := 1431) dL_law_638 (by decide) (fun c_221 => ?_) (fun c_221 => ?_)
        · have f := f.1 c_221
          refine ab_iinc C (lv' := [(3, .int (y3 + (6 : Int32))), (0, .ref b), (1, .ref (G.1 + 0)), (2, .ref (G.1 + 105))]) 3 (v := (y3 + (6 : Int32))) dL_law_1431 rfl rfl (by decide) rfl ?_
          refine ab_goto C (tgt := 18) dL_law_1434 (by decide) ?_
          refine ab_sub (lv' := [(0, .ref b), (1, .ref (G.1 + 0)), (2, .ref (G.1 + 105)), (3, .int (y3 + (6 : Int32)))]) [1, 2, 3, 0] rfl ?_
          exact ih (y3 + (6 : Int32)) ((kc + 0) + 0) ((nc + 0) + 0) h_219  hw_220 f
        · have f := f.2 c_221
          refine ab_iconst C (v := (0 : Int32)) dL_law_641 (by decide) ?_
          exact absurd f id
      have f := f.2 c_208
      by_cases c_222 : ((xs y3.toNatClampNeg) &&& (63 : Int32)) = (13 : Int32)
      · have f := f.1 c_222
        refine ab_tabC C (off := 610) (tgt := 643) dL_law_33 c_222 (by decide) (by decide) (by decide) (by decide) ?_
        refine ab_aload_n C 1 dL_law_643 rfl rfl ?_
        refine ab_aload_n C 0 dL_law_644 rfl rfl ?_
        refine ab_iload_n C 3 dL_law_645 rfl rfl ?_
        refine ab_iconst C (v := (1 : Int32)) dL_law_646 (by decide) ?_
        refine ab_iadd C dL_law_647 ?_
        obtain ⟨c_223, f⟩ := f
        refine ab_sld C hX c_223 (j := (y3 + (1 : Int32)).toNatClampNeg) rfl dL_law_648 ?_
        obtain ⟨c_224, f⟩ := f
        obtain ⟨c_225, f⟩ := f
        refine ab_callV C (k := kc) (n := nc) (rest := []) [.int (xs ((y3 + (1 : Int32)).toNatClampNeg))] cl_L_71 (mt_X7_draws  hw f) rfl (by decide) kd_0 (wf_lt hw kd_0 rfl) ⟨rfl, rfl, Nat.le_of_ble_eq_true rfl, Nat.le_of_ble_eq_true rfl, c_224, c_225⟩ rfl rfl (Nat.le_of_ble_eq_true rfl) dL_law_649 (ab_kh (k := (kc + 0)) (n := (nc + 0)) (fun v_226 h_227 hw_228 f => ?_))
        refine ab_aload_n C 2 dL_law_652 rfl rfl ?_
        refine ab_aload_n C 0 dL_law_653 rfl rfl ?_
        refine ab_iload_n C 3 dL_law_654 rfl rfl ?_
        refine ab_iconst C (v := (1 : Int32)) dL_law_655 (by decide) ?_
        refine ab_iadd C dL_law_656 ?_
        obtain ⟨c_229, f⟩ := f
        refine ab_sld C hX c_229 (j := (y3 + (1 : Int32)).toNatClampNeg) rfl dL_law_657 ?_
        obtain ⟨c_230, f⟩ := f
        obtain ⟨c_231, f⟩ := f
        refine ab_callV C (k := (kc + 0)) (n := (nc + 0)) (rest := [.int v_226]) [.int (xs ((y3 + (1 : Int32)).toNatClampNeg))] cl_L_74 (mt_X8_draws  hw_228 f) rfl (by decide) kd_105 (wf_lt hw_228 kd_105 rfl) ⟨rfl, rfl, Nat.le_of_ble_eq_true rfl, Nat.le_of_ble_eq_true rfl, c_230, c_231⟩ rfl rfl (Nat.le_of_ble_eq_true rfl) dL_law_658 (ab_kh (k := ((kc + 0) + 0)) (n := ((nc + 0) + 0)) (fun v_232 h_233 hw_234 f => ?_))
        refine ab_icmp_eq C (tgt := 1431) dL_law_661 (by decide) (fun c_235 => ?_) (fun c_235 => ?_)
        · have f := f.1 c_235
          refine ab_iinc C (lv' := [(3, .int (y3 + (6 : Int32))), (0, .ref b), (1, .ref (G.1 + 0)), (2, .ref (G.1 + 105))]) 3 (v := (y3 + (6 : Int32))) dL_law_1431 rfl rfl (by decide) rfl ?_
          refine ab_goto C (tgt := 18) dL_law_1434 (by decide) ?_
          refine ab_sub (lv' := [(0, .ref b), (1, .ref (G.1 + 0)), (2, .ref (G.1 + 105)), (3, .int (y3 + (6 : Int32)))]) [1, 2, 3, 0] rfl ?_
          exact ih (y3 + (6 : Int32)) ((kc + 0) + 0) ((nc + 0) + 0) h_233  hw_234 f
        · have f := f.2 c_235
          refine ab_iconst C (v := (0 : Int32)) dL_law_664 (by decide) ?_
          exact absurd f id
      have f := f.2 c_222
      by_cases c_236 : ((xs y3.toNatClampNeg) &&& (63 : Int32)) = (14 : Int32)
      · have f := f.1 c_236
        refine ab_tabC C (off := 633) (tgt := 666) dL_law_33 c_236 (by decide) (by decide) (by decide) (by decide) ?_
        refine ab_aload_n C 1 dL_law_666 rfl rfl ?_
        refine ab_aload_n C 0 dL_law_667 rfl rfl ?_
        refine ab_iload_n C 3 dL_law_668 rfl rfl ?_
        refine ab_iconst C (v := (1 : Int32)) dL_law_669 (by decide) ?_
        refine ab_iadd C dL_law_670 ?_
        obtain ⟨c_237, f⟩ := f
        refine ab_sld C hX c_237 (j := (y3 + (1 : Int32)).toNatClampNeg) rfl dL_law_671 ?_
        obtain ⟨c_238, f⟩ := f
        obtain ⟨c_239, f⟩ := f
        refine ab_callV C (k := kc) (n := nc) (rest := []) [.int (xs ((y3 + (1 : Int32)).toNatClampNeg))] cl_L_75 (mt_X7_misheard  hw f) rfl (by decide) kd_0 (wf_lt hw kd_0 rfl) ⟨rfl, rfl, Nat.le_of_ble_eq_true rfl, Nat.le_of_ble_eq_true rfl, c_238, c_239⟩ rfl rfl (Nat.le_of_ble_eq_true rfl) dL_law_672 (ab_kh (k := (kc + 0)) (n := (nc + 0)) (fun v_240 h_241 hw_242 f => ?_))
        refine ab_aload_n C 2 dL_law_675 rfl rfl ?_
        refine ab_aload_n C 0 dL_law_676 rfl rfl ?_
        refine ab_iload_n C 3 dL_law_677 rfl rfl ?_
        refine ab_iconst C (v := (1 : Int32)) dL_law_678 (by decide) ?_
        refine ab_iadd C dL_law_679 ?_
        obtain ⟨c_243, f⟩ := f
        refine ab_sld C hX c_243 (j := (y3 + (1 : Int32)).toNatClampNeg) rfl dL_law_680 ?_
        obtain ⟨c_244, f⟩ := f
        obtain ⟨c_245, f⟩ := f
        refine ab_callV C (k := (kc + 0)) (n := (nc + 0)) (rest := [.int v_240]) [.int (xs ((y3 + (1 : Int32)).toNatClampNeg))] cl_L_78 (mt_X8_misheard  hw_242 f) rfl (by decide) kd_105 (wf_lt hw_242 kd_105 rfl) ⟨rfl, rfl, Nat.le_of_ble_eq_true rfl, Nat.le_of_ble_eq_true rfl, c_244, c_245⟩ rfl rfl (Nat.le_of_ble_eq_true rfl) dL_law_681 (ab_kh (k := ((kc + 0) + 0)) (n := ((nc + 0) + 0)) (fun v_246 h_247 hw_248 f => ?_))
        refine ab_icmp_eq C (tgt := 1431) dL_law_684 (by decide) (fun c_249 => ?_) (fun c_249 => ?_)
        · have f := f.1 c_249
          refine ab_iinc C (lv' := [(3, .int (y3 + (6 : Int32))), (0, .ref b), (1, .ref (G.1 + 0)), (2, .ref (G.1 + 105))]) 3 (v := (y3 + (6 : Int32))) dL_law_1431 rfl rfl (by decide) rfl ?_
          refine ab_goto C (tgt := 18) dL_law_1434 (by decide) ?_
          refine ab_sub (lv' := [(0, .ref b), (1, .ref (G.1 + 0)), (2, .ref (G.1 + 105)), (3, .int (y3 + (6 : Int32)))]) [1, 2, 3, 0] rfl ?_
          exact ih (y3 + (6 : Int32)) ((kc + 0) + 0) ((nc + 0) + 0) h_247  hw_248 f
        · have f := f.2 c_249
          refine ab_iconst C (v := (0 : Int32)) dL_law_687 (by decide) ?_
          exact absurd f id
      have f := f.2 c_236
      by_cases c_250 : ((xs y3.toNatClampNeg) &&& (63 : Int32)) = (15 : Int32)
      · have f := f.1 c_250
        refine ab_tabC C (off := 656) (tgt := 689) dL_law_33 c_250 (by decide) (by decide) (by decide) (by decide) ?_
        refine ab_aload_n C 1 dL_law_689 rfl rfl ?_
        refine ab_aload_n C 0 dL_law_690 rfl rfl ?_
        refine ab_iload_n C 3 dL_law_691 rfl rfl ?_
        refine ab_iconst C (v := (1 : Int32)) dL_law_692 (by decide) ?_
        refine ab_iadd C dL_law_693 ?_
        obtain ⟨c_251, f⟩ := f
        refine ab_sld C hX c_251 (j := (y3 + (1 : Int32)).toNatClampNeg) rfl dL_law_694 ?_
        obtain ⟨c_252, f⟩ := f
        obtain ⟨c_253, f⟩ := f
        refine ab_callV C (k := kc) (n := nc) (rest := []) [.int (xs ((y3 + (1 : Int32)).toNatClampNeg))] cl_L_79 (mt_X7_seed  hw f) rfl (by decide) kd_0 (wf_lt hw kd_0 rfl) ⟨rfl, rfl, Nat.le_of_ble_eq_true rfl, Nat.le_of_ble_eq_true rfl, c_252, c_253⟩ rfl rfl (Nat.le_of_ble_eq_true rfl) dL_law_695 (ab_kh (k := (kc + 0)) (n := (nc + 0)) (fun v_254 h_255 hw_256 f => ?_))
        refine ab_aload_n C 2 dL_law_698 rfl rfl ?_
        refine ab_aload_n C 0 dL_law_699 rfl rfl ?_
        refine ab_iload_n C 3 dL_law_700 rfl rfl ?_
        refine ab_iconst C (v := (1 : Int32)) dL_law_701 (by decide) ?_
        refine ab_iadd C dL_law_702 ?_
        obtain ⟨c_257, f⟩ := f
        refine ab_sld C hX c_257 (j := (y3 + (1 : Int32)).toNatClampNeg) rfl dL_law_703 ?_
        obtain ⟨c_258, f⟩ := f
        obtain ⟨c_259, f⟩ := f
        refine ab_callV C (k := (kc + 0)) (n := (nc + 0)) (rest := [.int v_254]) [.int (xs ((y3 + (1 : Int32)).toNatClampNeg))] cl_L_82 (mt_X8_seed  hw_256 f) rfl (by decide) kd_105 (wf_lt hw_256 kd_105 rfl) ⟨rfl, rfl, Nat.le_of_ble_eq_true rfl, Nat.le_of_ble_eq_true rfl, c_258, c_259⟩ rfl rfl (Nat.le_of_ble_eq_true rfl) dL_law_704 (ab_kh (k := ((kc + 0) + 0)) (n := ((nc + 0) + 0)) (fun v_260 h_261 hw_262 f => ?_))
        refine ab_icmp_eq C (tgt := 1431) dL_law_707 (by decide) (fun c_263 => ?_) (fun c_263 => ?_)
        · have f := f.1 c_263
          refine ab_iinc C (lv' := [(3, .int (y3 + (6 : Int32))), (0, .ref b), (1, .ref (G.1 + 0)), (2, .ref (G.1 + 105))]) 3 (v := (y3 + (6 : Int32))) dL_law_1431 rfl rfl (by decide) rfl ?_
          refine ab_goto C (tgt := 18) dL_law_1434 (by decide) ?_
          refine ab_sub (lv' := [(0, .ref b), (1, .ref (G.1 + 0)), (2, .ref (G.1 + 105)), (3, .int (y3 + (6 : Int32)))]) [1, 2, 3, 0] rfl ?_
          exact ih (y3 + (6 : Int32)) ((kc + 0) + 0) ((nc + 0) + 0) h_261  hw_262 f
        · have f := f.2 c_263
          refine ab_iconst C (v := (0 : Int32)) dL_law_710 (by decide) ?_
          exact absurd f id
      have f := f.2 c_250
      by_cases c_264 : ((xs y3.toNatClampNeg) &&& (63 : Int32)) = (16 : Int32)
      · have f := f.1 c_264
        refine ab_tabC C (off := 679) (tgt := 712) dL_law_33 c_264 (by decide) (by decide) (by decide) (by decide) ?_
        refine ab_aload_n C 1 dL_law_712 rfl rfl ?_
        refine ab_aload_n C 0 dL_law_713 rfl rfl ?_
        refine ab_iload_n C 3 dL_law_714 rfl rfl ?_
        refine ab_iconst C (v := (1 : Int32)) dL_law_715 (by decide) ?_
        refine ab_iadd C dL_law_716 ?_
        obtain ⟨c_265, f⟩ := f
        refine ab_sld C hX c_265 (j := (y3 + (1 : Int32)).toNatClampNeg) rfl dL_law_717 ?_
        refine ab_aload_n C 0 dL_law_718 rfl rfl ?_
        refine ab_iload_n C 3 dL_law_719 rfl rfl ?_
        refine ab_iconst C (v := (2 : Int32)) dL_law_720 (by decide) ?_
        refine ab_iadd C dL_law_721 ?_
        obtain ⟨c_266, f⟩ := f
        refine ab_sld C hX c_266 (j := (y3 + (2 : Int32)).toNatClampNeg) rfl dL_law_722 ?_
        refine ab_aload_n C 0 dL_law_723 rfl rfl ?_
        refine ab_iload_n C 3 dL_law_724 rfl rfl ?_
        refine ab_iconst C (v := (3 : Int32)) dL_law_725 (by decide) ?_
        refine ab_iadd C dL_law_726 ?_
        obtain ⟨c_267, f⟩ := f
        refine ab_sld C hX c_267 (j := (y3 + (3 : Int32)).toNatClampNeg) rfl dL_law_727 ?_
        obtain ⟨c_268, f⟩ := f
        obtain ⟨c_269, f⟩ := f
        refine ab_callV C (k := kc) (n := nc) (rest := []) [.int (xs ((y3 + (1 : Int32)).toNatClampNeg)), .int (xs ((y3 + (2 : Int32)).toNatClampNeg)), .int (xs ((y3 + (3 : Int32)).toNatClampNeg))] cl_L_83 (mt_X7_then  hw f) rfl (by decide) kd_0 (wf_lt hw kd_0 rfl) ⟨rfl, rfl, Nat.le_of_ble_eq_true rfl, Nat.le_of_ble_eq_true rfl, c_268, c_269⟩ rfl rfl (Nat.le_of_ble_eq_true rfl) dL_law_728 (ab_kh (k := (kc + 0)) (n := (nc + 0)) (fun v_270 h_271 hw_272 f => ?_))
        refine ab_aload_n C 2 dL_law_731 rfl rfl ?_
        refine ab_aload_n C 0 dL_law_732 rfl rfl ?_
        refine ab_iload_n C 3 dL_law_733 rfl rfl ?_
        refine ab_iconst C (v := (1 : Int32)) dL_law_734 (by decide) ?_
        refine ab_iadd C dL_law_735 ?_
        obtain ⟨c_273, f⟩ := f
        refine ab_sld C hX c_273 (j := (y3 + (1 : Int32)).toNatClampNeg) rfl dL_law_736 ?_
        refine ab_aload_n C 0 dL_law_737 rfl rfl ?_
        refine ab_iload_n C 3 dL_law_738 rfl rfl ?_
        refine ab_iconst C (v := (2 : Int32)) dL_law_739 (by decide) ?_
        refine ab_iadd C dL_law_740 ?_
        obtain ⟨c_274, f⟩ := f
        refine ab_sld C hX c_274 (j := (y3 + (2 : Int32)).toNatClampNeg) rfl dL_law_741 ?_
        refine ab_aload_n C 0 dL_law_742 rfl rfl ?_
        refine ab_iload_n C 3 dL_law_743 rfl rfl ?_
        refine ab_iconst C (v := (3 : Int32)) dL_law_744 (by decide) ?_
        refine ab_iadd C dL_law_745 ?_
        obtain ⟨c_275, f⟩ := f
        refine ab_sld C hX c_275 (j := (y3 + (3 : Int32)).toNatClampNeg) rfl dL_law_746 ?_
        obtain ⟨c_276, f⟩ := f
        obtain ⟨c_277, f⟩ := f
        refine ab_callV C (k := (kc + 0)) (n := (nc + 0)) (rest := [.int v_270]) [.int (xs ((y3 + (1 : Int32)).toNatClampNeg)), .int (xs ((y3 + (2 : Int32)).toNatClampNeg)), .int (xs ((y3 + (3 : Int32)).toNatClampNeg))] cl_L_86 (mt_X8_then  hw_272 f) rfl (by decide) kd_105 (wf_lt hw_272 kd_105 rfl) ⟨rfl, rfl, Nat.le_of_ble_eq_true rfl, Nat.le_of_ble_eq_true rfl, c_276, c_277⟩ rfl rfl (Nat.le_of_ble_eq_true rfl) dL_law_747 (ab_kh (k := ((kc + 0) + 0)) (n := ((nc + 0) + 0)) (fun v_278 h_279 hw_280 f => ?_))
        refine ab_icmp_eq C (tgt := 1431) dL_law_750 (by decide) (fun c_281 => ?_) (fun c_281 => ?_)
        · have f := f.1 c_281
          refine ab_iinc C (lv' := [(3, .int (y3 + (6 : Int32))), (0, .ref b), (1, .ref (G.1 + 0)), (2, .ref (G.1 + 105))]) 3 (v := (y3 + (6 : Int32))) dL_law_1431 rfl rfl (by decide) rfl ?_
          refine ab_goto C (tgt := 18) dL_law_1434 (by decide) ?_
          refine ab_sub (lv' := [(0, .ref b), (1, .ref (G.1 + 0)), (2, .ref (G.1 + 105)), (3, .int (y3 + (6 : Int32)))]) [1, 2, 3, 0] rfl ?_
          exact ih (y3 + (6 : Int32)) ((kc + 0) + 0) ((nc + 0) + 0) h_279  hw_280 f
        · have f := f.2 c_281
          refine ab_iconst C (v := (0 : Int32)) dL_law_753 (by decide) ?_
          exact absurd f id
      have f := f.2 c_264
      by_cases c_282 : ((xs y3.toNatClampNeg) &&& (63 : Int32)) = (17 : Int32)
      · have f := f.1 c_282
        refine ab_tabC C (off := 722) (tgt := 755) dL_law_33 c_282 (by decide) (by decide) (by decide) (by decide) ?_
        refine ab_aload_n C 1 dL_law_755 rfl rfl ?_
        refine ab_aload_n C 0 dL_law_756 rfl rfl ?_
        refine ab_iload_n C 3 dL_law_757 rfl rfl ?_
        refine ab_iconst C (v := (1 : Int32)) dL_law_758 (by decide) ?_
        refine ab_iadd C dL_law_759 ?_
        obtain ⟨c_283, f⟩ := f
        refine ab_sld C hX c_283 (j := (y3 + (1 : Int32)).toNatClampNeg) rfl dL_law_760 ?_
        refine ab_aload_n C 0 dL_law_761 rfl rfl ?_
        refine ab_iload_n C 3 dL_law_762 rfl rfl ?_
        refine ab_iconst C (v := (2 : Int32)) dL_law_763 (by decide) ?_
        refine ab_iadd C dL_law_764 ?_
        obtain ⟨c_284, f⟩ := f
        refine ab_sld C hX c_284 (j := (y3 + (2 : Int32)).toNatClampNeg) rfl dL_law_765 ?_
        refine ab_aload_n C 0 dL_law_766 rfl rfl ?_
        refine ab_iload_n C 3 dL_law_767 rfl rfl ?_
        refine ab_iconst C (v := (3 : Int32)) dL_law_768 (by decide) ?_
        refine ab_iadd C dL_law_769 ?_
        obtain ⟨c_285, f⟩ := f
        refine ab_sld C hX c_285 (j := (y3 + (3 : Int32)).toNatClampNeg) rfl dL_law_770 ?_
        obtain ⟨c_286, f⟩ := f
        obtain ⟨c_287, f⟩ := f
        refine ab_callV C (k := kc) (n := nc) (rest := []) [.int (xs ((y3 + (1 : Int32)).toNatClampNeg)), .int (xs ((y3 + (2 : Int32)).toNatClampNeg)), .int (xs ((y3 + (3 : Int32)).toNatClampNeg))] cl_L_87 (mt_X7_thenTask  hw f) rfl (by decide) kd_0 (wf_lt hw kd_0 rfl) ⟨rfl, rfl, Nat.le_of_ble_eq_true rfl, Nat.le_of_ble_eq_true rfl, c_286, c_287⟩ rfl rfl (Nat.le_of_ble_eq_true rfl) dL_law_771 (ab_kh (k := (kc + 0)) (n := (nc + 0)) (fun v_288 h_289 hw_290 f => ?_))
        refine ab_aload_n C 2 dL_law_774 rfl rfl ?_
        refine ab_aload_n C 0 dL_law_775 rfl rfl ?_
        refine ab_iload_n C 3 dL_law_776 rfl rfl ?_
        refine ab_iconst C (v := (1 : Int32)) dL_law_777 (by decide) ?_
        refine ab_iadd C dL_law_778 ?_
        obtain ⟨c_291, f⟩ := f
        refine ab_sld C hX c_291 (j := (y3 + (1 : Int32)).toNatClampNeg) rfl dL_law_779 ?_
        refine ab_aload_n C 0 dL_law_780 rfl rfl ?_
        refine ab_iload_n C 3 dL_law_781 rfl rfl ?_
        refine ab_iconst C (v := (2 : Int32)) dL_law_782 (by decide) ?_
        refine ab_iadd C dL_law_783 ?_
        obtain ⟨c_292, f⟩ := f
        refine ab_sld C hX c_292 (j := (y3 + (2 : Int32)).toNatClampNeg) rfl dL_law_784 ?_
        refine ab_aload_n C 0 dL_law_785 rfl rfl ?_
        refine ab_iload_n C 3 dL_law_786 rfl rfl ?_
        refine ab_iconst C (v := (3 : Int32)) dL_law_787 (by decide) ?_
        refine ab_iadd C dL_law_788 ?_
        obtain ⟨c_293, f⟩ := f
        refine ab_sld C hX c_293 (j := (y3 + (3 : Int32)).toNatClampNeg) rfl dL_law_789 ?_
        obtain ⟨c_294, f⟩ := f
        obtain ⟨c_295, f⟩ := f
        refine ab_callV C (k := (kc + 0)) (n := (nc + 0)) (rest := [.int v_288]) [.int (xs ((y3 + (1 : Int32)).toNatClampNeg)), .int (xs ((y3 + (2 : Int32)).toNatClampNeg)), .int (xs ((y3 + (3 : Int32)).toNatClampNeg))] cl_L_90 (mt_X8_thenTask  hw_290 f) rfl (by decide) kd_105 (wf_lt hw_290 kd_105 rfl) ⟨rfl, rfl, Nat.le_of_ble_eq_true rfl, Nat.le_of_ble_eq_true rfl, c_294, c_295⟩ rfl rfl (Nat.le_of_ble_eq_true rfl) dL_law_790 (ab_kh (k := ((kc + 0) + 0)) (n := ((nc + 0) + 0)) (fun v_296 h_297 hw_298 f => ?_))
        refine ab_icmp_eq C (tgt := 1431) dL_law_793 (by decide) (fun c_299 => ?_) (fun c_299 => ?_)
        · have f := f.1 c_299
          refine ab_iinc C (lv' := [(3, .int (y3 + (6 : Int32))), (0, .ref b), (1, .ref (G.1 + 0)), (2, .ref (G.1 + 105))]) 3 (v := (y3 + (6 : Int32))) dL_law_1431 rfl rfl (by decide) rfl ?_
          refine ab_goto C (tgt := 18) dL_law_1434 (by decide) ?_
          refine ab_sub (lv' := [(0, .ref b), (1, .ref (G.1 + 0)), (2, .ref (G.1 + 105)), (3, .int (y3 + (6 : Int32)))]) [1, 2, 3, 0] rfl ?_
          exact ih (y3 + (6 : Int32)) ((kc + 0) + 0) ((nc + 0) + 0) h_297  hw_298 f
        · have f := f.2 c_299
          refine ab_iconst C (v := (0 : Int32)) dL_law_796 (by decide) ?_
          exact absurd f id
      have f := f.2 c_282
      by_cases c_300 : ((xs y3.toNatClampNeg) &&& (63 : Int32)) = (18 : Int32)
      · have f := f.1 c_300
        refine ab_tabC C (off := 765) (tgt := 798) dL_law_33 c_300 (by decide) (by decide) (by decide) (by decide) ?_
        refine ab_aload_n C 1 dL_law_798 rfl rfl ?_
        refine ab_aload_n C 0 dL_law_799 rfl rfl ?_
        refine ab_iload_n C 3 dL_law_800 rfl rfl ?_
        refine ab_iconst C (v := (1 : Int32)) dL_law_801 (by decide) ?_
        refine ab_iadd C dL_law_802 ?_
        obtain ⟨c_301, f⟩ := f
        refine ab_sld C hX c_301 (j := (y3 + (1 : Int32)).toNatClampNeg) rfl dL_law_803 ?_
        refine ab_aload_n C 0 dL_law_804 rfl rfl ?_
        refine ab_iload_n C 3 dL_law_805 rfl rfl ?_
        refine ab_iconst C (v := (2 : Int32)) dL_law_806 (by decide) ?_
        refine ab_iadd C dL_law_807 ?_
        obtain ⟨c_302, f⟩ := f
        refine ab_sld C hX c_302 (j := (y3 + (2 : Int32)).toNatClampNeg) rfl dL_law_808 ?_
        obtain ⟨c_303, f⟩ := f
        obtain ⟨c_304, f⟩ := f
        refine ab_callV C (k := kc) (n := nc) (rest := []) [.int (xs ((y3 + (1 : Int32)).toNatClampNeg)), .int (xs ((y3 + (2 : Int32)).toNatClampNeg))] cl_L_91 (mt_X7_lost  hw f) rfl (by decide) kd_0 (wf_lt hw kd_0 rfl) ⟨rfl, rfl, Nat.le_of_ble_eq_true rfl, Nat.le_of_ble_eq_true rfl, c_303, c_304⟩ rfl rfl (Nat.le_of_ble_eq_true rfl) dL_law_809 (ab_kh (k := (kc + 0)) (n := (nc + 0)) (fun v_305 h_306 hw_307 f => ?_))
        refine ab_aload_n C 2 dL_law_812 rfl rfl ?_
        refine ab_aload_n C 0 dL_law_813 rfl rfl ?_
        refine ab_iload_n C 3 dL_law_814 rfl rfl ?_
        refine ab_iconst C (v := (1 : Int32)) dL_law_815 (by decide) ?_
        refine ab_iadd C dL_law_816 ?_
        obtain ⟨c_308, f⟩ := f
        refine ab_sld C hX c_308 (j := (y3 + (1 : Int32)).toNatClampNeg) rfl dL_law_817 ?_
        refine ab_aload_n C 0 dL_law_818 rfl rfl ?_
        refine ab_iload_n C 3 dL_law_819 rfl rfl ?_
        refine ab_iconst C (v := (2 : Int32)) dL_law_820 (by decide) ?_
        refine ab_iadd C dL_law_821 ?_
        obtain ⟨c_309, f⟩ := f
        refine ab_sld C hX c_309 (j := (y3 + (2 : Int32)).toNatClampNeg) rfl dL_law_822 ?_
        obtain ⟨c_310, f⟩ := f
        obtain ⟨c_311, f⟩ := f
        refine ab_callV C (k := (kc + 0)) (n := (nc + 0)) (rest := [.int v_305]) [.int (xs ((y3 + (1 : Int32)).toNatClampNeg)), .int (xs ((y3 + (2 : Int32)).toNatClampNeg))] cl_L_94 (mt_X8_lost  hw_307 f) rfl (by decide) kd_105 (wf_lt hw_307 kd_105 rfl) ⟨rfl, rfl, Nat.le_of_ble_eq_true rfl, Nat.le_of_ble_eq_true rfl, c_310, c_311⟩ rfl rfl (Nat.le_of_ble_eq_true rfl) dL_law_823 (ab_kh (k := ((kc + 0) + 0)) (n := ((nc + 0) + 0)) (fun v_312 h_313 hw_314 f => ?_))
        refine ab_icmp_eq C (tgt := 1431) dL_law_826 (by decide) (fun c_315 => ?_) (fun c_315 => ?_)
        · have f := f.1 c_315
          refine ab_iinc C (lv' := [(3, .int (y3 + (6 : Int32))), (0, .ref b), (1, .ref (G.1 + 0)), (2, .ref (G.1 + 105))]) 3 (v := (y3 + (6 : Int32))) dL_law_1431 rfl rfl (by decide) rfl ?_
          refine ab_goto C (tgt := 18) dL_law_1434 (by decide) ?_
          refine ab_sub (lv' := [(0, .ref b), (1, .ref (G.1 + 0)), (2, .ref (G.1 + 105)), (3, .int (y3 + (6 : Int32)))]) [1, 2, 3, 0] rfl ?_
          exact ih (y3 + (6 : Int32)) ((kc + 0) + 0) ((nc + 0) + 0) h_313  hw_314 f
        · have f := f.2 c_315
          refine ab_iconst C (v := (0 : Int32)) dL_law_829 (by decide) ?_
          exact absurd f id
      have f := f.2 c_300
      by_cases c_316 : ((xs y3.toNatClampNeg) &&& (63 : Int32)) = (19 : Int32)
      · have f := f.1 c_316
        refine ab_tabC C (off := 798) (tgt := 831) dL_law_33 c_316 (by decide) (by decide) (by decide) (by decide) ?_
        refine ab_aload_n C 1 dL_law_831 rfl rfl ?_
        refine ab_aload_n C 0 dL_law_832 rfl rfl ?_
        refine ab_iload_n C 3 dL_law_833 rfl rfl ?_
        refine ab_iconst C (v := (1 : Int32)) dL_law_834 (by decide) ?_
        refine ab_iadd C dL_law_835 ?_
        obtain ⟨c_317, f⟩ := f
        refine ab_sld C hX c_317 (j := (y3 + (1 : Int32)).toNatClampNeg) rfl dL_law_836 ?_
        refine ab_aload_n C 0 dL_law_837 rfl rfl ?_
        refine ab_iload_n C 3 dL_law_838 rfl rfl ?_
        refine ab_iconst C (v := (2 : Int32)) dL_law_839 (by decide) ?_
        refine ab_iadd C dL_law_840 ?_
        obtain ⟨c_318, f⟩ := f
        refine ab_sld C hX c_318 (j := (y3 + (2 : Int32)).toNatClampNeg) rfl dL_law_841 ?_
        refine ab_aload_n C 0 dL_law_842 rfl rfl ?_
        refine ab_iload_n C 3 dL_law_843 rfl rfl ?_
        refine ab_iconst C (v := (3 : Int32)) dL_law_844 (by decide) ?_
        refine ab_iadd C dL_law_845 ?_
        obtain ⟨c_319, f⟩ := f
        refine ab_sld C hX c_319 (j := (y3 + (3 : Int32)).toNatClampNeg) rfl dL_law_846 ?_
        obtain ⟨c_320, f⟩ := f
        obtain ⟨c_321, f⟩ := f
        refine ab_callV C (k := kc) (n := nc) (rest := []) [.int (xs ((y3 + (1 : Int32)).toNatClampNeg)), .int (xs ((y3 + (2 : Int32)).toNatClampNeg)), .int (xs ((y3 + (3 : Int32)).toNatClampNeg))] cl_L_95 (mt_X7_teachers  hw f) rfl (by decide) kd_0 (wf_lt hw kd_0 rfl) ⟨rfl, rfl, Nat.le_of_ble_eq_true rfl, Nat.le_of_ble_eq_true rfl, c_320, c_321⟩ rfl rfl (Nat.le_of_ble_eq_true rfl) dL_law_847 (ab_kh (k := (kc + 0)) (n := (nc + 0)) (fun v_322 h_323 hw_324 f => ?_))
        refine ab_aload_n C 2 dL_law_850 rfl rfl ?_
        refine ab_aload_n C 0 dL_law_851 rfl rfl ?_
        refine ab_iload_n C 3 dL_law_852 rfl rfl ?_
        refine ab_iconst C (v := (1 : Int32)) dL_law_853 (by decide) ?_
        refine ab_iadd C dL_law_854 ?_
        obtain ⟨c_325, f⟩ := f
        refine ab_sld C hX c_325 (j := (y3 + (1 : Int32)).toNatClampNeg) rfl dL_law_855 ?_
        refine ab_aload_n C 0 dL_law_856 rfl rfl ?_
        refine ab_iload_n C 3 dL_law_857 rfl rfl ?_
        refine ab_iconst C (v := (2 : Int32)) dL_law_858 (by decide) ?_
        refine ab_iadd C dL_law_859 ?_
        obtain ⟨c_326, f⟩ := f
        refine ab_sld C hX c_326 (j := (y3 + (2 : Int32)).toNatClampNeg) rfl dL_law_860 ?_
        refine ab_aload_n C 0 dL_law_861 rfl rfl ?_
        refine ab_iload_n C 3 dL_law_862 rfl rfl ?_
        refine ab_iconst C (v := (3 : Int32)) dL_law_863 (by decide) ?_
        refine ab_iadd C dL_law_864 ?_
        obtain ⟨c_327, f⟩ := f
        refine ab_sld C hX c_327 (j := (y3 + (3 : Int32)).toNatClampNeg) rfl dL_law_865 ?_
        obtain ⟨c_328, f⟩ := f
        obtain ⟨c_329, f⟩ := f
        refine ab_callV C (k := (kc + 0)) (n := (nc + 0)) (rest := [.int v_322]) [.int (xs ((y3 + (1 : Int32)).toNatClampNeg)), .int (xs ((y3 + (2 : Int32)).toNatClampNeg)), .int (xs ((y3 + (3 : Int32)).toNatClampNeg))] cl_L_98 (mt_X8_teachers  hw_324 f) rfl (by decide) kd_105 (wf_lt hw_324 kd_105 rfl) ⟨rfl, rfl, Nat.le_of_ble_eq_true rfl, Nat.le_of_ble_eq_true rfl, c_328, c_329⟩ rfl rfl (Nat.le_of_ble_eq_true rfl) dL_law_866 (ab_kh (k := ((kc + 0) + 0)) (n := ((nc + 0) + 0)) (fun v_330 h_331 hw_332 f => ?_))
        refine ab_icmp_eq C (tgt := 1431) dL_law_869 (by decide) (fun c_333 => ?_) (fun c_333 => ?_)
        · have f := f.1 c_333
          refine ab_iinc C (lv' := [(3, .int (y3 + (6 : Int32))), (0, .ref b), (1, .ref (G.1 + 0)), (2, .ref (G.1 + 105))]) 3 (v := (y3 + (6 : Int32))) dL_law_1431 rfl rfl (by decide) rfl ?_
          refine ab_goto C (tgt := 18) dL_law_1434 (by decide) ?_
          refine ab_sub (lv' := [(0, .ref b), (1, .ref (G.1 + 0)), (2, .ref (G.1 + 105)), (3, .int (y3 + (6 : Int32)))]) [1, 2, 3, 0] rfl ?_
          exact ih (y3 + (6 : Int32)) ((kc + 0) + 0) ((nc + 0) + 0) h_331  hw_332 f
        · have f := f.2 c_333
          refine ab_iconst C (v := (0 : Int32)) dL_law_872 (by decide) ?_
          exact absurd f id
      have f := f.2 c_316
      by_cases c_334 : ((xs y3.toNatClampNeg) &&& (63 : Int32)) = (20 : Int32)
      · have f := f.1 c_334
        refine ab_tabC C (off := 841) (tgt := 874) dL_law_33 c_334 (by decide) (by decide) (by decide) (by decide) ?_
        refine ab_aload_n C 1 dL_law_874 rfl rfl ?_
        refine ab_aload_n C 0 dL_law_875 rfl rfl ?_
        refine ab_iload_n C 3 dL_law_876 rfl rfl ?_
        refine ab_iconst C (v := (1 : Int32)) dL_law_877 (by decide) ?_
        refine ab_iadd C dL_law_878 ?_
        obtain ⟨c_335, f⟩ := f
        refine ab_sld C hX c_335 (j := (y3 + (1 : Int32)).toNatClampNeg) rfl dL_law_879 ?_
        obtain ⟨c_336, f⟩ := f
        obtain ⟨c_337, f⟩ := f
        refine ab_callV C (k := kc) (n := nc) (rest := []) [.int (xs ((y3 + (1 : Int32)).toNatClampNeg))] cl_L_99 (mt_X7_storm  hw f) rfl (by decide) kd_0 (wf_lt hw kd_0 rfl) ⟨rfl, rfl, Nat.le_of_ble_eq_true rfl, Nat.le_of_ble_eq_true rfl, c_336, c_337⟩ rfl rfl (Nat.le_of_ble_eq_true rfl) dL_law_880 (ab_kh (k := (kc + 0)) (n := (nc + 0)) (fun v_338 h_339 hw_340 f => ?_))
        refine ab_aload_n C 2 dL_law_883 rfl rfl ?_
        refine ab_aload_n C 0 dL_law_884 rfl rfl ?_
        refine ab_iload_n C 3 dL_law_885 rfl rfl ?_
        refine ab_iconst C (v := (1 : Int32)) dL_law_886 (by decide) ?_
        refine ab_iadd C dL_law_887 ?_
        obtain ⟨c_341, f⟩ := f
        refine ab_sld C hX c_341 (j := (y3 + (1 : Int32)).toNatClampNeg) rfl dL_law_888 ?_
        obtain ⟨c_342, f⟩ := f
        obtain ⟨c_343, f⟩ := f
        refine ab_callV C (k := (kc + 0)) (n := (nc + 0)) (rest := [.int v_338]) [.int (xs ((y3 + (1 : Int32)).toNatClampNeg))] cl_L_102 (mt_X8_storm  hw_340 f) rfl (by decide) kd_105 (wf_lt hw_340 kd_105 rfl) ⟨rfl, rfl, Nat.le_of_ble_eq_true rfl, Nat.le_of_ble_eq_true rfl, c_342, c_343⟩ rfl rfl (Nat.le_of_ble_eq_true rfl) dL_law_889 (ab_kh (k := ((kc + 0) + 0)) (n := ((nc + 0) + 0)) (fun v_344 h_345 hw_346 f => ?_))
        refine ab_icmp_eq C (tgt := 1431) dL_law_892 (by decide) (fun c_347 => ?_) (fun c_347 => ?_)
        · have f := f.1 c_347
          refine ab_iinc C (lv' := [(3, .int (y3 + (6 : Int32))), (0, .ref b), (1, .ref (G.1 + 0)), (2, .ref (G.1 + 105))]) 3 (v := (y3 + (6 : Int32))) dL_law_1431 rfl rfl (by decide) rfl ?_
          refine ab_goto C (tgt := 18) dL_law_1434 (by decide) ?_
          refine ab_sub (lv' := [(0, .ref b), (1, .ref (G.1 + 0)), (2, .ref (G.1 + 105)), (3, .int (y3 + (6 : Int32)))]) [1, 2, 3, 0] rfl ?_
          exact ih (y3 + (6 : Int32)) ((kc + 0) + 0) ((nc + 0) + 0) h_345  hw_346 f
        · have f := f.2 c_347
          refine ab_iconst C (v := (0 : Int32)) dL_law_895 (by decide) ?_
          exact absurd f id
      have f := f.2 c_334
      by_cases c_348 : ((xs y3.toNatClampNeg) &&& (63 : Int32)) = (21 : Int32)
      · have f := f.1 c_348
        refine ab_tabC C (off := 864) (tgt := 897) dL_law_33 c_348 (by decide) (by decide) (by decide) (by decide) ?_
        refine ab_aload_n C 1 dL_law_897 rfl rfl ?_
        refine ab_aload_n C 0 dL_law_898 rfl rfl ?_
        refine ab_iload_n C 3 dL_law_899 rfl rfl ?_
        refine ab_iconst C (v := (1 : Int32)) dL_law_900 (by decide) ?_
        refine ab_iadd C dL_law_901 ?_
        obtain ⟨c_349, f⟩ := f
        refine ab_sld C hX c_349 (j := (y3 + (1 : Int32)).toNatClampNeg) rfl dL_law_902 ?_
        refine ab_aload_n C 0 dL_law_903 rfl rfl ?_
        refine ab_iload_n C 3 dL_law_904 rfl rfl ?_
        refine ab_iconst C (v := (2 : Int32)) dL_law_905 (by decide) ?_
        refine ab_iadd C dL_law_906 ?_
        obtain ⟨c_350, f⟩ := f
        refine ab_sld C hX c_350 (j := (y3 + (2 : Int32)).toNatClampNeg) rfl dL_law_907 ?_
        obtain ⟨c_351, f⟩ := f
        obtain ⟨c_352, f⟩ := f
        refine ab_callV C (k := kc) (n := nc) (rest := []) [.int (xs ((y3 + (1 : Int32)).toNatClampNeg)), .int (xs ((y3 + (2 : Int32)).toNatClampNeg))] cl_L_103 (mt_X7_saves  hw f) rfl (by decide) kd_0 (wf_lt hw kd_0 rfl) ⟨rfl, rfl, Nat.le_of_ble_eq_true rfl, Nat.le_of_ble_eq_true rfl, c_351, c_352⟩ rfl rfl (Nat.le_of_ble_eq_true rfl) dL_law_908 (ab_kh (k := (kc + 0)) (n := (nc + 0)) (fun v_353 h_354 hw_355 f => ?_))
        refine ab_aload_n C 2 dL_law_911 rfl rfl ?_
        refine ab_aload_n C 0 dL_law_912 rfl rfl ?_
        refine ab_iload_n C 3 dL_law_913 rfl rfl ?_
        refine ab_iconst C (v := (1 : Int32)) dL_law_914 (by decide) ?_
        refine ab_iadd C dL_law_915 ?_
        obtain ⟨c_356, f⟩ := f
        refine ab_sld C hX c_356 (j := (y3 + (1 : Int32)).toNatClampNeg) rfl dL_law_916 ?_
        refine ab_aload_n C 0 dL_law_917 rfl rfl ?_
        refine ab_iload_n C 3 dL_law_918 rfl rfl ?_
        refine ab_iconst C (v := (2 : Int32)) dL_law_919 (by decide) ?_
        refine ab_iadd C dL_law_920 ?_
        obtain ⟨c_357, f⟩ := f
        refine ab_sld C hX c_357 (j := (y3 + (2 : Int32)).toNatClampNeg) rfl dL_law_921 ?_
        obtain ⟨c_358, f⟩ := f
        obtain ⟨c_359, f⟩ := f
        refine ab_callV C (k := (kc + 0)) (n := (nc + 0)) (rest := [.int v_353]) [.int (xs ((y3 + (1 : Int32)).toNatClampNeg)), .int (xs ((y3 + (2 : Int32)).toNatClampNeg))] cl_L_106 (mt_X8_saves  hw_355 f) rfl (by decide) kd_105 (wf_lt hw_355 kd_105 rfl) ⟨rfl, rfl, Nat.le_of_ble_eq_true rfl, Nat.le_of_ble_eq_true rfl, c_358, c_359⟩ rfl rfl (Nat.le_of_ble_eq_true rfl) dL_law_922 (ab_kh (k := ((kc + 0) + 0)) (n := ((nc + 0) + 0)) (fun v_360 h_361 hw_362 f => ?_))
        refine ab_icmp_eq C (tgt := 1431) dL_law_925 (by decide) (fun c_363 => ?_) (fun c_363 => ?_)
        · have f := f.1 c_363
          refine ab_iinc C (lv' := [(3, .int (y3 + (6 : Int32))), (0, .ref b), (1, .ref (G.1 + 0)), (2, .ref (G.1 + 105))]) 3 (v := (y3 + (6 : Int32))) dL_law_1431 rfl rfl (by decide) rfl ?_
          refine ab_goto C (tgt := 18) dL_law_1434 (by decide) ?_
          refine ab_sub (lv' := [(0, .ref b), (1, .ref (G.1 + 0)), (2, .ref (G.1 + 105)), (3, .int (y3 + (6 : Int32)))]) [1, 2, 3, 0] rfl ?_
          exact ih (y3 + (6 : Int32)) ((kc + 0) + 0) ((nc + 0) + 0) h_361  hw_362 f
        · have f := f.2 c_363
          refine ab_iconst C (v := (0 : Int32)) dL_law_928 (by decide) ?_
          exact absurd f id
      have f := f.2 c_348
      by_cases c_364 : ((xs y3.toNatClampNeg) &&& (63 : Int32)) = (22 : Int32)
      · have f := f.1 c_364
        refine ab_tabC C (off := 897) (tgt := 930) dL_law_33 c_364 (by decide) (by decide) (by decide) (by decide) ?_
        refine ab_aload_n C 1 dL_law_930 rfl rfl ?_
        refine ab_aload_n C 0 dL_law_931 rfl rfl ?_
        refine ab_iload_n C 3 dL_law_932 rfl rfl ?_
        refine ab_iconst C (v := (1 : Int32)) dL_law_933 (by decide) ?_
        refine ab_iadd C dL_law_934 ?_
        obtain ⟨c_365, f⟩ := f
        refine ab_sld C hX c_365 (j := (y3 + (1 : Int32)).toNatClampNeg) rfl dL_law_935 ?_
        refine ab_aload_n C 0 dL_law_936 rfl rfl ?_
        refine ab_iload_n C 3 dL_law_937 rfl rfl ?_
        refine ab_iconst C (v := (2 : Int32)) dL_law_938 (by decide) ?_
        refine ab_iadd C dL_law_939 ?_
        obtain ⟨c_366, f⟩ := f
        refine ab_sld C hX c_366 (j := (y3 + (2 : Int32)).toNatClampNeg) rfl dL_law_940 ?_
        obtain ⟨c_367, f⟩ := f
        obtain ⟨c_368, f⟩ := f
        refine ab_callV C (k := kc) (n := nc) (rest := []) [.int (xs ((y3 + (1 : Int32)).toNatClampNeg)), .int (xs ((y3 + (2 : Int32)).toNatClampNeg))] cl_L_107 (mt_X7_changes  hw f) rfl (by decide) kd_0 (wf_lt hw kd_0 rfl) ⟨rfl, rfl, Nat.le_of_ble_eq_true rfl, Nat.le_of_ble_eq_true rfl, c_367, c_368⟩ rfl rfl (Nat.le_of_ble_eq_true rfl) dL_law_941 (ab_kh (k := (kc + 0)) (n := (nc + 0)) (fun v_369 h_370 hw_371 f => ?_))
        refine ab_aload_n C 2 dL_law_944 rfl rfl ?_
        refine ab_aload_n C 0 dL_law_945 rfl rfl ?_
        refine ab_iload_n C 3 dL_law_946 rfl rfl ?_
        refine ab_iconst C (v := (1 : Int32)) dL_law_947 (by decide) ?_
        refine ab_iadd C dL_law_948 ?_
        obtain ⟨c_372, f⟩ := f
        refine ab_sld C hX c_372 (j := (y3 + (1 : Int32)).toNatClampNeg) rfl dL_law_949 ?_
        refine ab_aload_n C 0 dL_law_950 rfl rfl ?_
        refine ab_iload_n C 3 dL_law_951 rfl rfl ?_
        refine ab_iconst C (v := (2 : Int32)) dL_law_952 (by decide) ?_
        refine ab_iadd C dL_law_953 ?_
        obtain ⟨c_373, f⟩ := f
        refine ab_sld C hX c_373 (j := (y3 + (2 : Int32)).toNatClampNeg) rfl dL_law_954 ?_
        obtain ⟨c_374, f⟩ := f
        obtain ⟨c_375, f⟩ := f
        refine ab_callV C (k := (kc + 0)) (n := (nc + 0)) (rest := [.int v_369]) [.int (xs ((y3 + (1 : Int32)).toNatClampNeg)), .int (xs ((y3 + (2 : Int32)).toNatClampNeg))] cl_L_110 (mt_X8_changes  hw_371 f) rfl (by decide) kd_105 (wf_lt hw_371 kd_105 rfl) ⟨rfl, rfl, Nat.le_of_ble_eq_true rfl, Nat.le_of_ble_eq_true rfl, c_374, c_375⟩ rfl rfl (Nat.le_of_ble_eq_true rfl) dL_law_955 (ab_kh (k := ((kc + 0) + 0)) (n := ((nc + 0) + 0)) (fun v_376 h_377 hw_378 f => ?_))
        refine ab_icmp_eq C (tgt := 1431) dL_law_958 (by decide) (fun c_379 => ?_) (fun c_379 => ?_)
        · have f := f.1 c_379
          refine ab_iinc C (lv' := [(3, .int (y3 + (6 : Int32))), (0, .ref b), (1, .ref (G.1 + 0)), (2, .ref (G.1 + 105))]) 3 (v := (y3 + (6 : Int32))) dL_law_1431 rfl rfl (by decide) rfl ?_
          refine ab_goto C (tgt := 18) dL_law_1434 (by decide) ?_
          refine ab_sub (lv' := [(0, .ref b), (1, .ref (G.1 + 0)), (2, .ref (G.1 + 105)), (3, .int (y3 + (6 : Int32)))]) [1, 2, 3, 0] rfl ?_
          exact ih (y3 + (6 : Int32)) ((kc + 0) + 0) ((nc + 0) + 0) h_377  hw_378 f
        · have f := f.2 c_379
          refine ab_iconst C (v := (0 : Int32)) dL_law_961 (by decide) ?_
          exact absurd f id
      have f := f.2 c_364
      by_cases c_380 : ((xs y3.toNatClampNeg) &&& (63 : Int32)) = (23 : Int32)
      · have f := f.1 c_380
        refine ab_tabC C (off := 930) (tgt := 963) dL_law_33 c_380 (by decide) (by decide) (by decide) (by decide) ?_
        refine ab_aload_n C 1 dL_law_963 rfl rfl ?_
        refine ab_aload_n C 0 dL_law_964 rfl rfl ?_
        refine ab_iload_n C 3 dL_law_965 rfl rfl ?_
        refine ab_iconst C (v := (1 : Int32)) dL_law_966 (by decide) ?_
        refine ab_iadd C dL_law_967 ?_
        obtain ⟨c_381, f⟩ := f
        refine ab_sld C hX c_381 (j := (y3 + (1 : Int32)).toNatClampNeg) rfl dL_law_968 ?_
        refine ab_aload_n C 0 dL_law_969 rfl rfl ?_
        refine ab_iload_n C 3 dL_law_970 rfl rfl ?_
        refine ab_iconst C (v := (2 : Int32)) dL_law_971 (by decide) ?_
        refine ab_iadd C dL_law_972 ?_
        obtain ⟨c_382, f⟩ := f
        refine ab_sld C hX c_382 (j := (y3 + (2 : Int32)).toNatClampNeg) rfl dL_law_973 ?_
        obtain ⟨c_383, f⟩ := f
        obtain ⟨c_384, f⟩ := f
        refine ab_callV C (k := kc) (n := nc) (rest := []) [.int (xs ((y3 + (1 : Int32)).toNatClampNeg)), .int (xs ((y3 + (2 : Int32)).toNatClampNeg))] cl_L_111 (mt_X7_began  hw f) rfl (by decide) kd_0 (wf_lt hw kd_0 rfl) ⟨rfl, rfl, Nat.le_of_ble_eq_true rfl, Nat.le_of_ble_eq_true rfl, c_383, c_384⟩ rfl rfl (Nat.le_of_ble_eq_true rfl) dL_law_974 (ab_kh (k := (kc + 0)) (n := (nc + 0)) (fun v_385 h_386 hw_387 f => ?_))
        refine ab_aload_n C 2 dL_law_977 rfl rfl ?_
        refine ab_aload_n C 0 dL_law_978 rfl rfl ?_
        refine ab_iload_n C 3 dL_law_979 rfl rfl ?_
        refine ab_iconst C (v := (1 : Int32)) dL_law_980 (by decide) ?_
        refine ab_iadd C dL_law_981 ?_
        obtain ⟨c_388, f⟩ := f
        refine ab_sld C hX c_388 (j := (y3 + (1 : Int32)).toNatClampNeg) rfl dL_law_982 ?_
        refine ab_aload_n C 0 dL_law_983 rfl rfl ?_
        refine ab_iload_n C 3 dL_law_984 rfl rfl ?_
        refine ab_iconst C (v := (2 : Int32)) dL_law_985 (by decide) ?_
        refine ab_iadd C dL_law_986 ?_
        obtain ⟨c_389, f⟩ := f
        refine ab_sld C hX c_389 (j := (y3 + (2 : Int32)).toNatClampNeg) rfl dL_law_987 ?_
        obtain ⟨c_390, f⟩ := f
        obtain ⟨c_391, f⟩ := f
        refine ab_callV C (k := (kc + 0)) (n := (nc + 0)) (rest := [.int v_385]) [.int (xs ((y3 + (1 : Int32)).toNatClampNeg)), .int (xs ((y3 + (2 : Int32)).toNatClampNeg))] cl_L_114 (mt_X8_began  hw_387 f) rfl (by decide) kd_105 (wf_lt hw_387 kd_105 rfl) ⟨rfl, rfl, Nat.le_of_ble_eq_true rfl, Nat.le_of_ble_eq_true rfl, c_390, c_391⟩ rfl rfl (Nat.le_of_ble_eq_true rfl) dL_law_988 (ab_kh (k := ((kc + 0) + 0)) (n := ((nc + 0) + 0)) (fun v_392 h_393 hw_394 f => ?_))
        refine ab_icmp_eq C (tgt := 1431) dL_law_991 (by decide) (fun c_395 => ?_) (fun c_395 => ?_)
        · have f := f.1 c_395
          refine ab_iinc C (lv' := [(3, .int (y3 + (6 : Int32))), (0, .ref b), (1, .ref (G.1 + 0)), (2, .ref (G.1 + 105))]) 3 (v := (y3 + (6 : Int32))) dL_law_1431 rfl rfl (by decide) rfl ?_
          refine ab_goto C (tgt := 18) dL_law_1434 (by decide) ?_
          refine ab_sub (lv' := [(0, .ref b), (1, .ref (G.1 + 0)), (2, .ref (G.1 + 105)), (3, .int (y3 + (6 : Int32)))]) [1, 2, 3, 0] rfl ?_
          exact ih (y3 + (6 : Int32)) ((kc + 0) + 0) ((nc + 0) + 0) h_393  hw_394 f
        · have f := f.2 c_395
          refine ab_iconst C (v := (0 : Int32)) dL_law_994 (by decide) ?_
          exact absurd f id
      have f := f.2 c_380
      by_cases c_396 : ((xs y3.toNatClampNeg) &&& (63 : Int32)) = (24 : Int32)
      · have f := f.1 c_396
        refine ab_tabC C (off := 963) (tgt := 996) dL_law_33 c_396 (by decide) (by decide) (by decide) (by decide) ?_
        refine ab_aload_n C 1 dL_law_996 rfl rfl ?_
        refine ab_aload_n C 0 dL_law_997 rfl rfl ?_
        refine ab_iload_n C 3 dL_law_998 rfl rfl ?_
        refine ab_iconst C (v := (1 : Int32)) dL_law_999 (by decide) ?_
        refine ab_iadd C dL_law_1000 ?_
        obtain ⟨c_397, f⟩ := f
        refine ab_sld C hX c_397 (j := (y3 + (1 : Int32)).toNatClampNeg) rfl dL_law_1001 ?_
        refine ab_aload_n C 0 dL_law_1002 rfl rfl ?_
        refine ab_iload_n C 3 dL_law_1003 rfl rfl ?_
        refine ab_iconst C (v := (2 : Int32)) dL_law_1004 (by decide) ?_
        refine ab_iadd C dL_law_1005 ?_
        obtain ⟨c_398, f⟩ := f
        refine ab_sld C hX c_398 (j := (y3 + (2 : Int32)).toNatClampNeg) rfl dL_law_1006 ?_
        obtain ⟨c_399, f⟩ := f
        obtain ⟨c_400, f⟩ := f
        refine ab_callV C (k := kc) (n := nc) (rest := []) [.int (xs ((y3 + (1 : Int32)).toNatClampNeg)), .int (xs ((y3 + (2 : Int32)).toNatClampNeg))] cl_L_115 (mt_X7_handed  hw f) rfl (by decide) kd_0 (wf_lt hw kd_0 rfl) ⟨rfl, rfl, Nat.le_of_ble_eq_true rfl, Nat.le_of_ble_eq_true rfl, c_399, c_400⟩ rfl rfl (Nat.le_of_ble_eq_true rfl) dL_law_1007 (ab_kh (k := (kc + 0)) (n := (nc + 0)) (fun v_401 h_402 hw_403 f => ?_))
        refine ab_aload_n C 2 dL_law_1010 rfl rfl ?_
        refine ab_aload_n C 0 dL_law_1011 rfl rfl ?_
        refine ab_iload_n C 3 dL_law_1012 rfl rfl ?_
        refine ab_iconst C (v := (1 : Int32)) dL_law_1013 (by decide) ?_
        refine ab_iadd C dL_law_1014 ?_
        obtain ⟨c_404, f⟩ := f
        refine ab_sld C hX c_404 (j := (y3 + (1 : Int32)).toNatClampNeg) rfl dL_law_1015 ?_
        refine ab_aload_n C 0 dL_law_1016 rfl rfl ?_
        refine ab_iload_n C 3 dL_law_1017 rfl rfl ?_
        refine ab_iconst C (v := (2 : Int32)) dL_law_1018 (by decide) ?_
        refine ab_iadd C dL_law_1019 ?_
        obtain ⟨c_405, f⟩ := f
        refine ab_sld C hX c_405 (j := (y3 + (2 : Int32)).toNatClampNeg) rfl dL_law_1020 ?_
        obtain ⟨c_406, f⟩ := f
        obtain ⟨c_407, f⟩ := f
        refine ab_callV C (k := (kc + 0)) (n := (nc + 0)) (rest := [.int v_401]) [.int (xs ((y3 + (1 : Int32)).toNatClampNeg)), .int (xs ((y3 + (2 : Int32)).toNatClampNeg))] cl_L_118 (mt_X8_handed  hw_403 f) rfl (by decide) kd_105 (wf_lt hw_403 kd_105 rfl) ⟨rfl, rfl, Nat.le_of_ble_eq_true rfl, Nat.le_of_ble_eq_true rfl, c_406, c_407⟩ rfl rfl (Nat.le_of_ble_eq_true rfl) dL_law_1021 (ab_kh (k := ((kc + 0) + 0)) (n := ((nc + 0) + 0)) (fun v_408 h_409 hw_410 f => ?_))
        refine ab_icmp_eq C (tgt := 1431) dL_law_1024 (by decide) (fun c_411 => ?_) (fun c_411 => ?_)
        · have f := f.1 c_411
          refine ab_iinc C (lv' := [(3, .int (y3 + (6 : Int32))), (0, .ref b), (1, .ref (G.1 + 0)), (2, .ref (G.1 + 105))]) 3 (v := (y3 + (6 : Int32))) dL_law_1431 rfl rfl (by decide) rfl ?_
          refine ab_goto C (tgt := 18) dL_law_1434 (by decide) ?_
          refine ab_sub (lv' := [(0, .ref b), (1, .ref (G.1 + 0)), (2, .ref (G.1 + 105)), (3, .int (y3 + (6 : Int32)))]) [1, 2, 3, 0] rfl ?_
          exact ih (y3 + (6 : Int32)) ((kc + 0) + 0) ((nc + 0) + 0) h_409  hw_410 f
        · have f := f.2 c_411
          refine ab_iconst C (v := (0 : Int32)) dL_law_1027 (by decide) ?_
          exact absurd f id
      have f := f.2 c_396
      by_cases c_412 : ((xs y3.toNatClampNeg) &&& (63 : Int32)) = (25 : Int32)
      · have f := f.1 c_412
        refine ab_tabC C (off := 996) (tgt := 1029) dL_law_33 c_412 (by decide) (by decide) (by decide) (by decide) ?_
        refine ab_aload_n C 1 dL_law_1029 rfl rfl ?_
        refine ab_aload_n C 0 dL_law_1030 rfl rfl ?_
        refine ab_iload_n C 3 dL_law_1031 rfl rfl ?_
        refine ab_iconst C (v := (1 : Int32)) dL_law_1032 (by decide) ?_
        refine ab_iadd C dL_law_1033 ?_
        obtain ⟨c_413, f⟩ := f
        refine ab_sld C hX c_413 (j := (y3 + (1 : Int32)).toNatClampNeg) rfl dL_law_1034 ?_
        obtain ⟨c_414, f⟩ := f
        obtain ⟨c_415, f⟩ := f
        refine ab_callV C (k := kc) (n := nc) (rest := []) [.int (xs ((y3 + (1 : Int32)).toNatClampNeg))] cl_L_119 (mt_X7_wages  hw f) rfl (by decide) kd_0 (wf_lt hw kd_0 rfl) ⟨rfl, rfl, Nat.le_of_ble_eq_true rfl, Nat.le_of_ble_eq_true rfl, c_414, c_415⟩ rfl rfl (Nat.le_of_ble_eq_true rfl) dL_law_1035 (ab_kh (k := (kc + 0)) (n := (nc + 0)) (fun v_416 h_417 hw_418 f => ?_))
        refine ab_aload_n C 2 dL_law_1038 rfl rfl ?_
        refine ab_aload_n C 0 dL_law_1039 rfl rfl ?_
        refine ab_iload_n C 3 dL_law_1040 rfl rfl ?_
        refine ab_iconst C (v := (1 : Int32)) dL_law_1041 (by decide) ?_
        refine ab_iadd C dL_law_1042 ?_
        obtain ⟨c_419, f⟩ := f
        refine ab_sld C hX c_419 (j := (y3 + (1 : Int32)).toNatClampNeg) rfl dL_law_1043 ?_
        obtain ⟨c_420, f⟩ := f
        obtain ⟨c_421, f⟩ := f
        refine ab_callV C (k := (kc + 0)) (n := (nc + 0)) (rest := [.int v_416]) [.int (xs ((y3 + (1 : Int32)).toNatClampNeg))] cl_L_122 (mt_X8_wages  hw_418 f) rfl (by decide) kd_105 (wf_lt hw_418 kd_105 rfl) ⟨rfl, rfl, Nat.le_of_ble_eq_true rfl, Nat.le_of_ble_eq_true rfl, c_420, c_421⟩ rfl rfl (Nat.le_of_ble_eq_true rfl) dL_law_1044 (ab_kh (k := ((kc + 0) + 0)) (n := ((nc + 0) + 0)) (fun v_422 h_423 hw_424 f => ?_))
        refine ab_icmp_eq C (tgt := 1431) dL_law_1047 (by decide) (fun c_425 => ?_) (fun c_425 => ?_)
        · have f := f.1 c_425
          refine ab_iinc C (lv' := [(3, .int (y3 + (6 : Int32))), (0, .ref b), (1, .ref (G.1 + 0)), (2, .ref (G.1 + 105))]) 3 (v := (y3 + (6 : Int32))) dL_law_1431 rfl rfl (by decide) rfl ?_
          refine ab_goto C (tgt := 18) dL_law_1434 (by decide) ?_
          refine ab_sub (lv' := [(0, .ref b), (1, .ref (G.1 + 0)), (2, .ref (G.1 + 105)), (3, .int (y3 + (6 : Int32)))]) [1, 2, 3, 0] rfl ?_
          exact ih (y3 + (6 : Int32)) ((kc + 0) + 0) ((nc + 0) + 0) h_423  hw_424 f
        · have f := f.2 c_425
          refine ab_iconst C (v := (0 : Int32)) dL_law_1050 (by decide) ?_
          exact absurd f id
      have f := f.2 c_412
      by_cases c_426 : ((xs y3.toNatClampNeg) &&& (63 : Int32)) = (26 : Int32)
      · have f := f.1 c_426
        refine ab_tabC C (off := 1019) (tgt := 1052) dL_law_33 c_426 (by decide) (by decide) (by decide) (by decide) ?_
        refine ab_aload_n C 1 dL_law_1052 rfl rfl ?_
        refine ab_aload_n C 0 dL_law_1053 rfl rfl ?_
        refine ab_iload_n C 3 dL_law_1054 rfl rfl ?_
        refine ab_iconst C (v := (1 : Int32)) dL_law_1055 (by decide) ?_
        refine ab_iadd C dL_law_1056 ?_
        obtain ⟨c_427, f⟩ := f
        refine ab_sld C hX c_427 (j := (y3 + (1 : Int32)).toNatClampNeg) rfl dL_law_1057 ?_
        refine ab_aload_n C 0 dL_law_1058 rfl rfl ?_
        refine ab_iload_n C 3 dL_law_1059 rfl rfl ?_
        refine ab_iconst C (v := (2 : Int32)) dL_law_1060 (by decide) ?_
        refine ab_iadd C dL_law_1061 ?_
        obtain ⟨c_428, f⟩ := f
        refine ab_sld C hX c_428 (j := (y3 + (2 : Int32)).toNatClampNeg) rfl dL_law_1062 ?_
        refine ab_aload_n C 0 dL_law_1063 rfl rfl ?_
        refine ab_iload_n C 3 dL_law_1064 rfl rfl ?_
        refine ab_iconst C (v := (3 : Int32)) dL_law_1065 (by decide) ?_
        refine ab_iadd C dL_law_1066 ?_
        obtain ⟨c_429, f⟩ := f
        refine ab_sld C hX c_429 (j := (y3 + (3 : Int32)).toNatClampNeg) rfl dL_law_1067 ?_
        obtain ⟨c_430, f⟩ := f
        obtain ⟨c_431, f⟩ := f
        refine ab_callV C (k := kc) (n := nc) (rest := []) [.int (xs ((y3 + (1 : Int32)).toNatClampNeg)), .int (xs ((y3 + (2 : Int32)).toNatClampNeg)), .int (xs ((y3 + (3 : Int32)).toNatClampNeg))] cl_L_123 (mt_X7_voice  hw f) rfl (by decide) kd_0 (wf_lt hw kd_0 rfl) ⟨rfl, rfl, Nat.le_of_ble_eq_true rfl, Nat.le_of_ble_eq_true rfl, c_430, c_431⟩ rfl rfl (Nat.le_of_ble_eq_true rfl) dL_law_1068 (ab_kh (k := (kc + 0)) (n := (nc + 0)) (fun v_432 h_433 hw_434 f => ?_))
        refine ab_aload_n C 2 dL_law_1071 rfl rfl ?_
        refine ab_aload_n C 0 dL_law_1072 rfl rfl ?_
        refine ab_iload_n C 3 dL_law_1073 rfl rfl ?_
        refine ab_iconst C (v := (1 : Int32)) dL_law_1074 (by decide) ?_
        refine ab_iadd C dL_law_1075 ?_
        obtain ⟨c_435, f⟩ := f
        refine ab_sld C hX c_435 (j := (y3 + (1 : Int32)).toNatClampNeg) rfl dL_law_1076 ?_
        refine ab_aload_n C 0 dL_law_1077 rfl rfl ?_
        refine ab_iload_n C 3 dL_law_1078 rfl rfl ?_
        refine ab_iconst C (v := (2 : Int32)) dL_law_1079 (by decide) ?_
        refine ab_iadd C dL_law_1080 ?_
        obtain ⟨c_436, f⟩ := f
        refine ab_sld C hX c_436 (j := (y3 + (2 : Int32)).toNatClampNeg) rfl dL_law_1081 ?_
        refine ab_aload_n C 0 dL_law_1082 rfl rfl ?_
        refine ab_iload_n C 3 dL_law_1083 rfl rfl ?_
        refine ab_iconst C (v := (3 : Int32)) dL_law_1084 (by decide) ?_
        refine ab_iadd C dL_law_1085 ?_
        obtain ⟨c_437, f⟩ := f
        refine ab_sld C hX c_437 (j := (y3 + (3 : Int32)).toNatClampNeg) rfl dL_law_1086 ?_
        obtain ⟨c_438, f⟩ := f
        obtain ⟨c_439, f⟩ := f
        refine ab_callV C (k := (kc + 0)) (n := (nc + 0)) (rest := [.int v_432]) [.int (xs ((y3 + (1 : Int32)).toNatClampNeg)), .int (xs ((y3 + (2 : Int32)).toNatClampNeg)), .int (xs ((y3 + (3 : Int32)).toNatClampNeg))] cl_L_126 (mt_X8_voice  hw_434 f) rfl (by decide) kd_105 (wf_lt hw_434 kd_105 rfl) ⟨rfl, rfl, Nat.le_of_ble_eq_true rfl, Nat.le_of_ble_eq_true rfl, c_438, c_439⟩ rfl rfl (Nat.le_of_ble_eq_true rfl) dL_law_1087 (ab_kh (k := ((kc + 0) + 0)) (n := ((nc + 0) + 0)) (fun v_440 h_441 hw_442 f => ?_))
        refine ab_icmp_eq C (tgt := 1431) dL_law_1090 (by decide) (fun c_443 => ?_) (fun c_443 => ?_)
        · have f := f.1 c_443
          refine ab_iinc C (lv' := [(3, .int (y3 + (6 : Int32))), (0, .ref b), (1, .ref (G.1 + 0)), (2, .ref (G.1 + 105))]) 3 (v := (y3 + (6 : Int32))) dL_law_1431 rfl rfl (by decide) rfl ?_
          refine ab_goto C (tgt := 18) dL_law_1434 (by decide) ?_
          refine ab_sub (lv' := [(0, .ref b), (1, .ref (G.1 + 0)), (2, .ref (G.1 + 105)), (3, .int (y3 + (6 : Int32)))]) [1, 2, 3, 0] rfl ?_
          exact ih (y3 + (6 : Int32)) ((kc + 0) + 0) ((nc + 0) + 0) h_441  hw_442 f
        · have f := f.2 c_443
          refine ab_iconst C (v := (0 : Int32)) dL_law_1093 (by decide) ?_
          exact absurd f id
      have f := f.2 c_426
      by_cases c_444 : ((xs y3.toNatClampNeg) &&& (63 : Int32)) = (27 : Int32)
      · have f := f.1 c_444
        refine ab_tabC C (off := 1062) (tgt := 1095) dL_law_33 c_444 (by decide) (by decide) (by decide) (by decide) ?_
        refine ab_aload_n C 1 dL_law_1095 rfl rfl ?_
        refine ab_aload_n C 0 dL_law_1096 rfl rfl ?_
        refine ab_iload_n C 3 dL_law_1097 rfl rfl ?_
        refine ab_iconst C (v := (1 : Int32)) dL_law_1098 (by decide) ?_
        refine ab_iadd C dL_law_1099 ?_
        obtain ⟨c_445, f⟩ := f
        refine ab_sld C hX c_445 (j := (y3 + (1 : Int32)).toNatClampNeg) rfl dL_law_1100 ?_
        obtain ⟨c_446, f⟩ := f
        obtain ⟨c_447, f⟩ := f
        refine ab_callV C (k := kc) (n := nc) (rest := []) [.int (xs ((y3 + (1 : Int32)).toNatClampNeg))] cl_L_127 (mt_X7_body  hw f) rfl (by decide) kd_0 (wf_lt hw kd_0 rfl) ⟨rfl, rfl, Nat.le_of_ble_eq_true rfl, Nat.le_of_ble_eq_true rfl, c_446, c_447⟩ rfl rfl (Nat.le_of_ble_eq_true rfl) dL_law_1101 (ab_kh (k := (kc + 0)) (n := (nc + 0)) (fun v_448 h_449 hw_450 f => ?_))
        refine ab_aload_n C 2 dL_law_1104 rfl rfl ?_
        refine ab_aload_n C 0 dL_law_1105 rfl rfl ?_
        refine ab_iload_n C 3 dL_law_1106 rfl rfl ?_
        refine ab_iconst C (v := (1 : Int32)) dL_law_1107 (by decide) ?_
        refine ab_iadd C dL_law_1108 ?_
        obtain ⟨c_451, f⟩ := f
        refine ab_sld C hX c_451 (j := (y3 + (1 : Int32)).toNatClampNeg) rfl dL_law_1109 ?_
        obtain ⟨c_452, f⟩ := f
        obtain ⟨c_453, f⟩ := f
        refine ab_callV C (k := (kc + 0)) (n := (nc + 0)) (rest := [.int v_448]) [.int (xs ((y3 + (1 : Int32)).toNatClampNeg))] cl_L_130 (mt_X8_body  hw_450 f) rfl (by decide) kd_105 (wf_lt hw_450 kd_105 rfl) ⟨rfl, rfl, Nat.le_of_ble_eq_true rfl, Nat.le_of_ble_eq_true rfl, c_452, c_453⟩ rfl rfl (Nat.le_of_ble_eq_true rfl) dL_law_1110 (ab_kh (k := ((kc + 0) + 0)) (n := ((nc + 0) + 0)) (fun v_454 h_455 hw_456 f => ?_))
        refine ab_icmp_eq C (tgt := 1431) dL_law_1113 (by decide) (fun c_457 => ?_) (fun c_457 => ?_)
        · have f := f.1 c_457
          refine ab_iinc C (lv' := [(3, .int (y3 + (6 : Int32))), (0, .ref b), (1, .ref (G.1 + 0)), (2, .ref (G.1 + 105))]) 3 (v := (y3 + (6 : Int32))) dL_law_1431 rfl rfl (by decide) rfl ?_
          refine ab_goto C (tgt := 18) dL_law_1434 (by decide) ?_
          refine ab_sub (lv' := [(0, .ref b), (1, .ref (G.1 + 0)), (2, .ref (G.1 + 105)), (3, .int (y3 + (6 : Int32)))]) [1, 2, 3, 0] rfl ?_
          exact ih (y3 + (6 : Int32)) ((kc + 0) + 0) ((nc + 0) + 0) h_455  hw_456 f
        · have f := f.2 c_457
          refine ab_iconst C (v := (0 : Int32)) dL_law_1116 (by decide) ?_
          exact absurd f id
      have f := f.2 c_444
      by_cases c_458 : ((xs y3.toNatClampNeg) &&& (63 : Int32)) = (28 : Int32)
      · have f := f.1 c_458
        refine ab_tabC C (off := 1085) (tgt := 1118) dL_law_33 c_458 (by decide) (by decide) (by decide) (by decide) ?_
        refine ab_aload_n C 1 dL_law_1118 rfl rfl ?_
        refine ab_aload_n C 0 dL_law_1119 rfl rfl ?_
        refine ab_iload_n C 3 dL_law_1120 rfl rfl ?_
        refine ab_iconst C (v := (1 : Int32)) dL_law_1121 (by decide) ?_
        refine ab_iadd C dL_law_1122 ?_
        obtain ⟨c_459, f⟩ := f
        refine ab_sld C hX c_459 (j := (y3 + (1 : Int32)).toNatClampNeg) rfl dL_law_1123 ?_
        refine ab_aload_n C 0 dL_law_1124 rfl rfl ?_
        refine ab_iload_n C 3 dL_law_1125 rfl rfl ?_
        refine ab_iconst C (v := (2 : Int32)) dL_law_1126 (by decide) ?_
        refine ab_iadd C dL_law_1127 ?_
        obtain ⟨c_460, f⟩ := f
        refine ab_sld C hX c_460 (j := (y3 + (2 : Int32)).toNatClampNeg) rfl dL_law_1128 ?_
        refine ab_aload_n C 0 dL_law_1129 rfl rfl ?_
        refine ab_iload_n C 3 dL_law_1130 rfl rfl ?_
        refine ab_iconst C (v := (3 : Int32)) dL_law_1131 (by decide) ?_
        refine ab_iadd C dL_law_1132 ?_
        obtain ⟨c_461, f⟩ := f
        refine ab_sld C hX c_461 (j := (y3 + (3 : Int32)).toNatClampNeg) rfl dL_law_1133 ?_
        obtain ⟨c_462, f⟩ := f
        obtain ⟨c_463, f⟩ := f
        refine ab_callV C (k := kc) (n := nc) (rest := []) [.int (xs ((y3 + (1 : Int32)).toNatClampNeg)), .int (xs ((y3 + (2 : Int32)).toNatClampNeg)), .int (xs ((y3 + (3 : Int32)).toNatClampNeg))] cl_L_131 (mt_X7_sheet  hw f) rfl (by decide) kd_0 (wf_lt hw kd_0 rfl) ⟨rfl, rfl, Nat.le_of_ble_eq_true rfl, Nat.le_of_ble_eq_true rfl, c_462, c_463⟩ rfl rfl (Nat.le_of_ble_eq_true rfl) dL_law_1134 (ab_kh (k := (kc + 0)) (n := (nc + 0)) (fun v_464 h_465 hw_466 f => ?_))
        refine ab_aload_n C 2 dL_law_1137 rfl rfl ?_
        refine ab_aload_n C 0 dL_law_1138 rfl rfl ?_
        refine ab_iload_n C 3 dL_law_1139 rfl rfl ?_
        refine ab_iconst C (v := (1 : Int32)) dL_law_1140 (by decide) ?_
        refine ab_iadd C dL_law_1141 ?_
        obtain ⟨c_467, f⟩ := f
        refine ab_sld C hX c_467 (j := (y3 + (1 : Int32)).toNatClampNeg) rfl dL_law_1142 ?_
        refine ab_aload_n C 0 dL_law_1143 rfl rfl ?_
        refine ab_iload_n C 3 dL_law_1144 rfl rfl ?_
        refine ab_iconst C (v := (2 : Int32)) dL_law_1145 (by decide) ?_
        refine ab_iadd C dL_law_1146 ?_
        obtain ⟨c_468, f⟩ := f
        refine ab_sld C hX c_468 (j := (y3 + (2 : Int32)).toNatClampNeg) rfl dL_law_1147 ?_
        refine ab_aload_n C 0 dL_law_1148 rfl rfl ?_
        refine ab_iload_n C 3 dL_law_1149 rfl rfl ?_
        refine ab_iconst C (v := (3 : Int32)) dL_law_1150 (by decide) ?_
        refine ab_iadd C dL_law_1151 ?_
        obtain ⟨c_469, f⟩ := f
        refine ab_sld C hX c_469 (j := (y3 + (3 : Int32)).toNatClampNeg) rfl dL_law_1152 ?_
        obtain ⟨c_470, f⟩ := f
        obtain ⟨c_471, f⟩ := f
        refine ab_callV C (k := (kc + 0)) (n := (nc + 0)) (rest := [.int v_464]) [.int (xs ((y3 + (1 : Int32)).toNatClampNeg)), .int (xs ((y3 + (2 : Int32)).toNatClampNeg)), .int (xs ((y3 + (3 : Int32)).toNatClampNeg))] cl_L_134 (mt_X8_sheet  hw_466 f) rfl (by decide) kd_105 (wf_lt hw_466 kd_105 rfl) ⟨rfl, rfl, Nat.le_of_ble_eq_true rfl, Nat.le_of_ble_eq_true rfl, c_470, c_471⟩ rfl rfl (Nat.le_of_ble_eq_true rfl) dL_law_1153 (ab_kh (k := ((kc + 0) + 0)) (n := ((nc + 0) + 0)) (fun v_472 h_473 hw_474 f => ?_))
        refine ab_icmp_eq C (tgt := 1431) dL_law_1156 (by decide) (fun c_475 => ?_) (fun c_475 => ?_)
        · have f := f.1 c_475
          refine ab_iinc C (lv' := [(3, .int (y3 + (6 : Int32))), (0, .ref b), (1, .ref (G.1 + 0)), (2, .ref (G.1 + 105))]) 3 (v := (y3 + (6 : Int32))) dL_law_1431 rfl rfl (by decide) rfl ?_
          refine ab_goto C (tgt := 18) dL_law_1434 (by decide) ?_
          refine ab_sub (lv' := [(0, .ref b), (1, .ref (G.1 + 0)), (2, .ref (G.1 + 105)), (3, .int (y3 + (6 : Int32)))]) [1, 2, 3, 0] rfl ?_
          exact ih (y3 + (6 : Int32)) ((kc + 0) + 0) ((nc + 0) + 0) h_473  hw_474 f
        · have f := f.2 c_475
          refine ab_iconst C (v := (0 : Int32)) dL_law_1159 (by decide) ?_
          exact absurd f id
      have f := f.2 c_458
      by_cases c_476 : ((xs y3.toNatClampNeg) &&& (63 : Int32)) = (29 : Int32)
      · have f := f.1 c_476
        refine ab_tabC C (off := 1128) (tgt := 1161) dL_law_33 c_476 (by decide) (by decide) (by decide) (by decide) ?_
        refine ab_aload_n C 1 dL_law_1161 rfl rfl ?_
        refine ab_aload_n C 0 dL_law_1162 rfl rfl ?_
        refine ab_iload_n C 3 dL_law_1163 rfl rfl ?_
        refine ab_iconst C (v := (1 : Int32)) dL_law_1164 (by decide) ?_
        refine ab_iadd C dL_law_1165 ?_
        obtain ⟨c_477, f⟩ := f
        refine ab_sld C hX c_477 (j := (y3 + (1 : Int32)).toNatClampNeg) rfl dL_law_1166 ?_
        refine ab_aload_n C 0 dL_law_1167 rfl rfl ?_
        refine ab_iload_n C 3 dL_law_1168 rfl rfl ?_
        refine ab_iconst C (v := (2 : Int32)) dL_law_1169 (by decide) ?_
        refine ab_iadd C dL_law_1170 ?_
        obtain ⟨c_478, f⟩ := f
        refine ab_sld C hX c_478 (j := (y3 + (2 : Int32)).toNatClampNeg) rfl dL_law_1171 ?_
        refine ab_aload_n C 0 dL_law_1172 rfl rfl ?_
        refine ab_iload_n C 3 dL_law_1173 rfl rfl ?_
        refine ab_iconst C (v := (3 : Int32)) dL_law_1174 (by decide) ?_
        refine ab_iadd C dL_law_1175 ?_
        obtain ⟨c_479, f⟩ := f
        refine ab_sld C hX c_479 (j := (y3 + (3 : Int32)).toNatClampNeg) rfl dL_law_1176 ?_
        obtain ⟨c_480, f⟩ := f
        obtain ⟨c_481, f⟩ := f
        refine ab_callV C (k := kc) (n := nc) (rest := []) [.int (xs ((y3 + (1 : Int32)).toNatClampNeg)), .int (xs ((y3 + (2 : Int32)).toNatClampNeg)), .int (xs ((y3 + (3 : Int32)).toNatClampNeg))] cl_L_135 (mt_X7_put  hw f) rfl (by decide) kd_0 (wf_lt hw kd_0 rfl) ⟨rfl, rfl, Nat.le_of_ble_eq_true rfl, Nat.le_of_ble_eq_true rfl, c_480, c_481⟩ rfl rfl (Nat.le_of_ble_eq_true rfl) dL_law_1177 (ab_kh (k := (kc + 0)) (n := (nc + 0)) (fun v_482 h_483 hw_484 f => ?_))
        refine ab_aload_n C 2 dL_law_1180 rfl rfl ?_
        refine ab_aload_n C 0 dL_law_1181 rfl rfl ?_
        refine ab_iload_n C 3 dL_law_1182 rfl rfl ?_
        refine ab_iconst C (v := (1 : Int32)) dL_law_1183 (by decide) ?_
        refine ab_iadd C dL_law_1184 ?_
        obtain ⟨c_485, f⟩ := f
        refine ab_sld C hX c_485 (j := (y3 + (1 : Int32)).toNatClampNeg) rfl dL_law_1185 ?_
        refine ab_aload_n C 0 dL_law_1186 rfl rfl ?_
        refine ab_iload_n C 3 dL_law_1187 rfl rfl ?_
        refine ab_iconst C (v := (2 : Int32)) dL_law_1188 (by decide) ?_
        refine ab_iadd C dL_law_1189 ?_
        obtain ⟨c_486, f⟩ := f
        refine ab_sld C hX c_486 (j := (y3 + (2 : Int32)).toNatClampNeg) rfl dL_law_1190 ?_
        refine ab_aload_n C 0 dL_law_1191 rfl rfl ?_
        refine ab_iload_n C 3 dL_law_1192 rfl rfl ?_
        refine ab_iconst C (v := (3 : Int32)) dL_law_1193 (by decide) ?_
        refine ab_iadd C dL_law_1194 ?_
        obtain ⟨c_487, f⟩ := f
        refine ab_sld C hX c_487 (j := (y3 + (3 : Int32)).toNatClampNeg) rfl dL_law_1195 ?_
        obtain ⟨c_488, f⟩ := f
        obtain ⟨c_489, f⟩ := f
        refine ab_callV C (k := (kc + 0)) (n := (nc + 0)) (rest := [.int v_482]) [.int (xs ((y3 + (1 : Int32)).toNatClampNeg)), .int (xs ((y3 + (2 : Int32)).toNatClampNeg)), .int (xs ((y3 + (3 : Int32)).toNatClampNeg))] cl_L_138 (mt_X8_put  hw_484 f) rfl (by decide) kd_105 (wf_lt hw_484 kd_105 rfl) ⟨rfl, rfl, Nat.le_of_ble_eq_true rfl, Nat.le_of_ble_eq_true rfl, c_488, c_489⟩ rfl rfl (Nat.le_of_ble_eq_true rfl) dL_law_1196 (ab_kh (k := ((kc + 0) + 0)) (n := ((nc + 0) + 0)) (fun v_490 h_491 hw_492 f => ?_))
        refine ab_icmp_eq C (tgt := 1431) dL_law_1199 (by decide) (fun c_493 => ?_) (fun c_493 => ?_)
        · have f := f.1 c_493
          refine ab_iinc C (lv' := [(3, .int (y3 + (6 : Int32))), (0, .ref b), (1, .ref (G.1 + 0)), (2, .ref (G.1 + 105))]) 3 (v := (y3 + (6 : Int32))) dL_law_1431 rfl rfl (by decide) rfl ?_
          refine ab_goto C (tgt := 18) dL_law_1434 (by decide) ?_
          refine ab_sub (lv' := [(0, .ref b), (1, .ref (G.1 + 0)), (2, .ref (G.1 + 105)), (3, .int (y3 + (6 : Int32)))]) [1, 2, 3, 0] rfl ?_
          exact ih (y3 + (6 : Int32)) ((kc + 0) + 0) ((nc + 0) + 0) h_491  hw_492 f
        · have f := f.2 c_493
          refine ab_iconst C (v := (0 : Int32)) dL_law_1202 (by decide) ?_
          exact absurd f id
      have f := f.2 c_476
      by_cases c_494 : ((xs y3.toNatClampNeg) &&& (63 : Int32)) = (30 : Int32)
      · have f := f.1 c_494
        refine ab_tabC C (off := 1171) (tgt := 1204) dL_law_33 c_494 (by decide) (by decide) (by decide) (by decide) ?_
        refine ab_aload_n C 1 dL_law_1204 rfl rfl ?_
        refine ab_aload_n C 0 dL_law_1205 rfl rfl ?_
        refine ab_iload_n C 3 dL_law_1206 rfl rfl ?_
        refine ab_iconst C (v := (1 : Int32)) dL_law_1207 (by decide) ?_
        refine ab_iadd C dL_law_1208 ?_
        obtain ⟨c_495, f⟩ := f
        refine ab_sld C hX c_495 (j := (y3 + (1 : Int32)).toNatClampNeg) rfl dL_law_1209 ?_
        refine ab_aload_n C 0 dL_law_1210 rfl rfl ?_
        refine ab_iload_n C 3 dL_law_1211 rfl rfl ?_
        refine ab_iconst C (v := (2 : Int32)) dL_law_1212 (by decide) ?_
        refine ab_iadd C dL_law_1213 ?_
        obtain ⟨c_496, f⟩ := f
        refine ab_sld C hX c_496 (j := (y3 + (2 : Int32)).toNatClampNeg) rfl dL_law_1214 ?_
        refine ab_aload_n C 0 dL_law_1215 rfl rfl ?_
        refine ab_iload_n C 3 dL_law_1216 rfl rfl ?_
        refine ab_iconst C (v := (3 : Int32)) dL_law_1217 (by decide) ?_
        refine ab_iadd C dL_law_1218 ?_
        obtain ⟨c_497, f⟩ := f
        refine ab_sld C hX c_497 (j := (y3 + (3 : Int32)).toNatClampNeg) rfl dL_law_1219 ?_
        refine ab_aload_n C 0 dL_law_1220 rfl rfl ?_
        refine ab_iload_n C 3 dL_law_1221 rfl rfl ?_
        refine ab_iconst C (v := (4 : Int32)) dL_law_1222 (by decide) ?_
        refine ab_iadd C dL_law_1223 ?_
        obtain ⟨c_498, f⟩ := f
        refine ab_sld C hX c_498 (j := (y3 + (4 : Int32)).toNatClampNeg) rfl dL_law_1224 ?_
        refine ab_aload_n C 0 dL_law_1225 rfl rfl ?_
        refine ab_iload_n C 3 dL_law_1226 rfl rfl ?_
        refine ab_iconst C (v := (5 : Int32)) dL_law_1227 (by decide) ?_
        refine ab_iadd C dL_law_1228 ?_
        obtain ⟨c_499, f⟩ := f
        refine ab_sld C hX c_499 (j := (y3 + (5 : Int32)).toNatClampNeg) rfl dL_law_1229 ?_
        obtain ⟨c_500, f⟩ := f
        obtain ⟨c_501, f⟩ := f
        refine ab_callV C (k := kc) (n := nc) (rest := []) [.int (xs ((y3 + (1 : Int32)).toNatClampNeg)), .int (xs ((y3 + (2 : Int32)).toNatClampNeg)), .int (xs ((y3 + (3 : Int32)).toNatClampNeg)), .int (xs ((y3 + (4 : Int32)).toNatClampNeg)), .int (xs ((y3 + (5 : Int32)).toNatClampNeg))] cl_L_139 (mt_X7_move  hw f) rfl (by decide) kd_0 (wf_lt hw kd_0 rfl) ⟨rfl, rfl, Nat.le_of_ble_eq_true rfl, Nat.le_of_ble_eq_true rfl, c_500, c_501⟩ rfl rfl (Nat.le_of_ble_eq_true rfl) dL_law_1230 (ab_kh (k := (kc + 0)) (n := (nc + 0)) (fun v_502 h_503 hw_504 f => ?_))
        refine ab_aload_n C 2 dL_law_1233 rfl rfl ?_
        refine ab_aload_n C 0 dL_law_1234 rfl rfl ?_
        refine ab_iload_n C 3 dL_law_1235 rfl rfl ?_
        refine ab_iconst C (v := (1 : Int32)) dL_law_1236 (by decide) ?_
        refine ab_iadd C dL_law_1237 ?_
        obtain ⟨c_505, f⟩ := f
        refine ab_sld C hX c_505 (j := (y3 + (1 : Int32)).toNatClampNeg) rfl dL_law_1238 ?_
        refine ab_aload_n C 0 dL_law_1239 rfl rfl ?_
        refine ab_iload_n C 3 dL_law_1240 rfl rfl ?_
        refine ab_iconst C (v := (2 : Int32)) dL_law_1241 (by decide) ?_
        refine ab_iadd C dL_law_1242 ?_
        obtain ⟨c_506, f⟩ := f
        refine ab_sld C hX c_506 (j := (y3 + (2 : Int32)).toNatClampNeg) rfl dL_law_1243 ?_
        refine ab_aload_n C 0 dL_law_1244 rfl rfl ?_
        refine ab_iload_n C 3 dL_law_1245 rfl rfl ?_
        refine ab_iconst C (v := (3 : Int32)) dL_law_1246 (by decide) ?_
        refine ab_iadd C dL_law_1247 ?_
        obtain ⟨c_507, f⟩ := f
        refine ab_sld C hX c_507 (j := (y3 + (3 : Int32)).toNatClampNeg) rfl dL_law_1248 ?_
        refine ab_aload_n C 0 dL_law_1249 rfl rfl ?_
        refine ab_iload_n C 3 dL_law_1250 rfl rfl ?_
        refine ab_iconst C (v := (4 : Int32)) dL_law_1251 (by decide) ?_
        refine ab_iadd C dL_law_1252 ?_
        obtain ⟨c_508, f⟩ := f
        refine ab_sld C hX c_508 (j := (y3 + (4 : Int32)).toNatClampNeg) rfl dL_law_1253 ?_
        refine ab_aload_n C 0 dL_law_1254 rfl rfl ?_
        refine ab_iload_n C 3 dL_law_1255 rfl rfl ?_
        refine ab_iconst C (v := (5 : Int32)) dL_law_1256 (by decide) ?_
        refine ab_iadd C dL_law_1257 ?_
        obtain ⟨c_509, f⟩ := f
        refine ab_sld C hX c_509 (j := (y3 + (5 : Int32)).toNatClampNeg) rfl dL_law_1258 ?_
        obtain ⟨c_510, f⟩ := f
        obtain ⟨c_511, f⟩ := f
        refine ab_callV C (k := (kc + 0)) (n := (nc + 0)) (rest := [.int v_502]) [.int (xs ((y3 + (1 : Int32)).toNatClampNeg)), .int (xs ((y3 + (2 : Int32)).toNatClampNeg)), .int (xs ((y3 + (3 : Int32)).toNatClampNeg)), .int (xs ((y3 + (4 : Int32)).toNatClampNeg)), .int (xs ((y3 + (5 : Int32)).toNatClampNeg))] cl_L_143 (mt_X8_move  hw_504 f) rfl (by decide) kd_105 (wf_lt hw_504 kd_105 rfl) ⟨rfl, rfl, Nat.le_of_ble_eq_true rfl, Nat.le_of_ble_eq_true rfl, c_510, c_511⟩ rfl rfl (Nat.le_of_ble_eq_true rfl) dL_law_1259 (ab_kh (k := ((kc + 0) + 0)) (n := ((nc + 0) + 0)) (fun v_512 h_513 hw_514 f => ?_))
        refine ab_icmp_eq C (tgt := 1431) dL_law_1262 (by decide) (fun c_515 => ?_) (fun c_515 => ?_)
        · have f := f.1 c_515
          refine ab_iinc C (lv' := [(3, .int (y3 + (6 : Int32))), (0, .ref b), (1, .ref (G.1 + 0)), (2, .ref (G.1 + 105))]) 3 (v := (y3 + (6 : Int32))) dL_law_1431 rfl rfl (by decide) rfl ?_
          refine ab_goto C (tgt := 18) dL_law_1434 (by decide) ?_
          refine ab_sub (lv' := [(0, .ref b), (1, .ref (G.1 + 0)), (2, .ref (G.1 + 105)), (3, .int (y3 + (6 : Int32)))]) [1, 2, 3, 0] rfl ?_
          exact ih (y3 + (6 : Int32)) ((kc + 0) + 0) ((nc + 0) + 0) h_513  hw_514 f
        · have f := f.2 c_515
          refine ab_iconst C (v := (0 : Int32)) dL_law_1265 (by decide) ?_
          exact absurd f id
      have f := f.2 c_494
      by_cases c_516 : ((xs y3.toNatClampNeg) &&& (63 : Int32)) = (31 : Int32)
      · have f := f.1 c_516
        refine ab_tabC C (off := 1234) (tgt := 1267) dL_law_33 c_516 (by decide) (by decide) (by decide) (by decide) ?_
        refine ab_aload_n C 1 dL_law_1267 rfl rfl ?_
        refine ab_aload_n C 0 dL_law_1268 rfl rfl ?_
        refine ab_iload_n C 3 dL_law_1269 rfl rfl ?_
        refine ab_iconst C (v := (1 : Int32)) dL_law_1270 (by decide) ?_
        refine ab_iadd C dL_law_1271 ?_
        obtain ⟨c_517, f⟩ := f
        refine ab_sld C hX c_517 (j := (y3 + (1 : Int32)).toNatClampNeg) rfl dL_law_1272 ?_
        obtain ⟨c_518, f⟩ := f
        obtain ⟨c_519, f⟩ := f
        refine ab_callV C (k := kc) (n := nc) (rest := []) [.int (xs ((y3 + (1 : Int32)).toNatClampNeg))] cl_L_144 (mt_X7_rosters  hw f) rfl (by decide) kd_0 (wf_lt hw kd_0 rfl) ⟨rfl, rfl, Nat.le_of_ble_eq_true rfl, Nat.le_of_ble_eq_true rfl, c_518, c_519⟩ rfl rfl (Nat.le_of_ble_eq_true rfl) dL_law_1273 (ab_kh (k := (kc + 0)) (n := (nc + 0)) (fun v_520 h_521 hw_522 f => ?_))
        refine ab_aload_n C 2 dL_law_1276 rfl rfl ?_
        refine ab_aload_n C 0 dL_law_1277 rfl rfl ?_
        refine ab_iload_n C 3 dL_law_1278 rfl rfl ?_
        refine ab_iconst C (v := (1 : Int32)) dL_law_1279 (by decide) ?_
        refine ab_iadd C dL_law_1280 ?_
        obtain ⟨c_523, f⟩ := f
        refine ab_sld C hX c_523 (j := (y3 + (1 : Int32)).toNatClampNeg) rfl dL_law_1281 ?_
        obtain ⟨c_524, f⟩ := f
        obtain ⟨c_525, f⟩ := f
        refine ab_callV C (k := (kc + 0)) (n := (nc + 0)) (rest := [.int v_520]) [.int (xs ((y3 + (1 : Int32)).toNatClampNeg))] cl_L_147 (mt_X8_rosters  hw_522 f) rfl (by decide) kd_105 (wf_lt hw_522 kd_105 rfl) ⟨rfl, rfl, Nat.le_of_ble_eq_true rfl, Nat.le_of_ble_eq_true rfl, c_524, c_525⟩ rfl rfl (Nat.le_of_ble_eq_true rfl) dL_law_1282 (ab_kh (k := ((kc + 0) + 0)) (n := ((nc + 0) + 0)) (fun v_526 h_527 hw_528 f => ?_))
        refine ab_icmp_eq C (tgt := 1431) dL_law_1285 (by decide) (fun c_529 => ?_) (fun c_529 => ?_)
        · have f := f.1 c_529
          refine ab_iinc C (lv' := [(3, .int (y3 + (6 : Int32))), (0, .ref b), (1, .ref (G.1 + 0)), (2, .ref (G.1 + 105))]) 3 (v := (y3 + (6 : Int32))) dL_law_1431 rfl rfl (by decide) rfl ?_
          refine ab_goto C (tgt := 18) dL_law_1434 (by decide) ?_
          refine ab_sub (lv' := [(0, .ref b), (1, .ref (G.1 + 0)), (2, .ref (G.1 + 105)), (3, .int (y3 + (6 : Int32)))]) [1, 2, 3, 0] rfl ?_
          exact ih (y3 + (6 : Int32)) ((kc + 0) + 0) ((nc + 0) + 0) h_527  hw_528 f
        · have f := f.2 c_529
          refine ab_iconst C (v := (0 : Int32)) dL_law_1288 (by decide) ?_
          exact absurd f id
      have f := f.2 c_516
      by_cases c_530 : ((xs y3.toNatClampNeg) &&& (63 : Int32)) = (32 : Int32)
      · have f := f.1 c_530
        refine ab_tabC C (off := 1257) (tgt := 1290) dL_law_33 c_530 (by decide) (by decide) (by decide) (by decide) ?_
        refine ab_aload_n C 1 dL_law_1290 rfl rfl ?_
        refine ab_aload_n C 0 dL_law_1291 rfl rfl ?_
        refine ab_iload_n C 3 dL_law_1292 rfl rfl ?_
        refine ab_iconst C (v := (1 : Int32)) dL_law_1293 (by decide) ?_
        refine ab_iadd C dL_law_1294 ?_
        obtain ⟨c_531, f⟩ := f
        refine ab_sld C hX c_531 (j := (y3 + (1 : Int32)).toNatClampNeg) rfl dL_law_1295 ?_
        obtain ⟨c_532, f⟩ := f
        obtain ⟨c_533, f⟩ := f
        refine ab_callV C (k := kc) (n := nc) (rest := []) [.int (xs ((y3 + (1 : Int32)).toNatClampNeg))] cl_L_148 (mt_X7_judge  hw f) rfl (by decide) kd_0 (wf_lt hw kd_0 rfl) ⟨rfl, rfl, Nat.le_of_ble_eq_true rfl, Nat.le_of_ble_eq_true rfl, c_532, c_533⟩ rfl rfl (Nat.le_of_ble_eq_true rfl) dL_law_1296 (ab_kh (k := (kc + 0)) (n := (nc + 0)) (fun v_534 h_535 hw_536 f => ?_))
        refine ab_aload_n C 2 dL_law_1299 rfl rfl ?_
        refine ab_aload_n C 0 dL_law_1300 rfl rfl ?_
        refine ab_iload_n C 3 dL_law_1301 rfl rfl ?_
        refine ab_iconst C (v := (1 : Int32)) dL_law_1302 (by decide) ?_
        refine ab_iadd C dL_law_1303 ?_
        obtain ⟨c_537, f⟩ := f
        refine ab_sld C hX c_537 (j := (y3 + (1 : Int32)).toNatClampNeg) rfl dL_law_1304 ?_
        obtain ⟨c_538, f⟩ := f
        obtain ⟨c_539, f⟩ := f
        refine ab_callV C (k := (kc + 0)) (n := (nc + 0)) (rest := [.int v_534]) [.int (xs ((y3 + (1 : Int32)).toNatClampNeg))] cl_L_151 (mt_X8_judge  hw_536 f) rfl (by decide) kd_105 (wf_lt hw_536 kd_105 rfl) ⟨rfl, rfl, Nat.le_of_ble_eq_true rfl, Nat.le_of_ble_eq_true rfl, c_538, c_539⟩ rfl rfl (Nat.le_of_ble_eq_true rfl) dL_law_1305 (ab_kh (k := ((kc + 0) + 0)) (n := ((nc + 0) + 0)) (fun v_540 h_541 hw_542 f => ?_))
        refine ab_icmp_eq C (tgt := 1431) dL_law_1308 (by decide) (fun c_543 => ?_) (fun c_543 => ?_)
        · have f := f.1 c_543
          refine ab_iinc C (lv' := [(3, .int (y3 + (6 : Int32))), (0, .ref b), (1, .ref (G.1 + 0)), (2, .ref (G.1 + 105))]) 3 (v := (y3 + (6 : Int32))) dL_law_1431 rfl rfl (by decide) rfl ?_
          refine ab_goto C (tgt := 18) dL_law_1434 (by decide) ?_
          refine ab_sub (lv' := [(0, .ref b), (1, .ref (G.1 + 0)), (2, .ref (G.1 + 105)), (3, .int (y3 + (6 : Int32)))]) [1, 2, 3, 0] rfl ?_
          exact ih (y3 + (6 : Int32)) ((kc + 0) + 0) ((nc + 0) + 0) h_541  hw_542 f
        · have f := f.2 c_543
          refine ab_iconst C (v := (0 : Int32)) dL_law_1311 (by decide) ?_
          exact absurd f id
      have f := f.2 c_530
      by_cases c_544 : ((xs y3.toNatClampNeg) &&& (63 : Int32)) = (33 : Int32)
      · have f := f.1 c_544
        refine ab_tabC C (off := 1280) (tgt := 1313) dL_law_33 c_544 (by decide) (by decide) (by decide) (by decide) ?_
        refine ab_aload_n C 1 dL_law_1313 rfl rfl ?_
        obtain ⟨c_545, f⟩ := f
        obtain ⟨c_546, f⟩ := f
        refine ab_callV C (k := kc) (n := nc) (rest := []) [] cl_L_152 (mt_X7_image  hw f) rfl (by decide) kd_0 (wf_lt hw kd_0 rfl) ⟨rfl, rfl, Nat.le_of_ble_eq_true rfl, Nat.le_of_ble_eq_true rfl, c_545, c_546⟩ rfl rfl (Nat.le_of_ble_eq_true rfl) dL_law_1314 (ab_kh (k := (kc + 0)) (n := (nc + 0)) (fun v_547 h_548 hw_549 f => ?_))
        refine ab_aload_n C 2 dL_law_1317 rfl rfl ?_
        obtain ⟨c_550, f⟩ := f
        obtain ⟨c_551, f⟩ := f
        refine ab_callV C (k := (kc + 0)) (n := (nc + 0)) (rest := [.int v_547]) [] cl_L_156 (mt_X8_image  hw_549 f) rfl (by decide) kd_105 (wf_lt hw_549 kd_105 rfl) ⟨rfl, rfl, Nat.le_of_ble_eq_true rfl, Nat.le_of_ble_eq_true rfl, c_550, c_551⟩ rfl rfl (Nat.le_of_ble_eq_true rfl) dL_law_1318 (ab_kh (k := ((kc + 0) + 0)) (n := ((nc + 0) + 0)) (fun v_552 h_553 hw_554 f => ?_))
        refine ab_icmp_eq C (tgt := 1431) dL_law_1321 (by decide) (fun c_555 => ?_) (fun c_555 => ?_)
        · have f := f.1 c_555
          refine ab_iinc C (lv' := [(3, .int (y3 + (6 : Int32))), (0, .ref b), (1, .ref (G.1 + 0)), (2, .ref (G.1 + 105))]) 3 (v := (y3 + (6 : Int32))) dL_law_1431 rfl rfl (by decide) rfl ?_
          refine ab_goto C (tgt := 18) dL_law_1434 (by decide) ?_
          refine ab_sub (lv' := [(0, .ref b), (1, .ref (G.1 + 0)), (2, .ref (G.1 + 105)), (3, .int (y3 + (6 : Int32)))]) [1, 2, 3, 0] rfl ?_
          exact ih (y3 + (6 : Int32)) ((kc + 0) + 0) ((nc + 0) + 0) h_553  hw_554 f
        · have f := f.2 c_555
          refine ab_iconst C (v := (0 : Int32)) dL_law_1324 (by decide) ?_
          exact absurd f id
      have f := f.2 c_544
      by_cases c_556 : ((xs y3.toNatClampNeg) &&& (63 : Int32)) = (34 : Int32)
      · have f := f.1 c_556
        refine ab_tabC C (off := 1293) (tgt := 1326) dL_law_33 c_556 (by decide) (by decide) (by decide) (by decide) ?_
        refine ab_aload_n C 1 dL_law_1326 rfl rfl ?_
        obtain ⟨c_557, f⟩ := f
        obtain ⟨c_558, f⟩ := f
        refine ab_callV C (k := kc) (n := nc) (rest := []) [] cl_L_157 (mt_X7_restore  hw f) rfl (by decide) kd_0 (wf_lt hw kd_0 rfl) ⟨rfl, rfl, Nat.le_of_ble_eq_true rfl, Nat.le_of_ble_eq_true rfl, c_557, c_558⟩ rfl rfl (Nat.le_of_ble_eq_true rfl) dL_law_1327 (ab_kh (k := (kc + 0)) (n := (nc + 0)) (fun v_559 h_560 hw_561 f => ?_))
        refine ab_aload_n C 2 dL_law_1330 rfl rfl ?_
        obtain ⟨c_562, f⟩ := f
        obtain ⟨c_563, f⟩ := f
        refine ab_callV C (k := (kc + 0)) (n := (nc + 0)) (rest := [.int v_559]) [] cl_L_160 (mt_X8_restore  hw_561 f) rfl (by decide) kd_105 (wf_lt hw_561 kd_105 rfl) ⟨rfl, rfl, Nat.le_of_ble_eq_true rfl, Nat.le_of_ble_eq_true rfl, c_562, c_563⟩ rfl rfl (Nat.le_of_ble_eq_true rfl) dL_law_1331 (ab_kh (k := ((kc + 0) + 0)) (n := ((nc + 0) + 0)) (fun v_564 h_565 hw_566 f => ?_))
        refine ab_icmp_eq C (tgt := 1431) dL_law_1334 (by decide) (fun c_567 => ?_) (fun c_567 => ?_)
        · have f := f.1 c_567
          refine ab_iinc C (lv' := [(3, .int (y3 + (6 : Int32))), (0, .ref b), (1, .ref (G.1 + 0)), (2, .ref (G.1 + 105))]) 3 (v := (y3 + (6 : Int32))) dL_law_1431 rfl rfl (by decide) rfl ?_
          refine ab_goto C (tgt := 18) dL_law_1434 (by decide) ?_
          refine ab_sub (lv' := [(0, .ref b), (1, .ref (G.1 + 0)), (2, .ref (G.1 + 105)), (3, .int (y3 + (6 : Int32)))]) [1, 2, 3, 0] rfl ?_
          exact ih (y3 + (6 : Int32)) ((kc + 0) + 0) ((nc + 0) + 0) h_565  hw_566 f
        · have f := f.2 c_567
          refine ab_iconst C (v := (0 : Int32)) dL_law_1337 (by decide) ?_
          exact absurd f id
      have f := f.2 c_556
      by_cases c_568 : ((xs y3.toNatClampNeg) &&& (63 : Int32)) = (35 : Int32)
      · have f := f.1 c_568
        refine ab_tabC C (off := 1306) (tgt := 1339) dL_law_33 c_568 (by decide) (by decide) (by decide) (by decide) ?_
        refine ab_aload_n C 1 dL_law_1339 rfl rfl ?_
        refine ab_aload_n C 0 dL_law_1340 rfl rfl ?_
        refine ab_iload_n C 3 dL_law_1341 rfl rfl ?_
        refine ab_iconst C (v := (1 : Int32)) dL_law_1342 (by decide) ?_
        refine ab_iadd C dL_law_1343 ?_
        obtain ⟨c_569, f⟩ := f
        refine ab_sld C hX c_569 (j := (y3 + (1 : Int32)).toNatClampNeg) rfl dL_law_1344 ?_
        obtain ⟨c_570, f⟩ := f
        obtain ⟨c_571, f⟩ := f
        refine ab_callV C (k := kc) (n := nc) (rest := []) [.int (xs ((y3 + (1 : Int32)).toNatClampNeg))] cl_L_161 (mt_X7_tell  hw f) rfl (by decide) kd_0 (wf_lt hw kd_0 rfl) ⟨rfl, rfl, Nat.le_of_ble_eq_true rfl, Nat.le_of_ble_eq_true rfl, c_570, c_571⟩ rfl rfl (Nat.le_of_ble_eq_true rfl) dL_law_1345 (ab_kh (k := (kc + 0)) (n := (nc + 0)) (fun v_572 h_573 hw_574 f => ?_))
        refine ab_aload_n C 2 dL_law_1348 rfl rfl ?_
        refine ab_aload_n C 0 dL_law_1349 rfl rfl ?_
        refine ab_iload_n C 3 dL_law_1350 rfl rfl ?_
        refine ab_iconst C (v := (1 : Int32)) dL_law_1351 (by decide) ?_
        refine ab_iadd C dL_law_1352 ?_
        obtain ⟨c_575, f⟩ := f
        refine ab_sld C hX c_575 (j := (y3 + (1 : Int32)).toNatClampNeg) rfl dL_law_1353 ?_
        obtain ⟨c_576, f⟩ := f
        obtain ⟨c_577, f⟩ := f
        refine ab_callV C (k := (kc + 0)) (n := (nc + 0)) (rest := [.int v_572]) [.int (xs ((y3 + (1 : Int32)).toNatClampNeg))] cl_L_164 (mt_X8_tell  hw_574 f) rfl (by decide) kd_105 (wf_lt hw_574 kd_105 rfl) ⟨rfl, rfl, Nat.le_of_ble_eq_true rfl, Nat.le_of_ble_eq_true rfl, c_576, c_577⟩ rfl rfl (Nat.le_of_ble_eq_true rfl) dL_law_1354 (ab_kh (k := ((kc + 0) + 0)) (n := ((nc + 0) + 0)) (fun v_578 h_579 hw_580 f => ?_))
        refine ab_icmp_eq C (tgt := 1431) dL_law_1357 (by decide) (fun c_581 => ?_) (fun c_581 => ?_)
        · have f := f.1 c_581
          refine ab_iinc C (lv' := [(3, .int (y3 + (6 : Int32))), (0, .ref b), (1, .ref (G.1 + 0)), (2, .ref (G.1 + 105))]) 3 (v := (y3 + (6 : Int32))) dL_law_1431 rfl rfl (by decide) rfl ?_
          refine ab_goto C (tgt := 18) dL_law_1434 (by decide) ?_
          refine ab_sub (lv' := [(0, .ref b), (1, .ref (G.1 + 0)), (2, .ref (G.1 + 105)), (3, .int (y3 + (6 : Int32)))]) [1, 2, 3, 0] rfl ?_
          exact ih (y3 + (6 : Int32)) ((kc + 0) + 0) ((nc + 0) + 0) h_579  hw_580 f
        · have f := f.2 c_581
          refine ab_iconst C (v := (0 : Int32)) dL_law_1360 (by decide) ?_
          exact absurd f id
      have f := f.2 c_568
      by_cases c_582 : ((xs y3.toNatClampNeg) &&& (63 : Int32)) = (36 : Int32)
      · have f := f.1 c_582
        refine ab_tabC C (off := 1329) (tgt := 1362) dL_law_33 c_582 (by decide) (by decide) (by decide) (by decide) ?_
        refine ab_aload_n C 1 dL_law_1362 rfl rfl ?_
        refine ab_aload_n C 0 dL_law_1363 rfl rfl ?_
        refine ab_iload_n C 3 dL_law_1364 rfl rfl ?_
        refine ab_iconst C (v := (1 : Int32)) dL_law_1365 (by decide) ?_
        refine ab_iadd C dL_law_1366 ?_
        obtain ⟨c_583, f⟩ := f
        refine ab_sld C hX c_583 (j := (y3 + (1 : Int32)).toNatClampNeg) rfl dL_law_1367 ?_
        obtain ⟨c_584, f⟩ := f
        obtain ⟨c_585, f⟩ := f
        refine ab_callV C (k := kc) (n := nc) (rest := []) [.int (xs ((y3 + (1 : Int32)).toNatClampNeg))] cl_L_165 (mt_X7_check  hw f) rfl (by decide) kd_0 (wf_lt hw kd_0 rfl) ⟨rfl, rfl, Nat.le_of_ble_eq_true rfl, Nat.le_of_ble_eq_true rfl, c_584, c_585⟩ rfl rfl (Nat.le_of_ble_eq_true rfl) dL_law_1368 (ab_kh (k := (kc + 0)) (n := (nc + 0)) (fun v_586 h_587 hw_588 f => ?_))
        refine ab_aload_n C 2 dL_law_1371 rfl rfl ?_
        refine ab_aload_n C 0 dL_law_1372 rfl rfl ?_
        refine ab_iload_n C 3 dL_law_1373 rfl rfl ?_
        refine ab_iconst C (v := (1 : Int32)) dL_law_1374 (by decide) ?_
        refine ab_iadd C dL_law_1375 ?_
        obtain ⟨c_589, f⟩ := f
        refine ab_sld C hX c_589 (j := (y3 + (1 : Int32)).toNatClampNeg) rfl dL_law_1376 ?_
        obtain ⟨c_590, f⟩ := f
        obtain ⟨c_591, f⟩ := f
        refine ab_callV C (k := (kc + 0)) (n := (nc + 0)) (rest := [.int v_586]) [.int (xs ((y3 + (1 : Int32)).toNatClampNeg))] cl_L_168 (mt_X8_check  hw_588 f) rfl (by decide) kd_105 (wf_lt hw_588 kd_105 rfl) ⟨rfl, rfl, Nat.le_of_ble_eq_true rfl, Nat.le_of_ble_eq_true rfl, c_590, c_591⟩ rfl rfl (Nat.le_of_ble_eq_true rfl) dL_law_1377 (ab_kh (k := ((kc + 0) + 0)) (n := ((nc + 0) + 0)) (fun v_592 h_593 hw_594 f => ?_))
        refine ab_icmp_eq C (tgt := 1431) dL_law_1380 (by decide) (fun c_595 => ?_) (fun c_595 => ?_)
        · have f := f.1 c_595
          refine ab_iinc C (lv' := [(3, .int (y3 + (6 : Int32))), (0, .ref b), (1, .ref (G.1 + 0)), (2, .ref (G.1 + 105))]) 3 (v := (y3 + (6 : Int32))) dL_law_1431 rfl rfl (by decide) rfl ?_
          refine ab_goto C (tgt := 18) dL_law_1434 (by decide) ?_
          refine ab_sub (lv' := [(0, .ref b), (1, .ref (G.1 + 0)), (2, .ref (G.1 + 105)), (3, .int (y3 + (6 : Int32)))]) [1, 2, 3, 0] rfl ?_
          exact ih (y3 + (6 : Int32)) ((kc + 0) + 0) ((nc + 0) + 0) h_593  hw_594 f
        · have f := f.2 c_595
          refine ab_iconst C (v := (0 : Int32)) dL_law_1383 (by decide) ?_
          exact absurd f id
      have f := f.2 c_582
      by_cases c_596 : ((xs y3.toNatClampNeg) &&& (63 : Int32)) = (37 : Int32)
      · have f := f.1 c_596
        refine ab_tabC C (off := 1352) (tgt := 1385) dL_law_33 c_596 (by decide) (by decide) (by decide) (by decide) ?_
        refine ab_aload_n C 1 dL_law_1385 rfl rfl ?_
        refine ab_aload_n C 0 dL_law_1386 rfl rfl ?_
        refine ab_iload_n C 3 dL_law_1387 rfl rfl ?_
        refine ab_iconst C (v := (1 : Int32)) dL_law_1388 (by decide) ?_
        refine ab_iadd C dL_law_1389 ?_
        obtain ⟨c_597, f⟩ := f
        refine ab_sld C hX c_597 (j := (y3 + (1 : Int32)).toNatClampNeg) rfl dL_law_1390 ?_
        obtain ⟨c_598, f⟩ := f
        obtain ⟨c_599, f⟩ := f
        refine ab_callV C (k := kc) (n := nc) (rest := []) [.int (xs ((y3 + (1 : Int32)).toNatClampNeg))] cl_L_169 (mt_X7_count  hw f) rfl (by decide) kd_0 (wf_lt hw kd_0 rfl) ⟨rfl, rfl, Nat.le_of_ble_eq_true rfl, Nat.le_of_ble_eq_true rfl, c_598, c_599⟩ rfl rfl (Nat.le_of_ble_eq_true rfl) dL_law_1391 (ab_kh (k := (kc + 0)) (n := (nc + 0)) (fun v_600 h_601 hw_602 f => ?_))
        refine ab_aload_n C 2 dL_law_1394 rfl rfl ?_
        refine ab_aload_n C 0 dL_law_1395 rfl rfl ?_
        refine ab_iload_n C 3 dL_law_1396 rfl rfl ?_
        refine ab_iconst C (v := (1 : Int32)) dL_law_1397 (by decide) ?_
        refine ab_iadd C dL_law_1398 ?_
        obtain ⟨c_603, f⟩ := f
        refine ab_sld C hX c_603 (j := (y3 + (1 : Int32)).toNatClampNeg) rfl dL_law_1399 ?_
        obtain ⟨c_604, f⟩ := f
        obtain ⟨c_605, f⟩ := f
        refine ab_callV C (k := (kc + 0)) (n := (nc + 0)) (rest := [.int v_600]) [.int (xs ((y3 + (1 : Int32)).toNatClampNeg))] cl_L_172 (mt_X8_count  hw_602 f) rfl (by decide) kd_105 (wf_lt hw_602 kd_105 rfl) ⟨rfl, rfl, Nat.le_of_ble_eq_true rfl, Nat.le_of_ble_eq_true rfl, c_604, c_605⟩ rfl rfl (Nat.le_of_ble_eq_true rfl) dL_law_1400 (ab_kh (k := ((kc + 0) + 0)) (n := ((nc + 0) + 0)) (fun v_606 h_607 hw_608 f => ?_))
        refine ab_icmp_eq C (tgt := 1431) dL_law_1403 (by decide) (fun c_609 => ?_) (fun c_609 => ?_)
        · have f := f.1 c_609
          refine ab_iinc C (lv' := [(3, .int (y3 + (6 : Int32))), (0, .ref b), (1, .ref (G.1 + 0)), (2, .ref (G.1 + 105))]) 3 (v := (y3 + (6 : Int32))) dL_law_1431 rfl rfl (by decide) rfl ?_
          refine ab_goto C (tgt := 18) dL_law_1434 (by decide) ?_
          refine ab_sub (lv' := [(0, .ref b), (1, .ref (G.1 + 0)), (2, .ref (G.1 + 105)), (3, .int (y3 + (6 : Int32)))]) [1, 2, 3, 0] rfl ?_
          exact ih (y3 + (6 : Int32)) ((kc + 0) + 0) ((nc + 0) + 0) h_607  hw_608 f
        · have f := f.2 c_609
          refine ab_iconst C (v := (0 : Int32)) dL_law_1406 (by decide) ?_
          exact absurd f id
      have f := f.2 c_596
      by_cases c_610 : ((xs y3.toNatClampNeg) &&& (63 : Int32)) = (38 : Int32)
      · have f := f.1 c_610
        refine ab_tabC C (off := 1375) (tgt := 1408) dL_law_33 c_610 (by decide) (by decide) (by decide) (by decide) ?_
        refine ab_aload_n C 1 dL_law_1408 rfl rfl ?_
        refine ab_aload_n C 0 dL_law_1409 rfl rfl ?_
        refine ab_iload_n C 3 dL_law_1410 rfl rfl ?_
        refine ab_iconst C (v := (1 : Int32)) dL_law_1411 (by decide) ?_
        refine ab_iadd C dL_law_1412 ?_
        obtain ⟨c_611, f⟩ := f
        refine ab_sld C hX c_611 (j := (y3 + (1 : Int32)).toNatClampNeg) rfl dL_law_1413 ?_
        obtain ⟨c_612, f⟩ := f
        obtain ⟨c_613, f⟩ := f
        refine ab_callV C (k := kc) (n := nc) (rest := []) [.int (xs ((y3 + (1 : Int32)).toNatClampNeg))] cl_L_173 (mt_X7_told  hw f) rfl (by decide) kd_0 (wf_lt hw kd_0 rfl) ⟨rfl, rfl, Nat.le_of_ble_eq_true rfl, Nat.le_of_ble_eq_true rfl, c_612, c_613⟩ rfl rfl (Nat.le_of_ble_eq_true rfl) dL_law_1414 (ab_kh (k := (kc + 0)) (n := (nc + 0)) (fun v_614 h_615 hw_616 f => ?_))
        refine ab_aload_n C 2 dL_law_1417 rfl rfl ?_
        refine ab_aload_n C 0 dL_law_1418 rfl rfl ?_
        refine ab_iload_n C 3 dL_law_1419 rfl rfl ?_
        refine ab_iconst C (v := (1 : Int32)) dL_law_1420 (by decide) ?_
        refine ab_iadd C dL_law_1421 ?_
        obtain ⟨c_617, f⟩ := f
        refine ab_sld C hX c_617 (j := (y3 + (1 : Int32)).toNatClampNeg) rfl dL_law_1422 ?_
        obtain ⟨c_618, f⟩ := f
        obtain ⟨c_619, f⟩ := f
        refine ab_callV C (k := (kc + 0)) (n := (nc + 0)) (rest := [.int v_614]) [.int (xs ((y3 + (1 : Int32)).toNatClampNeg))] cl_L_176 (mt_X8_told  hw_616 f) rfl (by decide) kd_105 (wf_lt hw_616 kd_105 rfl) ⟨rfl, rfl, Nat.le_of_ble_eq_true rfl, Nat.le_of_ble_eq_true rfl, c_618, c_619⟩ rfl rfl (Nat.le_of_ble_eq_true rfl) dL_law_1423 (ab_kh (k := ((kc + 0) + 0)) (n := ((nc + 0) + 0)) (fun v_620 h_621 hw_622 f => ?_))
        refine ab_icmp_eq C (tgt := 1431) dL_law_1426 (by decide) (fun c_623 => ?_) (fun c_623 => ?_)
        · have f := f.1 c_623
          refine ab_iinc C (lv' := [(3, .int (y3 + (6 : Int32))), (0, .ref b), (1, .ref (G.1 + 0)), (2, .ref (G.1 + 105))]) 3 (v := (y3 + (6 : Int32))) dL_law_1431 rfl rfl (by decide) rfl ?_
          refine ab_goto C (tgt := 18) dL_law_1434 (by decide) ?_
          refine ab_sub (lv' := [(0, .ref b), (1, .ref (G.1 + 0)), (2, .ref (G.1 + 105)), (3, .int (y3 + (6 : Int32)))]) [1, 2, 3, 0] rfl ?_
          exact ih (y3 + (6 : Int32)) ((kc + 0) + 0) ((nc + 0) + 0) h_621  hw_622 f
        · have f := f.2 c_623
          refine ab_iconst C (v := (0 : Int32)) dL_law_1429 (by decide) ?_
          exact absurd f id
      have f := f.2 c_610
      refine ab_tabOut C (tgt := 1431) dL_law_33 (ab_tout (fun j j1 j2 => ?_)) (by decide) ?_
      · have hh : j = 0 ∨ j = 1 ∨ j = 2 ∨ j = 3 ∨ j = 4 ∨ j = 5 ∨ j = 6 ∨ j = 7 ∨ j = 8 ∨ j = 9 ∨ j = 10 ∨ j = 11 ∨ j = 12 ∨ j = 13 ∨ j = 14 ∨ j = 15 ∨ j = 16 ∨ j = 17 ∨ j = 18 ∨ j = 19 ∨ j = 20 ∨ j = 21 ∨ j = 22 ∨ j = 23 ∨ j = 24 ∨ j = 25 ∨ j = 26 ∨ j = 27 ∨ j = 28 ∨ j = 29 ∨ j = 30 ∨ j = 31 ∨ j = 32 ∨ j = 33 ∨ j = 34 ∨ j = 35 ∨ j = 36 ∨ j = 37 ∨ j = 38 := by omega
        rcases hh with rfl | rfl | rfl | rfl | rfl | rfl | rfl | rfl | rfl | rfl | rfl | rfl | rfl | rfl | rfl | rfl | rfl | rfl | rfl | rfl | rfl | rfl | rfl | rfl | rfl | rfl | rfl | rfl | rfl | rfl | rfl | rfl | rfl | rfl | rfl | rfl | rfl | rfl | rfl
        · exact ab_ne c_16
        · exact ab_ne c_30
        · exact ab_ne c_46
        · exact ab_ne c_62
        · exact ab_ne c_80
        · exact ab_ne c_98
        · exact ab_ne c_114
        · exact ab_ne c_128
        · exact ab_ne c_146
        · exact ab_ne c_162
        · exact ab_ne c_180
        · exact ab_ne c_194
        · exact ab_ne c_208
        · exact ab_ne c_222
        · exact ab_ne c_236
        · exact ab_ne c_250
        · exact ab_ne c_264
        · exact ab_ne c_282
        · exact ab_ne c_300
        · exact ab_ne c_316
        · exact ab_ne c_334
        · exact ab_ne c_348
        · exact ab_ne c_364
        · exact ab_ne c_380
        · exact ab_ne c_396
        · exact ab_ne c_412
        · exact ab_ne c_426
        · exact ab_ne c_444
        · exact ab_ne c_458
        · exact ab_ne c_476
        · exact ab_ne c_494
        · exact ab_ne c_516
        · exact ab_ne c_530
        · exact ab_ne c_544
        · exact ab_ne c_556
        · exact ab_ne c_568
        · exact ab_ne c_582
        · exact ab_ne c_596
        · exact ab_ne c_610
      · skip
        refine ab_iinc C (lv' := [(3, .int (y3 + (6 : Int32))), (0, .ref b), (1, .ref (G.1 + 0)), (2, .ref (G.1 + 105))]) 3 (v := (y3 + (6 : Int32))) dL_law_1431 rfl rfl (by decide) rfl ?_
        refine ab_goto C (tgt := 18) dL_law_1434 (by decide) ?_
        refine ab_sub (lv' := [(0, .ref b), (1, .ref (G.1 + 0)), (2, .ref (G.1 + 105)), (3, .int (y3 + (6 : Int32)))]) [1, 2, 3, 0] rfl ?_
        exact ih (y3 + (6 : Int32)) kc nc h  hw f
def wp_L_law (b L : Nat) (xs : Nat → Int32) (h : hp_T) (Q : Prop) : Prop :=
  (hp_n h = 0) ∧ (∀ h_1, h_1 = hp_no h → (0 < hp_n h_1) ∧ wp_X7_init h_1 (fun h_5 => (hp_n h_5 = 105) ∧ (∀ h_6, h_6 = hp_no h_5 → (105 < hp_n h_6) ∧ wp_X8_init h_6 (fun h_10 => (wf h_10) ∧ (∃ n0, wp_L_law_L18 b L xs Q  n0 (0 : Int32) 117 2409 h_10)))))
set_option maxRecDepth 100000 in
set_option maxHeartbeats 4000000 in
theorem mt_L_law {l : Launch} {G : ab_G} {Z : State → Prop} {nm : String} {F : ab_F} {b L : Nat} {xs : Nat → Int32} {h : hp_T} {Q : Prop} (C : ab_C G F room_1 cL_law 4 RL (some .boolean) nm) (hX : ab_X G F b L xs) (hR : ∀ (k n : Nat) (h : hp_T) (lv : List (Nat × Value)) (pc : Nat), decode cL_law pc = .ok (.ireturn, 1) → k ≤ 600000 → n ≤ 7302249 → ab_W l G F 4 Z k n h lv [.int 1] pc) (f : wp_L_law b L xs h Q) : ab_W l G F 4 Z 0 0 h [(0, .ref b)] [] 0 := by
  unfold wp_L_law at f
  obtain ⟨c_3, f⟩ := f
  refine ab_newF C (k := 0) (n := 0) ac_7 cn_L_7 c_3 kd_0 (Nat.le_of_ble_eq_true rfl) (Nat.le_of_ble_eq_true rfl) dL_law_0 (fun h_1 e_2 => ?_)
  have f := f h_1 e_2
  refine ab_dup C dL_law_3 rfl ?_
  obtain ⟨c_4, f⟩ := f
  refine ab_callI C (k := 1) (n := 8) (rest := [.ref (G.1 + 0)]) [] cl_L_9 (mt_X7_init   f) ⟨rfl, rfl, Nat.le_of_ble_eq_true rfl, Nat.le_of_ble_eq_true rfl, Nat.le_of_ble_eq_true rfl, Nat.le_of_ble_eq_true rfl⟩ rfl rfl (Nat.le_of_ble_eq_true rfl) dL_law_4 (ab_kr (k := 105) (n := 1028) (fun h_5 f => ?_))
  refine ab_astore_n C (lv' := [(1, .ref (G.1 + 0)), (0, .ref b)]) dL_law_7 rfl (by decide) rfl ?_
  obtain ⟨c_8, f⟩ := f
  refine ab_newF C (k := 105) (n := 1028) ac_8 cn_L_10 c_8 kd_105 (Nat.le_of_ble_eq_true rfl) (Nat.le_of_ble_eq_true rfl) dL_law_8 (fun h_6 e_7 => ?_)
  have f := f h_6 e_7
  refine ab_dup C dL_law_11 rfl ?_
  obtain ⟨c_9, f⟩ := f
  refine ab_callI C (k := 106) (n := 1050) (rest := [.ref (G.1 + 105)]) [] cl_L_12 (mt_X8_init   f) ⟨rfl, rfl, Nat.le_of_ble_eq_true rfl, Nat.le_of_ble_eq_true rfl, Nat.le_of_ble_eq_true rfl, Nat.le_of_ble_eq_true rfl⟩ rfl rfl (Nat.le_of_ble_eq_true rfl) dL_law_12 (ab_kr (k := 117) (n := 2409) (fun h_10 f => ?_))
  refine ab_astore_n C (lv' := [(2, .ref (G.1 + 105)), (1, .ref (G.1 + 0)), (0, .ref b)]) dL_law_15 rfl (by decide) rfl ?_
  refine ab_iconst C (v := (0 : Int32)) dL_law_16 (by decide) ?_
  refine ab_istore_n C (lv' := [(3, .int (0 : Int32)), (2, .ref (G.1 + 105)), (1, .ref (G.1 + 0)), (0, .ref b)]) dL_law_17 rfl (by decide) rfl ?_
  obtain ⟨c_11, f⟩ := f
  obtain ⟨n0, f⟩ := f
  refine ab_sub (lv' := [(0, .ref b), (1, .ref (G.1 + 0)), (2, .ref (G.1 + 105)), (3, .int (0 : Int32))]) [3, 2, 1, 0] rfl ?_
  exact bt_L_law_L18 C hX hR   n0 (0 : Int32) 117 2409 h_10  c_11 f
