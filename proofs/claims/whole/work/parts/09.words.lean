/-! ===== WORDS: the tables' words that the methods use, by their places; classes, fields, calls ===== -/
theorem ab_lays {ws : List Cond} {ps : List Nat} (hp : ws = ps.filterMap (fun i => tables_1[i]?)) (hg : ws.all goodWord = true) : ∀ w ∈ ws, w ∈ ab_ws := by
  intro w hw
  have h1 := List.all_eq_true.mp hg w hw
  rw [hp] at hw
  obtain ⟨i, -, hi⟩ := List.mem_filterMap.mp hw
  exact ab_w (List.mem_append_right _ (List.mem_of_getElem? hi)) h1
set_option maxRecDepth 20000 in
theorem kw_t38 : Cond.fieldLink RX0 18 "DailyRelief$Bunk" "kind" "I" ∈ ab_ws := ab_w (List.mem_append_right _ (List.mem_of_getElem? (i := 38) (by decide +kernel))) rfl
set_option maxRecDepth 20000 in
theorem kw_t39 : Cond.fieldLink RX7 86 "DailyRelief$Bunk" "kind" "I" ∈ ab_ws := ab_w (List.mem_append_right _ (List.mem_of_getElem? (i := 39) (by decide +kernel))) rfl
set_option maxRecDepth 20000 in
theorem kw_t40 : Cond.fieldLink RX2 155 "DailyRelief$Bunk" "kind" "I" ∈ ab_ws := ab_w (List.mem_append_right _ (List.mem_of_getElem? (i := 40) (by decide +kernel))) rfl
set_option maxRecDepth 20000 in
theorem kw_t41 : Cond.fieldLink RX0 22 "DailyRelief$Bunk" "m" "I" ∈ ab_ws := ab_w (List.mem_append_right _ (List.mem_of_getElem? (i := 41) (by decide +kernel))) rfl
set_option maxRecDepth 20000 in
theorem kw_t42 : Cond.fieldLink RX7 89 "DailyRelief$Bunk" "m" "I" ∈ ab_ws := ab_w (List.mem_append_right _ (List.mem_of_getElem? (i := 42) (by decide +kernel))) rfl
set_option maxRecDepth 20000 in
theorem kw_t43 : Cond.fieldLink RX2 158 "DailyRelief$Bunk" "m" "I" ∈ ab_ws := ab_w (List.mem_append_right _ (List.mem_of_getElem? (i := 43) (by decide +kernel))) rfl
set_option maxRecDepth 20000 in
theorem kw_t44 : Cond.fieldLink RX0 25 "DailyRelief$Bunk" "came" "I" ∈ ab_ws := ab_w (List.mem_append_right _ (List.mem_of_getElem? (i := 44) (by decide +kernel))) rfl
set_option maxRecDepth 20000 in
theorem kw_t45 : Cond.fieldLink RX2 176 "DailyRelief$Bunk" "came" "I" ∈ ab_ws := ab_w (List.mem_append_right _ (List.mem_of_getElem? (i := 45) (by decide +kernel))) rfl
set_option maxRecDepth 20000 in
theorem kw_t46 : Cond.fieldLink RX7 193 "DailyRelief$Bunk" "came" "I" ∈ ab_ws := ab_w (List.mem_append_right _ (List.mem_of_getElem? (i := 46) (by decide +kernel))) rfl
set_option maxRecDepth 20000 in
theorem kw_t47 : Cond.fieldLink RX0 28 "DailyRelief$Bunk" "known" "I" ∈ ab_ws := ab_w (List.mem_append_right _ (List.mem_of_getElem? (i := 47) (by decide +kernel))) rfl
set_option maxRecDepth 20000 in
theorem kw_t48 : Cond.fieldLink RX7 79 "DailyRelief$Bunk" "known" "I" ∈ ab_ws := ab_w (List.mem_append_right _ (List.mem_of_getElem? (i := 48) (by decide +kernel))) rfl
set_option maxRecDepth 20000 in
theorem kw_t49 : Cond.fieldLink RX2 161 "DailyRelief$Bunk" "known" "I" ∈ ab_ws := ab_w (List.mem_append_right _ (List.mem_of_getElem? (i := 49) (by decide +kernel))) rfl
set_option maxRecDepth 20000 in
theorem kw_t50 : Cond.fieldLink RX0 31 "DailyRelief$Bunk" "taught" "I" ∈ ab_ws := ab_w (List.mem_append_right _ (List.mem_of_getElem? (i := 50) (by decide +kernel))) rfl
set_option maxRecDepth 20000 in
theorem kw_t51 : Cond.fieldLink RX2 90 "DailyRelief$Bunk" "taught" "I" ∈ ab_ws := ab_w (List.mem_append_right _ (List.mem_of_getElem? (i := 51) (by decide +kernel))) rfl
set_option maxRecDepth 20000 in
theorem kw_t52 : Cond.fieldLink RX7 92 "DailyRelief$Bunk" "taught" "I" ∈ ab_ws := ab_w (List.mem_append_right _ (List.mem_of_getElem? (i := 52) (by decide +kernel))) rfl
set_option maxRecDepth 20000 in
theorem kw_t53 : Cond.fieldLink RX0 9 "DailyRelief$Bunk" "versions" "[I" ∈ ab_ws := ab_w (List.mem_append_right _ (List.mem_of_getElem? (i := 53) (by decide +kernel))) rfl
set_option maxRecDepth 20000 in
theorem kw_t54 : Cond.fieldLink RX7 101 "DailyRelief$Bunk" "versions" "[I" ∈ ab_ws := ab_w (List.mem_append_right _ (List.mem_of_getElem? (i := 54) (by decide +kernel))) rfl
set_option maxRecDepth 20000 in
theorem kw_t55 : Cond.fieldLink RX2 193 "DailyRelief$Bunk" "versions" "[I" ∈ ab_ws := ab_w (List.mem_append_right _ (List.mem_of_getElem? (i := 55) (by decide +kernel))) rfl
set_option maxRecDepth 20000 in
theorem kw_t56 : Cond.fieldLink RX0 15 "DailyRelief$Bunk" "lessons" "[I" ∈ ab_ws := ab_w (List.mem_append_right _ (List.mem_of_getElem? (i := 56) (by decide +kernel))) rfl
set_option maxRecDepth 20000 in
theorem kw_t57 : Cond.fieldLink RX2 121 "DailyRelief$Bunk" "lessons" "[I" ∈ ab_ws := ab_w (List.mem_append_right _ (List.mem_of_getElem? (i := 57) (by decide +kernel))) rfl
set_option maxRecDepth 20000 in
theorem kw_t80 : Cond.fieldLink RX3 9 "DailyRelief$Task" "knack" "I" ∈ ab_ws := ab_w (List.mem_append_right _ (List.mem_of_getElem? (i := 80) (by decide +kernel))) rfl
set_option maxRecDepth 20000 in
theorem kw_t81 : Cond.fieldLink RX7 128 "DailyRelief$Task" "knack" "I" ∈ ab_ws := ab_w (List.mem_append_right _ (List.mem_of_getElem? (i := 81) (by decide +kernel))) rfl
set_option maxRecDepth 20000 in
theorem kw_t82 : Cond.fieldLink RX2 145 "DailyRelief$Task" "knack" "I" ∈ ab_ws := ab_w (List.mem_append_right _ (List.mem_of_getElem? (i := 82) (by decide +kernel))) rfl
set_option maxRecDepth 20000 in
theorem kw_t83 : Cond.fieldLink RX3 15 "DailyRelief$Task" "must" "I" ∈ ab_ws := ab_w (List.mem_append_right _ (List.mem_of_getElem? (i := 83) (by decide +kernel))) rfl
set_option maxRecDepth 20000 in
theorem kw_t84 : Cond.fieldLink RX7 133 "DailyRelief$Task" "must" "I" ∈ ab_ws := ab_w (List.mem_append_right _ (List.mem_of_getElem? (i := 84) (by decide +kernel))) rfl
set_option maxRecDepth 20000 in
theorem kw_t85 : Cond.fieldLink RX2 186 "DailyRelief$Task" "must" "I" ∈ ab_ws := ab_w (List.mem_append_right _ (List.mem_of_getElem? (i := 85) (by decide +kernel))) rfl
set_option maxRecDepth 20000 in
theorem kw_t86 : Cond.fieldLink RX3 18 "DailyRelief$Task" "done" "I" ∈ ab_ws := ab_w (List.mem_append_right _ (List.mem_of_getElem? (i := 86) (by decide +kernel))) rfl
set_option maxRecDepth 20000 in
theorem kw_t87 : Cond.fieldLink RX2 183 "DailyRelief$Task" "done" "I" ∈ ab_ws := ab_w (List.mem_append_right _ (List.mem_of_getElem? (i := 87) (by decide +kernel))) rfl
set_option maxRecDepth 20000 in
theorem kw_t88 : Cond.fieldLink RX3 21 "DailyRelief$Task" "failed" "I" ∈ ab_ws := ab_w (List.mem_append_right _ (List.mem_of_getElem? (i := 88) (by decide +kernel))) rfl
set_option maxRecDepth 20000 in
theorem kw_t89 : Cond.fieldLink RX2 196 "DailyRelief$Task" "failed" "I" ∈ ab_ws := ab_w (List.mem_append_right _ (List.mem_of_getElem? (i := 89) (by decide +kernel))) rfl
set_option maxRecDepth 20000 in
theorem kw_t99 : Cond.fieldLink RX2 11 "DailyRelief$Ship" "bunks" "[LDailyRelief$Bunk;" ∈ ab_ws := ab_w (List.mem_append_right _ (List.mem_of_getElem? (i := 99) (by decide +kernel))) rfl
set_option maxRecDepth 20000 in
theorem kw_t100 : Cond.fieldLink RX7 70 "DailyRelief$Ship" "bunks" "[LDailyRelief$Bunk;" ∈ ab_ws := ab_w (List.mem_append_right _ (List.mem_of_getElem? (i := 100) (by decide +kernel))) rfl
set_option maxRecDepth 20000 in
theorem kw_t101 : Cond.fieldLink RX2 52 "DailyRelief$Ship" "crew" "I" ∈ ab_ws := ab_w (List.mem_append_right _ (List.mem_of_getElem? (i := 101) (by decide +kernel))) rfl
set_option maxRecDepth 20000 in
theorem kw_t102 : Cond.fieldLink RX7 55 "DailyRelief$Ship" "crew" "I" ∈ ab_ws := ab_w (List.mem_append_right _ (List.mem_of_getElem? (i := 102) (by decide +kernel))) rfl
set_option maxRecDepth 20000 in
theorem kw_t103 : Cond.fieldLink RX2 17 "DailyRelief$Ship" "rosterKm" "[I" ∈ ab_ws := ab_w (List.mem_append_right _ (List.mem_of_getElem? (i := 103) (by decide +kernel))) rfl
set_option maxRecDepth 20000 in
theorem kw_t104 : Cond.fieldLink RX2 21 "DailyRelief$Ship" "rosterBrings" "[I" ∈ ab_ws := ab_w (List.mem_append_right _ (List.mem_of_getElem? (i := 104) (by decide +kernel))) rfl
set_option maxRecDepth 20000 in
theorem kw_t105 : Cond.fieldLink RX2 55 "DailyRelief$Ship" "enlisted" "I" ∈ ab_ws := ab_w (List.mem_append_right _ (List.mem_of_getElem? (i := 105) (by decide +kernel))) rfl
set_option maxRecDepth 20000 in
theorem kw_t106 : Cond.fieldLink RX7 115 "DailyRelief$Ship" "enlisted" "I" ∈ ab_ws := ab_w (List.mem_append_right _ (List.mem_of_getElem? (i := 106) (by decide +kernel))) rfl
set_option maxRecDepth 20000 in
theorem kw_t107 : Cond.fieldLink RX2 58 "DailyRelief$Ship" "next" "I" ∈ ab_ws := ab_w (List.mem_append_right _ (List.mem_of_getElem? (i := 107) (by decide +kernel))) rfl
set_option maxRecDepth 20000 in
theorem kw_t108 : Cond.fieldLink RX7 262 "DailyRelief$Ship" "next" "I" ∈ ab_ws := ab_w (List.mem_append_right _ (List.mem_of_getElem? (i := 108) (by decide +kernel))) rfl
set_option maxRecDepth 20000 in
theorem kw_t109 : Cond.fieldLink RX2 61 "DailyRelief$Ship" "written" "I" ∈ ab_ws := ab_w (List.mem_append_right _ (List.mem_of_getElem? (i := 109) (by decide +kernel))) rfl
set_option maxRecDepth 20000 in
theorem kw_t110 : Cond.fieldLink RX7 121 "DailyRelief$Ship" "written" "I" ∈ ab_ws := ab_w (List.mem_append_right _ (List.mem_of_getElem? (i := 110) (by decide +kernel))) rfl
set_option maxRecDepth 20000 in
theorem kw_t111 : Cond.fieldLink RX2 26 "DailyRelief$Ship" "tasks" "[LDailyRelief$Task;" ∈ ab_ws := ab_w (List.mem_append_right _ (List.mem_of_getElem? (i := 111) (by decide +kernel))) rfl
set_option maxRecDepth 20000 in
theorem kw_t112 : Cond.fieldLink RX7 124 "DailyRelief$Ship" "tasks" "[LDailyRelief$Task;" ∈ ab_ws := ab_w (List.mem_append_right _ (List.mem_of_getElem? (i := 112) (by decide +kernel))) rfl
set_option maxRecDepth 20000 in
theorem kw_t113 : Cond.fieldLink RX2 64 "DailyRelief$Ship" "day" "I" ∈ ab_ws := ab_w (List.mem_append_right _ (List.mem_of_getElem? (i := 113) (by decide +kernel))) rfl
set_option maxRecDepth 20000 in
theorem kw_t114 : Cond.fieldLink RX7 157 "DailyRelief$Ship" "day" "I" ∈ ab_ws := ab_w (List.mem_append_right _ (List.mem_of_getElem? (i := 114) (by decide +kernel))) rfl
set_option maxRecDepth 20000 in
theorem kw_t115 : Cond.fieldLink RX2 30 "DailyRelief$Ship" "mishearing" "I" ∈ ab_ws := ab_w (List.mem_append_right _ (List.mem_of_getElem? (i := 115) (by decide +kernel))) rfl
set_option maxRecDepth 20000 in
theorem kw_t116 : Cond.fieldLink RX7 167 "DailyRelief$Ship" "mishearing" "I" ∈ ab_ws := ab_w (List.mem_append_right _ (List.mem_of_getElem? (i := 116) (by decide +kernel))) rfl
set_option maxRecDepth 20000 in
theorem kw_t117 : Cond.fieldLink RX2 34 "DailyRelief$Ship" "z" "I" ∈ ab_ws := ab_w (List.mem_append_right _ (List.mem_of_getElem? (i := 117) (by decide +kernel))) rfl
set_option maxRecDepth 20000 in
theorem kw_t118 : Cond.fieldLink RX7 170 "DailyRelief$Ship" "z" "I" ∈ ab_ws := ab_w (List.mem_append_right _ (List.mem_of_getElem? (i := 118) (by decide +kernel))) rfl
set_option maxRecDepth 20000 in
theorem kw_t119 : Cond.fieldLink RX2 37 "DailyRelief$Ship" "tape" "[B" ∈ ab_ws := ab_w (List.mem_append_right _ (List.mem_of_getElem? (i := 119) (by decide +kernel))) rfl
set_option maxRecDepth 20000 in
theorem kw_t120 : Cond.fieldLink RX7 142 "DailyRelief$Ship" "tape" "[B" ∈ ab_ws := ab_w (List.mem_append_right _ (List.mem_of_getElem? (i := 120) (by decide +kernel))) rfl
set_option maxRecDepth 20000 in
theorem kw_t121 : Cond.fieldLink RX2 67 "DailyRelief$Ship" "taped" "I" ∈ ab_ws := ab_w (List.mem_append_right _ (List.mem_of_getElem? (i := 121) (by decide +kernel))) rfl
set_option maxRecDepth 20000 in
theorem kw_t122 : Cond.fieldLink RX7 139 "DailyRelief$Ship" "taped" "I" ∈ ab_ws := ab_w (List.mem_append_right _ (List.mem_of_getElem? (i := 122) (by decide +kernel))) rfl
set_option maxRecDepth 20000 in
theorem kw_t123 : Cond.fieldLink RX2 43 "DailyRelief$Ship" "texts" "[LDailyRelief$Text;" ∈ ab_ws := ab_w (List.mem_append_right _ (List.mem_of_getElem? (i := 123) (by decide +kernel))) rfl
set_option maxRecDepth 20000 in
theorem kw_t124 : Cond.fieldLink RX7 153 "DailyRelief$Ship" "texts" "[LDailyRelief$Text;" ∈ ab_ws := ab_w (List.mem_append_right _ (List.mem_of_getElem? (i := 124) (by decide +kernel))) rfl
set_option maxRecDepth 20000 in
theorem kw_t125 : Cond.fieldLink RX2 47 "DailyRelief$Ship" "waits" "[I" ∈ ab_ws := ab_w (List.mem_append_right _ (List.mem_of_getElem? (i := 125) (by decide +kernel))) rfl
set_option maxRecDepth 20000 in
theorem kw_t126 : Cond.fieldLink RX7 259 "DailyRelief$Ship" "waits" "[I" ∈ ab_ws := ab_w (List.mem_append_right _ (List.mem_of_getElem? (i := 126) (by decide +kernel))) rfl
set_option maxRecDepth 20000 in
theorem kw_t127 : Cond.fieldLink RX2 70 "DailyRelief$Ship" "waiting" "I" ∈ ab_ws := ab_w (List.mem_append_right _ (List.mem_of_getElem? (i := 127) (by decide +kernel))) rfl
set_option maxRecDepth 20000 in
theorem kw_t128 : Cond.fieldLink RX7 256 "DailyRelief$Ship" "waiting" "I" ∈ ab_ws := ab_w (List.mem_append_right _ (List.mem_of_getElem? (i := 128) (by decide +kernel))) rfl
set_option maxRecDepth 20000 in
theorem kw_t168 : Cond.fieldLink RX5 15 "DailyRelief$TextReader" "tape" "[B" ∈ ab_ws := ab_w (List.mem_append_right _ (List.mem_of_getElem? (i := 168) (by decide +kernel))) rfl
set_option maxRecDepth 20000 in
theorem kw_t169 : Cond.fieldLink RX5 25 "DailyRelief$TextReader" "length" "I" ∈ ab_ws := ab_w (List.mem_append_right _ (List.mem_of_getElem? (i := 169) (by decide +kernel))) rfl
set_option maxRecDepth 20000 in
theorem kw_t170 : Cond.fieldLink RX5 29 "DailyRelief$TextReader" "thirdName" "I" ∈ ab_ws := ab_w (List.mem_append_right _ (List.mem_of_getElem? (i := 170) (by decide +kernel))) rfl
set_option maxRecDepth 20000 in
theorem kw_t171 : Cond.fieldLink RX5 32 "DailyRelief$TextReader" "at" "I" ∈ ab_ws := ab_w (List.mem_append_right _ (List.mem_of_getElem? (i := 171) (by decide +kernel))) rfl
set_option maxRecDepth 20000 in
theorem kw_t172 : Cond.fieldLink RX5 9 "DailyRelief$TextReader" "steps" "[I" ∈ ab_ws := ab_w (List.mem_append_right _ (List.mem_of_getElem? (i := 172) (by decide +kernel))) rfl
set_option maxRecDepth 20000 in
theorem kw_t173 : Cond.fieldLink RX5 35 "DailyRelief$TextReader" "stepped" "I" ∈ ab_ws := ab_w (List.mem_append_right _ (List.mem_of_getElem? (i := 173) (by decide +kernel))) rfl
set_option maxRecDepth 20000 in
theorem kw_t174 : Cond.fieldLink RX5 38 "DailyRelief$TextReader" "fault" "I" ∈ ab_ws := ab_w (List.mem_append_right _ (List.mem_of_getElem? (i := 174) (by decide +kernel))) rfl
set_option maxRecDepth 20000 in
theorem kw_t175 : Cond.fieldLink RX7 150 "DailyRelief$TextReader" "fault" "I" ∈ ab_ws := ab_w (List.mem_append_right _ (List.mem_of_getElem? (i := 175) (by decide +kernel))) rfl
set_option maxRecDepth 20000 in
theorem kw_t197 : Cond.fieldLink RX6 15 "DailyRelief$Voices" "kind" "I" ∈ ab_ws := ab_w (List.mem_append_right _ (List.mem_of_getElem? (i := 197) (by decide +kernel))) rfl
set_option maxRecDepth 20000 in
theorem kw_t198 : Cond.fieldLink RX6 19 "DailyRelief$Voices" "bunk" "I" ∈ ab_ws := ab_w (List.mem_append_right _ (List.mem_of_getElem? (i := 198) (by decide +kernel))) rfl
set_option maxRecDepth 20000 in
theorem kw_t199 : Cond.fieldLink RX6 22 "DailyRelief$Voices" "m" "I" ∈ ab_ws := ab_w (List.mem_append_right _ (List.mem_of_getElem? (i := 199) (by decide +kernel))) rfl
set_option maxRecDepth 20000 in
theorem kw_t200 : Cond.fieldLink RX6 9 "DailyRelief$Voices" "trace" "[I" ∈ ab_ws := ab_w (List.mem_append_right _ (List.mem_of_getElem? (i := 200) (by decide +kernel))) rfl
set_option maxRecDepth 20000 in
theorem kw_t201 : Cond.fieldLink RX7 215 "DailyRelief$Voices" "trace" "[I" ∈ ab_ws := ab_w (List.mem_append_right _ (List.mem_of_getElem? (i := 201) (by decide +kernel))) rfl
set_option maxRecDepth 20000 in
theorem kw_t202 : Cond.fieldLink RX6 25 "DailyRelief$Voices" "begun" "I" ∈ ab_ws := ab_w (List.mem_append_right _ (List.mem_of_getElem? (i := 202) (by decide +kernel))) rfl
set_option maxRecDepth 20000 in
theorem kw_t203 : Cond.fieldLink RX7 212 "DailyRelief$Voices" "begun" "I" ∈ ab_ws := ab_w (List.mem_append_right _ (List.mem_of_getElem? (i := 203) (by decide +kernel))) rfl
set_option maxRecDepth 20000 in
theorem kw_t204 : Cond.fieldLink RX6 28 "DailyRelief$Voices" "parted" "Z" ∈ ab_ws := ab_w (List.mem_append_right _ (List.mem_of_getElem? (i := 204) (by decide +kernel))) rfl
set_option maxRecDepth 20000 in
theorem kw_t205 : Cond.fieldLink RX7 208 "DailyRelief$Voices" "parted" "Z" ∈ ab_ws := ab_w (List.mem_append_right _ (List.mem_of_getElem? (i := 205) (by decide +kernel))) rfl
set_option maxRecDepth 20000 in
theorem kw_t226 : Cond.fieldLink RX1 15 "DailyRelief$Sheet" "bits" "I" ∈ ab_ws := ab_w (List.mem_append_right _ (List.mem_of_getElem? (i := 226) (by decide +kernel))) rfl
set_option maxRecDepth 20000 in
theorem kw_t227 : Cond.fieldLink RX7 234 "DailyRelief$Sheet" "bits" "I" ∈ ab_ws := ab_w (List.mem_append_right _ (List.mem_of_getElem? (i := 227) (by decide +kernel))) rfl
set_option maxRecDepth 20000 in
theorem kw_t228 : Cond.fieldLink RX1 19 "DailyRelief$Sheet" "length" "I" ∈ ab_ws := ab_w (List.mem_append_right _ (List.mem_of_getElem? (i := 228) (by decide +kernel))) rfl
set_option maxRecDepth 20000 in
theorem kw_t229 : Cond.fieldLink RX7 228 "DailyRelief$Sheet" "length" "I" ∈ ab_ws := ab_w (List.mem_append_right _ (List.mem_of_getElem? (i := 229) (by decide +kernel))) rfl
set_option maxRecDepth 20000 in
theorem kw_t230 : Cond.fieldLink RX1 9 "DailyRelief$Sheet" "numbers" "[I" ∈ ab_ws := ab_w (List.mem_append_right _ (List.mem_of_getElem? (i := 230) (by decide +kernel))) rfl
set_option maxRecDepth 20000 in
theorem kw_t231 : Cond.fieldLink RX7 240 "DailyRelief$Sheet" "numbers" "[I" ∈ ab_ws := ab_w (List.mem_append_right _ (List.mem_of_getElem? (i := 231) (by decide +kernel))) rfl
set_option maxRecDepth 20000 in
theorem kw_t239 : Cond.fieldLink RX7 10 "DailyRelief" "ship" "LDailyRelief$Ship;" ∈ ab_ws := ab_w (List.mem_append_right _ (List.mem_of_getElem? (i := 239) (by decide +kernel))) rfl
set_option maxRecDepth 20000 in
theorem kw_t240 : Cond.fieldLink RX7 16 "DailyRelief" "kept" "LDailyRelief$Ship;" ∈ ab_ws := ab_w (List.mem_append_right _ (List.mem_of_getElem? (i := 240) (by decide +kernel))) rfl
set_option maxRecDepth 20000 in
theorem kw_t241 : Cond.fieldLink RX7 19 "DailyRelief" "trial" "LDailyRelief$Ship;" ∈ ab_ws := ab_w (List.mem_append_right _ (List.mem_of_getElem? (i := 241) (by decide +kernel))) rfl
set_option maxRecDepth 20000 in
theorem kw_t242 : Cond.fieldLink RX7 25 "DailyRelief" "reader" "LDailyRelief$TextReader;" ∈ ab_ws := ab_w (List.mem_append_right _ (List.mem_of_getElem? (i := 242) (by decide +kernel))) rfl
set_option maxRecDepth 20000 in
theorem kw_t243 : Cond.fieldLink RX7 32 "DailyRelief" "voices" "LDailyRelief$Voices;" ∈ ab_ws := ab_w (List.mem_append_right _ (List.mem_of_getElem? (i := 243) (by decide +kernel))) rfl
set_option maxRecDepth 20000 in
theorem kw_t244 : Cond.fieldLink RX7 38 "DailyRelief" "sheets" "[LDailyRelief$Sheet;" ∈ ab_ws := ab_w (List.mem_append_right _ (List.mem_of_getElem? (i := 244) (by decide +kernel))) rfl
set_option maxRecDepth 20000 in
theorem kw_t245 : Cond.fieldLink RX7 42 "DailyRelief" "errors" "[I" ∈ ab_ws := ab_w (List.mem_append_right _ (List.mem_of_getElem? (i := 245) (by decide +kernel))) rfl
set_option maxRecDepth 20000 in
theorem kw_t246 : Cond.fieldLink RX7 253 "DailyRelief" "images" "I" ∈ ab_ws := ab_w (List.mem_append_right _ (List.mem_of_getElem? (i := 246) (by decide +kernel))) rfl
set_option maxRecDepth 20000 in
theorem kw_t466 : Cond.fieldLink RX4 7 "DailyRelief$Text" "code" "[I" ∈ ab_ws := ab_w (List.mem_append_right _ (List.mem_of_getElem? (i := 466) (by decide +kernel))) rfl
set_option maxRecDepth 20000 in
theorem kw_t467 : Cond.fieldLink RX4 13 "DailyRelief$Text" "stack" "[I" ∈ ab_ws := ab_w (List.mem_append_right _ (List.mem_of_getElem? (i := 467) (by decide +kernel))) rfl
set_option maxRecDepth 20000 in
theorem kw_t743 : Cond.fieldLink RX8 7 "DailyReliefModel" "s" "[I" ∈ ab_ws := ab_w (List.mem_append_right _ (List.mem_of_getElem? (i := 743) (by decide +kernel))) rfl
set_option maxRecDepth 20000 in
theorem kw_t744 : Cond.fieldLink RX8 13 "DailyReliefModel" "kept" "[I" ∈ ab_ws := ab_w (List.mem_append_right _ (List.mem_of_getElem? (i := 744) (by decide +kernel))) rfl
set_option maxRecDepth 20000 in
theorem kw_t745 : Cond.fieldLink RX8 16 "DailyReliefModel" "other" "[I" ∈ ab_ws := ab_w (List.mem_append_right _ (List.mem_of_getElem? (i := 745) (by decide +kernel))) rfl
set_option maxRecDepth 20000 in
theorem kw_t746 : Cond.fieldLink RX8 19 "DailyReliefModel" "errors" "[I" ∈ ab_ws := ab_w (List.mem_append_right _ (List.mem_of_getElem? (i := 746) (by decide +kernel))) rfl
set_option maxRecDepth 20000 in
theorem kw_t747 : Cond.fieldLink RX8 312 "DailyReliefModel" "images" "I" ∈ ab_ws := ab_w (List.mem_append_right _ (List.mem_of_getElem? (i := 747) (by decide +kernel))) rfl
set_option maxRecDepth 20000 in
theorem kw_t748 : Cond.fieldLink RX8 22 "DailyReliefModel" "pile" "[I" ∈ ab_ws := ab_w (List.mem_append_right _ (List.mem_of_getElem? (i := 748) (by decide +kernel))) rfl
set_option maxRecDepth 20000 in
theorem kw_t749 : Cond.fieldLink RX8 151 "DailyReliefModel" "from" "I" ∈ ab_ws := ab_w (List.mem_append_right _ (List.mem_of_getElem? (i := 749) (by decide +kernel))) rfl
set_option maxRecDepth 20000 in
theorem kw_t750 : Cond.fieldLink RX8 190 "DailyReliefModel" "opened" "I" ∈ ab_ws := ab_w (List.mem_append_right _ (List.mem_of_getElem? (i := 750) (by decide +kernel))) rfl
set_option maxRecDepth 20000 in
theorem kw_t751 : Cond.fieldLink RX8 167 "DailyReliefModel" "written" "I" ∈ ab_ws := ab_w (List.mem_append_right _ (List.mem_of_getElem? (i := 751) (by decide +kernel))) rfl
set_option maxRecDepth 20000 in
theorem kw_t752 : Cond.fieldLink RX8 170 "DailyReliefModel" "useHere" "I" ∈ ab_ws := ab_w (List.mem_append_right _ (List.mem_of_getElem? (i := 752) (by decide +kernel))) rfl
set_option maxRecDepth 20000 in
theorem kw_t753 : Cond.fieldLink RX8 155 "DailyReliefModel" "isWrong" "Z" ∈ ab_ws := ab_w (List.mem_append_right _ (List.mem_of_getElem? (i := 753) (by decide +kernel))) rfl
set_option maxRecDepth 20000 in
theorem kw_t754 : Cond.fieldLink RX8 25 "DailyReliefModel" "drafted" "[I" ∈ ab_ws := ab_w (List.mem_append_right _ (List.mem_of_getElem? (i := 754) (by decide +kernel))) rfl
set_option maxRecDepth 20000 in
theorem kw_t755 : Cond.fieldLink RX8 215 "DailyReliefModel" "cameMany" "I" ∈ ab_ws := ab_w (List.mem_append_right _ (List.mem_of_getElem? (i := 755) (by decide +kernel))) rfl
set_option maxRecDepth 20000 in
theorem kw_t756 : Cond.fieldLink RX8 227 "DailyReliefModel" "misheardMany" "I" ∈ ab_ws := ab_w (List.mem_append_right _ (List.mem_of_getElem? (i := 756) (by decide +kernel))) rfl
set_option maxRecDepth 20000 in
theorem kw_t757 : Cond.fieldLink RX8 28 "DailyReliefModel" "ran" "[I" ∈ ab_ws := ab_w (List.mem_append_right _ (List.mem_of_getElem? (i := 757) (by decide +kernel))) rfl
set_option maxRecDepth 20000 in
theorem kw_t758 : Cond.fieldLink RX8 278 "DailyReliefModel" "bodies" "I" ∈ ab_ws := ab_w (List.mem_append_right _ (List.mem_of_getElem? (i := 758) (by decide +kernel))) rfl
set_option maxRecDepth 20000 in
theorem kw_t759 : Cond.fieldLink RX8 281 "DailyReliefModel" "speaker" "I" ∈ ab_ws := ab_w (List.mem_append_right _ (List.mem_of_getElem? (i := 759) (by decide +kernel))) rfl
set_option maxRecDepth 20000 in
theorem kw_t760 : Cond.fieldLink RX8 293 "DailyReliefModel" "isParted" "Z" ∈ ab_ws := ab_w (List.mem_append_right _ (List.mem_of_getElem? (i := 760) (by decide +kernel))) rfl
set_option maxRecDepth 20000 in
theorem kw_t761 : Cond.fieldLink RX8 31 "DailyReliefModel" "bitsOf" "[I" ∈ ab_ws := ab_w (List.mem_append_right _ (List.mem_of_getElem? (i := 761) (by decide +kernel))) rfl
set_option maxRecDepth 20000 in
theorem kw_t762 : Cond.fieldLink RX8 34 "DailyReliefModel" "sizeOf" "[I" ∈ ab_ws := ab_w (List.mem_append_right _ (List.mem_of_getElem? (i := 762) (by decide +kernel))) rfl
set_option maxRecDepth 20000 in
theorem kw_t763 : Cond.fieldLink RX8 37 "DailyReliefModel" "number" "[I" ∈ ab_ws := ab_w (List.mem_append_right _ (List.mem_of_getElem? (i := 763) (by decide +kernel))) rfl
set_option maxRecDepth 20000 in
theorem kw_t764 : Cond.fieldLink RX8 40 "DailyReliefModel" "moved" "[I" ∈ ab_ws := ab_w (List.mem_append_right _ (List.mem_of_getElem? (i := 764) (by decide +kernel))) rfl
set_option maxRecDepth 20000 in
theorem kw_t17 : Cond.code yX7_init cX7_init 2 none ∈ ab_ws := ab_w (List.mem_append_right _ (List.mem_of_getElem? (i := 17) (by decide +kernel))) rfl
set_option maxRecDepth 20000 in
theorem kw_t15 : Cond.methodLink RL 9 yX7_init ∈ ab_ws := ab_w (List.mem_append_right _ (List.mem_of_getElem? (i := 15) (by decide +kernel))) rfl
set_option maxRecDepth 20000 in
theorem kw_t16 : Cond.instanceMethod yX7_init ∈ ab_ws := ab_w (List.mem_append_right _ (List.mem_of_getElem? (i := 16) (by decide +kernel))) rfl
set_option maxRecDepth 20000 in
theorem kw_t1 : Cond.initialized "DailyRelief" ∈ ab_ws := ab_w (List.mem_append_right _ (List.mem_of_getElem? (i := 1) (by decide +kernel))) rfl
set_option maxRecDepth 20000 in
theorem kw_t25 : Cond.code yX2_init cX2_init 2 none ∈ ab_ws := ab_w (List.mem_append_right _ (List.mem_of_getElem? (i := 25) (by decide +kernel))) rfl
set_option maxRecDepth 20000 in
theorem kw_t23 : Cond.methodLink RX7 9 yX2_init ∈ ab_ws := ab_w (List.mem_append_right _ (List.mem_of_getElem? (i := 23) (by decide +kernel))) rfl
set_option maxRecDepth 20000 in
theorem kw_t24 : Cond.instanceMethod yX2_init ∈ ab_ws := ab_w (List.mem_append_right _ (List.mem_of_getElem? (i := 24) (by decide +kernel))) rfl
set_option maxRecDepth 20000 in
theorem kw_t2 : Cond.initialized "DailyRelief$Ship" ∈ ab_ws := ab_w (List.mem_append_right _ (List.mem_of_getElem? (i := 2) (by decide +kernel))) rfl
set_option maxRecDepth 20000 in
theorem kw_t36 : Cond.code yX0_init cX0_init 1 none ∈ ab_ws := ab_w (List.mem_append_right _ (List.mem_of_getElem? (i := 36) (by decide +kernel))) rfl
set_option maxRecDepth 20000 in
theorem kw_t35 : Cond.instanceMethod yX0_init ∈ ab_ws := ab_w (List.mem_append_right _ (List.mem_of_getElem? (i := 35) (by decide +kernel))) rfl
set_option maxRecDepth 20000 in
theorem kw_t3 : Cond.initialized "DailyRelief$Bunk" ∈ ab_ws := ab_w (List.mem_append_right _ (List.mem_of_getElem? (i := 3) (by decide +kernel))) rfl
set_option maxRecDepth 20000 in
theorem kw_t78 : Cond.code yX3_init cX3_init 1 none ∈ ab_ws := ab_w (List.mem_append_right _ (List.mem_of_getElem? (i := 78) (by decide +kernel))) rfl
set_option maxRecDepth 20000 in
theorem kw_t77 : Cond.instanceMethod yX3_init ∈ ab_ws := ab_w (List.mem_append_right _ (List.mem_of_getElem? (i := 77) (by decide +kernel))) rfl
set_option maxRecDepth 20000 in
theorem kw_t4 : Cond.initialized "DailyRelief$Task" ∈ ab_ws := ab_w (List.mem_append_right _ (List.mem_of_getElem? (i := 4) (by decide +kernel))) rfl
set_option maxRecDepth 20000 in
theorem kw_t166 : Cond.code yX5_init cX5_init 1 none ∈ ab_ws := ab_w (List.mem_append_right _ (List.mem_of_getElem? (i := 166) (by decide +kernel))) rfl
set_option maxRecDepth 20000 in
theorem kw_t165 : Cond.instanceMethod yX5_init ∈ ab_ws := ab_w (List.mem_append_right _ (List.mem_of_getElem? (i := 165) (by decide +kernel))) rfl
set_option maxRecDepth 20000 in
theorem kw_t5 : Cond.initialized "DailyRelief$TextReader" ∈ ab_ws := ab_w (List.mem_append_right _ (List.mem_of_getElem? (i := 5) (by decide +kernel))) rfl
set_option maxRecDepth 20000 in
theorem kw_t195 : Cond.code yX6_init cX6_init 1 none ∈ ab_ws := ab_w (List.mem_append_right _ (List.mem_of_getElem? (i := 195) (by decide +kernel))) rfl
set_option maxRecDepth 20000 in
theorem kw_t194 : Cond.instanceMethod yX6_init ∈ ab_ws := ab_w (List.mem_append_right _ (List.mem_of_getElem? (i := 194) (by decide +kernel))) rfl
set_option maxRecDepth 20000 in
theorem kw_t6 : Cond.initialized "DailyRelief$Voices" ∈ ab_ws := ab_w (List.mem_append_right _ (List.mem_of_getElem? (i := 6) (by decide +kernel))) rfl
set_option maxRecDepth 20000 in
theorem kw_t224 : Cond.code yX1_init cX1_init 1 none ∈ ab_ws := ab_w (List.mem_append_right _ (List.mem_of_getElem? (i := 224) (by decide +kernel))) rfl
set_option maxRecDepth 20000 in
theorem kw_t223 : Cond.instanceMethod yX1_init ∈ ab_ws := ab_w (List.mem_append_right _ (List.mem_of_getElem? (i := 223) (by decide +kernel))) rfl
set_option maxRecDepth 20000 in
theorem kw_t7 : Cond.initialized "DailyRelief$Sheet" ∈ ab_ws := ab_w (List.mem_append_right _ (List.mem_of_getElem? (i := 7) (by decide +kernel))) rfl
set_option maxRecDepth 20000 in
theorem kw_t267 : Cond.code yX7_bunk cX7_bunk 2 (some .int) ∈ ab_ws := ab_w (List.mem_append_right _ (List.mem_of_getElem? (i := 267) (by decide +kernel))) rfl
set_option maxRecDepth 20000 in
theorem kw_t264 : Cond.methodLink RL 13 yX7_bunk ∈ ab_ws := ab_w (List.mem_append_right _ (List.mem_of_getElem? (i := 264) (by decide +kernel))) rfl
set_option maxRecDepth 20000 in
theorem kw_t265 : Cond.instanceMethod yX7_bunk ∈ ab_ws := ab_w (List.mem_append_right _ (List.mem_of_getElem? (i := 265) (by decide +kernel))) rfl
set_option maxRecDepth 20000 in
theorem kw_t266 : Cond.selects "DailyRelief" yX7_bunk yX7_bunk ∈ ab_ws := ab_w (List.mem_append_right _ (List.mem_of_getElem? (i := 266) (by decide +kernel))) rfl
set_option maxRecDepth 20000 in
theorem kw_t270 : Cond.code yX7_within cX7_within 3 (some .boolean) ∈ ab_ws := ab_w (List.mem_append_right _ (List.mem_of_getElem? (i := 270) (by decide +kernel))) rfl
set_option maxRecDepth 20000 in
theorem kw_t268 : Cond.methodLink RX7 47 yX7_within ∈ ab_ws := ab_w (List.mem_append_right _ (List.mem_of_getElem? (i := 268) (by decide +kernel))) rfl
set_option maxRecDepth 20000 in
theorem kw_t269 : Cond.static yX7_within ∈ ab_ws := ab_w (List.mem_append_right _ (List.mem_of_getElem? (i := 269) (by decide +kernel))) rfl
set_option maxRecDepth 20000 in
theorem kw_t274 : Cond.code yX7_error cX7_error 2 (some .int) ∈ ab_ws := ab_w (List.mem_append_right _ (List.mem_of_getElem? (i := 274) (by decide +kernel))) rfl
set_option maxRecDepth 20000 in
theorem kw_t271 : Cond.methodLink RX7 51 yX7_error ∈ ab_ws := ab_w (List.mem_append_right _ (List.mem_of_getElem? (i := 271) (by decide +kernel))) rfl
set_option maxRecDepth 20000 in
theorem kw_t273 : Cond.instanceMethod yX7_error ∈ ab_ws := ab_w (List.mem_append_right _ (List.mem_of_getElem? (i := 273) (by decide +kernel))) rfl
set_option maxRecDepth 20000 in
theorem kw_p0 : Cond.selects "DailyRelief" yX7_error yX7_error ∈ ab_ws := ab_w (List.mem_append_left _ (List.mem_of_getElem? (i := 0) (by decide +kernel))) rfl
set_option maxRecDepth 20000 in
theorem kw_t279 : Cond.code yX2_addBunk cX2_addBunk 2 (some .int) ∈ ab_ws := ab_w (List.mem_append_right _ (List.mem_of_getElem? (i := 279) (by decide +kernel))) rfl
set_option maxRecDepth 20000 in
theorem kw_t276 : Cond.methodLink RX7 59 yX2_addBunk ∈ ab_ws := ab_w (List.mem_append_right _ (List.mem_of_getElem? (i := 276) (by decide +kernel))) rfl
set_option maxRecDepth 20000 in
theorem kw_t277 : Cond.instanceMethod yX2_addBunk ∈ ab_ws := ab_w (List.mem_append_right _ (List.mem_of_getElem? (i := 277) (by decide +kernel))) rfl
set_option maxRecDepth 20000 in
theorem kw_t278 : Cond.selects "DailyRelief$Ship" yX2_addBunk yX2_addBunk ∈ ab_ws := ab_w (List.mem_append_right _ (List.mem_of_getElem? (i := 278) (by decide +kernel))) rfl
set_option maxRecDepth 20000 in
theorem kw_t283 : Cond.code yX0_settle cX0_settle 4 none ∈ ab_ws := ab_w (List.mem_append_right _ (List.mem_of_getElem? (i := 283) (by decide +kernel))) rfl
set_option maxRecDepth 20000 in
theorem kw_t280 : Cond.methodLink RX2 86 yX0_settle ∈ ab_ws := ab_w (List.mem_append_right _ (List.mem_of_getElem? (i := 280) (by decide +kernel))) rfl
set_option maxRecDepth 20000 in
theorem kw_t281 : Cond.instanceMethod yX0_settle ∈ ab_ws := ab_w (List.mem_append_right _ (List.mem_of_getElem? (i := 281) (by decide +kernel))) rfl
set_option maxRecDepth 20000 in
theorem kw_t282 : Cond.selects "DailyRelief$Bunk" yX0_settle yX0_settle ∈ ab_ws := ab_w (List.mem_append_right _ (List.mem_of_getElem? (i := 282) (by decide +kernel))) rfl
set_option maxRecDepth 20000 in
theorem kw_t287 : Cond.code yX0_forget cX0_forget 2 none ∈ ab_ws := ab_w (List.mem_append_right _ (List.mem_of_getElem? (i := 287) (by decide +kernel))) rfl
set_option maxRecDepth 20000 in
theorem kw_t284 : Cond.methodLink RX0 40 yX0_forget ∈ ab_ws := ab_w (List.mem_append_right _ (List.mem_of_getElem? (i := 284) (by decide +kernel))) rfl
set_option maxRecDepth 20000 in
theorem kw_t285 : Cond.instanceMethod yX0_forget ∈ ab_ws := ab_w (List.mem_append_right _ (List.mem_of_getElem? (i := 285) (by decide +kernel))) rfl
set_option maxRecDepth 20000 in
theorem kw_t286 : Cond.selects "DailyRelief$Bunk" yX0_forget yX0_forget ∈ ab_ws := ab_w (List.mem_append_right _ (List.mem_of_getElem? (i := 286) (by decide +kernel))) rfl
set_option maxRecDepth 20000 in
theorem kw_t291 : Cond.code yX7_bunkIs cX7_bunkIs 3 (some .int) ∈ ab_ws := ab_w (List.mem_append_right _ (List.mem_of_getElem? (i := 291) (by decide +kernel))) rfl
set_option maxRecDepth 20000 in
theorem kw_t288 : Cond.methodLink RL 18 yX7_bunkIs ∈ ab_ws := ab_w (List.mem_append_right _ (List.mem_of_getElem? (i := 288) (by decide +kernel))) rfl
set_option maxRecDepth 20000 in
theorem kw_t289 : Cond.instanceMethod yX7_bunkIs ∈ ab_ws := ab_w (List.mem_append_right _ (List.mem_of_getElem? (i := 289) (by decide +kernel))) rfl
set_option maxRecDepth 20000 in
theorem kw_t290 : Cond.selects "DailyRelief" yX7_bunkIs yX7_bunkIs ∈ ab_ws := ab_w (List.mem_append_right _ (List.mem_of_getElem? (i := 290) (by decide +kernel))) rfl
set_option maxRecDepth 20000 in
theorem kw_t295 : Cond.code yX7_isBunk cX7_isBunk 2 (some .boolean) ∈ ab_ws := ab_w (List.mem_append_right _ (List.mem_of_getElem? (i := 295) (by decide +kernel))) rfl
set_option maxRecDepth 20000 in
theorem kw_t292 : Cond.methodLink RX7 62 yX7_isBunk ∈ ab_ws := ab_w (List.mem_append_right _ (List.mem_of_getElem? (i := 292) (by decide +kernel))) rfl
set_option maxRecDepth 20000 in
theorem kw_t294 : Cond.instanceMethod yX7_isBunk ∈ ab_ws := ab_w (List.mem_append_right _ (List.mem_of_getElem? (i := 294) (by decide +kernel))) rfl
set_option maxRecDepth 20000 in
theorem kw_p1 : Cond.selects "DailyRelief" yX7_isBunk yX7_isBunk ∈ ab_ws := ab_w (List.mem_append_left _ (List.mem_of_getElem? (i := 1) (by decide +kernel))) rfl
set_option maxRecDepth 20000 in
theorem kw_t299 : Cond.code yX2_ofMan cX2_ofMan 4 (some .int) ∈ ab_ws := ab_w (List.mem_append_right _ (List.mem_of_getElem? (i := 299) (by decide +kernel))) rfl
set_option maxRecDepth 20000 in
theorem kw_t296 : Cond.methodLink RX7 66 yX2_ofMan ∈ ab_ws := ab_w (List.mem_append_right _ (List.mem_of_getElem? (i := 296) (by decide +kernel))) rfl
set_option maxRecDepth 20000 in
theorem kw_t297 : Cond.instanceMethod yX2_ofMan ∈ ab_ws := ab_w (List.mem_append_right _ (List.mem_of_getElem? (i := 297) (by decide +kernel))) rfl
set_option maxRecDepth 20000 in
theorem kw_t298 : Cond.selects "DailyRelief$Ship" yX2_ofMan yX2_ofMan ∈ ab_ws := ab_w (List.mem_append_right _ (List.mem_of_getElem? (i := 298) (by decide +kernel))) rfl
set_option maxRecDepth 20000 in
theorem kw_t303 : Cond.code yX2_pay cX2_pay 5 (some .int) ∈ ab_ws := ab_w (List.mem_append_right _ (List.mem_of_getElem? (i := 303) (by decide +kernel))) rfl
set_option maxRecDepth 20000 in
theorem kw_t300 : Cond.methodLink RX2 179 yX2_pay ∈ ab_ws := ab_w (List.mem_append_right _ (List.mem_of_getElem? (i := 300) (by decide +kernel))) rfl
set_option maxRecDepth 20000 in
theorem kw_t302 : Cond.instanceMethod yX2_pay ∈ ab_ws := ab_w (List.mem_append_right _ (List.mem_of_getElem? (i := 302) (by decide +kernel))) rfl
set_option maxRecDepth 20000 in
theorem kw_p2 : Cond.selects "DailyRelief$Ship" yX2_pay yX2_pay ∈ ab_ws := ab_w (List.mem_append_left _ (List.mem_of_getElem? (i := 2) (by decide +kernel))) rfl
set_option maxRecDepth 20000 in
theorem kw_t306 : Cond.code yJ6_bitCount_0f7a4 cJ6_bitCount_0f7a4 1 (some .int) ∈ ab_ws := ab_w (List.mem_append_right _ (List.mem_of_getElem? (i := 306) (by decide +kernel))) rfl
set_option maxRecDepth 20000 in
theorem kw_t304 : Cond.methodLink RX2 164 yJ6_bitCount_0f7a4 ∈ ab_ws := ab_w (List.mem_append_right _ (List.mem_of_getElem? (i := 304) (by decide +kernel))) rfl
set_option maxRecDepth 20000 in
theorem kw_t305 : Cond.static yJ6_bitCount_0f7a4 ∈ ab_ws := ab_w (List.mem_append_right _ (List.mem_of_getElem? (i := 305) (by decide +kernel))) rfl
set_option maxRecDepth 20000 in
theorem kw_t9 : Cond.initialized "java/lang/Integer" ∈ ab_ws := ab_w (List.mem_append_right _ (List.mem_of_getElem? (i := 9) (by decide +kernel))) rfl
set_option maxRecDepth 20000 in
theorem kw_t313 : Cond.code yX4_value cX4_value 7 (some .int) ∈ ab_ws := ab_w (List.mem_append_right _ (List.mem_of_getElem? (i := 313) (by decide +kernel))) rfl
set_option maxRecDepth 20000 in
theorem kw_t310 : Cond.methodLink RX2 169 yX4_value ∈ ab_ws := ab_w (List.mem_append_right _ (List.mem_of_getElem? (i := 310) (by decide +kernel))) rfl
set_option maxRecDepth 20000 in
theorem kw_t311 : Cond.instanceMethod yX4_value ∈ ab_ws := ab_w (List.mem_append_right _ (List.mem_of_getElem? (i := 311) (by decide +kernel))) rfl
set_option maxRecDepth 20000 in
theorem kw_t312 : Cond.selects "DailyRelief$Text" yX4_value yX4_value ∈ ab_ws := ab_w (List.mem_append_right _ (List.mem_of_getElem? (i := 312) (by decide +kernel))) rfl
set_option maxRecDepth 20000 in
theorem kw_t10 : Cond.initialized "DailyRelief$Text" ∈ ab_ws := ab_w (List.mem_append_right _ (List.mem_of_getElem? (i := 10) (by decide +kernel))) rfl
set_option maxRecDepth 20000 in
theorem kw_t316 : Cond.code yX4_joined cX4_joined 3 (some .int) ∈ ab_ws := ab_w (List.mem_append_right _ (List.mem_of_getElem? (i := 316) (by decide +kernel))) rfl
set_option maxRecDepth 20000 in
theorem kw_t314 : Cond.methodLink RX4 22 yX4_joined ∈ ab_ws := ab_w (List.mem_append_right _ (List.mem_of_getElem? (i := 314) (by decide +kernel))) rfl
set_option maxRecDepth 20000 in
theorem kw_t315 : Cond.static yX4_joined ∈ ab_ws := ab_w (List.mem_append_right _ (List.mem_of_getElem? (i := 315) (by decide +kernel))) rfl
set_option maxRecDepth 20000 in
theorem kw_t326 : Cond.code yX2_ofKnack cX2_ofKnack 4 (some .int) ∈ ab_ws := ab_w (List.mem_append_right _ (List.mem_of_getElem? (i := 326) (by decide +kernel))) rfl
set_option maxRecDepth 20000 in
theorem kw_t323 : Cond.methodLink RX2 189 yX2_ofKnack ∈ ab_ws := ab_w (List.mem_append_right _ (List.mem_of_getElem? (i := 323) (by decide +kernel))) rfl
set_option maxRecDepth 20000 in
theorem kw_t325 : Cond.instanceMethod yX2_ofKnack ∈ ab_ws := ab_w (List.mem_append_right _ (List.mem_of_getElem? (i := 325) (by decide +kernel))) rfl
set_option maxRecDepth 20000 in
theorem kw_p3 : Cond.selects "DailyRelief$Ship" yX2_ofKnack yX2_ofKnack ∈ ab_ws := ab_w (List.mem_append_left _ (List.mem_of_getElem? (i := 3) (by decide +kernel))) rfl
set_option maxRecDepth 20000 in
theorem kw_t330 : Cond.code yX2_needs cX2_needs 6 (some .int) ∈ ab_ws := ab_w (List.mem_append_right _ (List.mem_of_getElem? (i := 330) (by decide +kernel))) rfl
set_option maxRecDepth 20000 in
theorem kw_t327 : Cond.methodLink RX2 130 yX2_needs ∈ ab_ws := ab_w (List.mem_append_right _ (List.mem_of_getElem? (i := 327) (by decide +kernel))) rfl
set_option maxRecDepth 20000 in
theorem kw_t329 : Cond.instanceMethod yX2_needs ∈ ab_ws := ab_w (List.mem_append_right _ (List.mem_of_getElem? (i := 329) (by decide +kernel))) rfl
set_option maxRecDepth 20000 in
theorem kw_p4 : Cond.selects "DailyRelief$Ship" yX2_needs yX2_needs ∈ ab_ws := ab_w (List.mem_append_left _ (List.mem_of_getElem? (i := 4) (by decide +kernel))) rfl
set_option maxRecDepth 20000 in
theorem kw_t334 : Cond.code yX7_as cX7_as 3 (some .int) ∈ ab_ws := ab_w (List.mem_append_right _ (List.mem_of_getElem? (i := 334) (by decide +kernel))) rfl
set_option maxRecDepth 20000 in
theorem kw_t331 : Cond.methodLink RL 23 yX7_as ∈ ab_ws := ab_w (List.mem_append_right _ (List.mem_of_getElem? (i := 331) (by decide +kernel))) rfl
set_option maxRecDepth 20000 in
theorem kw_t332 : Cond.instanceMethod yX7_as ∈ ab_ws := ab_w (List.mem_append_right _ (List.mem_of_getElem? (i := 332) (by decide +kernel))) rfl
set_option maxRecDepth 20000 in
theorem kw_t333 : Cond.selects "DailyRelief" yX7_as yX7_as ∈ ab_ws := ab_w (List.mem_append_right _ (List.mem_of_getElem? (i := 333) (by decide +kernel))) rfl
set_option maxRecDepth 20000 in
theorem kw_t338 : Cond.code yX0_isOf cX0_isOf 4 (some .boolean) ∈ ab_ws := ab_w (List.mem_append_right _ (List.mem_of_getElem? (i := 338) (by decide +kernel))) rfl
set_option maxRecDepth 20000 in
theorem kw_t335 : Cond.methodLink RX7 74 yX0_isOf ∈ ab_ws := ab_w (List.mem_append_right _ (List.mem_of_getElem? (i := 335) (by decide +kernel))) rfl
set_option maxRecDepth 20000 in
theorem kw_t336 : Cond.instanceMethod yX0_isOf ∈ ab_ws := ab_w (List.mem_append_right _ (List.mem_of_getElem? (i := 336) (by decide +kernel))) rfl
set_option maxRecDepth 20000 in
theorem kw_t337 : Cond.selects "DailyRelief$Bunk" yX0_isOf yX0_isOf ∈ ab_ws := ab_w (List.mem_append_right _ (List.mem_of_getElem? (i := 337) (by decide +kernel))) rfl
set_option maxRecDepth 20000 in
theorem kw_t344 : Cond.code yX7_set cX7_set 6 (some .int) ∈ ab_ws := ab_w (List.mem_append_right _ (List.mem_of_getElem? (i := 344) (by decide +kernel))) rfl
set_option maxRecDepth 20000 in
theorem kw_t341 : Cond.methodLink RL 27 yX7_set ∈ ab_ws := ab_w (List.mem_append_right _ (List.mem_of_getElem? (i := 341) (by decide +kernel))) rfl
set_option maxRecDepth 20000 in
theorem kw_t342 : Cond.instanceMethod yX7_set ∈ ab_ws := ab_w (List.mem_append_right _ (List.mem_of_getElem? (i := 342) (by decide +kernel))) rfl
set_option maxRecDepth 20000 in
theorem kw_t343 : Cond.selects "DailyRelief" yX7_set yX7_set ∈ ab_ws := ab_w (List.mem_append_right _ (List.mem_of_getElem? (i := 343) (by decide +kernel))) rfl
set_option maxRecDepth 20000 in
theorem kw_t347 : Cond.code yX7_maySet cX7_maySet 2 (some .boolean) ∈ ab_ws := ab_w (List.mem_append_right _ (List.mem_of_getElem? (i := 347) (by decide +kernel))) rfl
set_option maxRecDepth 20000 in
theorem kw_t345 : Cond.methodLink RX7 82 yX7_maySet ∈ ab_ws := ab_w (List.mem_append_right _ (List.mem_of_getElem? (i := 345) (by decide +kernel))) rfl
set_option maxRecDepth 20000 in
theorem kw_t346 : Cond.static yX7_maySet ∈ ab_ws := ab_w (List.mem_append_right _ (List.mem_of_getElem? (i := 346) (by decide +kernel))) rfl
set_option maxRecDepth 20000 in
theorem kw_t351 : Cond.code yX7_know cX7_know 6 (some .int) ∈ ab_ws := ab_w (List.mem_append_right _ (List.mem_of_getElem? (i := 351) (by decide +kernel))) rfl
set_option maxRecDepth 20000 in
theorem kw_t348 : Cond.methodLink RL 32 yX7_know ∈ ab_ws := ab_w (List.mem_append_right _ (List.mem_of_getElem? (i := 348) (by decide +kernel))) rfl
set_option maxRecDepth 20000 in
theorem kw_t349 : Cond.instanceMethod yX7_know ∈ ab_ws := ab_w (List.mem_append_right _ (List.mem_of_getElem? (i := 349) (by decide +kernel))) rfl
set_option maxRecDepth 20000 in
theorem kw_t350 : Cond.selects "DailyRelief" yX7_know yX7_know ∈ ab_ws := ab_w (List.mem_append_right _ (List.mem_of_getElem? (i := 350) (by decide +kernel))) rfl
set_option maxRecDepth 20000 in
theorem kw_t354 : Cond.code yX7_isKnack cX7_isKnack 1 (some .boolean) ∈ ab_ws := ab_w (List.mem_append_right _ (List.mem_of_getElem? (i := 354) (by decide +kernel))) rfl
set_option maxRecDepth 20000 in
theorem kw_t352 : Cond.methodLink RX7 95 yX7_isKnack ∈ ab_ws := ab_w (List.mem_append_right _ (List.mem_of_getElem? (i := 352) (by decide +kernel))) rfl
set_option maxRecDepth 20000 in
theorem kw_t353 : Cond.static yX7_isKnack ∈ ab_ws := ab_w (List.mem_append_right _ (List.mem_of_getElem? (i := 353) (by decide +kernel))) rfl
set_option maxRecDepth 20000 in
theorem kw_t358 : Cond.code yX0_knows cX0_knows 2 (some .boolean) ∈ ab_ws := ab_w (List.mem_append_right _ (List.mem_of_getElem? (i := 358) (by decide +kernel))) rfl
set_option maxRecDepth 20000 in
theorem kw_t355 : Cond.methodLink RX7 98 yX0_knows ∈ ab_ws := ab_w (List.mem_append_right _ (List.mem_of_getElem? (i := 355) (by decide +kernel))) rfl
set_option maxRecDepth 20000 in
theorem kw_t356 : Cond.instanceMethod yX0_knows ∈ ab_ws := ab_w (List.mem_append_right _ (List.mem_of_getElem? (i := 356) (by decide +kernel))) rfl
set_option maxRecDepth 20000 in
theorem kw_t357 : Cond.selects "DailyRelief$Bunk" yX0_knows yX0_knows ∈ ab_ws := ab_w (List.mem_append_right _ (List.mem_of_getElem? (i := 357) (by decide +kernel))) rfl
set_option maxRecDepth 20000 in
theorem kw_t360 : Cond.methodLink RX7 104 yX0_forget ∈ ab_ws := ab_w (List.mem_append_right _ (List.mem_of_getElem? (i := 360) (by decide +kernel))) rfl
set_option maxRecDepth 20000 in
theorem kw_t364 : Cond.code yX0_learn cX0_learn 3 none ∈ ab_ws := ab_w (List.mem_append_right _ (List.mem_of_getElem? (i := 364) (by decide +kernel))) rfl
set_option maxRecDepth 20000 in
theorem kw_t361 : Cond.methodLink RX7 108 yX0_learn ∈ ab_ws := ab_w (List.mem_append_right _ (List.mem_of_getElem? (i := 361) (by decide +kernel))) rfl
set_option maxRecDepth 20000 in
theorem kw_t362 : Cond.instanceMethod yX0_learn ∈ ab_ws := ab_w (List.mem_append_right _ (List.mem_of_getElem? (i := 362) (by decide +kernel))) rfl
set_option maxRecDepth 20000 in
theorem kw_t363 : Cond.selects "DailyRelief$Bunk" yX0_learn yX0_learn ∈ ab_ws := ab_w (List.mem_append_right _ (List.mem_of_getElem? (i := 363) (by decide +kernel))) rfl
set_option maxRecDepth 20000 in
theorem kw_t368 : Cond.code yX7_roster cX7_roster 3 (some .int) ∈ ab_ws := ab_w (List.mem_append_right _ (List.mem_of_getElem? (i := 368) (by decide +kernel))) rfl
set_option maxRecDepth 20000 in
theorem kw_t365 : Cond.methodLink RL 36 yX7_roster ∈ ab_ws := ab_w (List.mem_append_right _ (List.mem_of_getElem? (i := 365) (by decide +kernel))) rfl
set_option maxRecDepth 20000 in
theorem kw_t366 : Cond.instanceMethod yX7_roster ∈ ab_ws := ab_w (List.mem_append_right _ (List.mem_of_getElem? (i := 366) (by decide +kernel))) rfl
set_option maxRecDepth 20000 in
theorem kw_t367 : Cond.selects "DailyRelief" yX7_roster yX7_roster ∈ ab_ws := ab_w (List.mem_append_right _ (List.mem_of_getElem? (i := 367) (by decide +kernel))) rfl
set_option maxRecDepth 20000 in
theorem kw_t371 : Cond.code yX7_mayEnlist cX7_mayEnlist 2 (some .boolean) ∈ ab_ws := ab_w (List.mem_append_right _ (List.mem_of_getElem? (i := 371) (by decide +kernel))) rfl
set_option maxRecDepth 20000 in
theorem kw_t369 : Cond.methodLink RX7 112 yX7_mayEnlist ∈ ab_ws := ab_w (List.mem_append_right _ (List.mem_of_getElem? (i := 369) (by decide +kernel))) rfl
set_option maxRecDepth 20000 in
theorem kw_t370 : Cond.static yX7_mayEnlist ∈ ab_ws := ab_w (List.mem_append_right _ (List.mem_of_getElem? (i := 370) (by decide +kernel))) rfl
set_option maxRecDepth 20000 in
theorem kw_t375 : Cond.code yX2_enlist cX2_enlist 3 (some .int) ∈ ab_ws := ab_w (List.mem_append_right _ (List.mem_of_getElem? (i := 375) (by decide +kernel))) rfl
set_option maxRecDepth 20000 in
theorem kw_t372 : Cond.methodLink RX7 118 yX2_enlist ∈ ab_ws := ab_w (List.mem_append_right _ (List.mem_of_getElem? (i := 372) (by decide +kernel))) rfl
set_option maxRecDepth 20000 in
theorem kw_t373 : Cond.instanceMethod yX2_enlist ∈ ab_ws := ab_w (List.mem_append_right _ (List.mem_of_getElem? (i := 373) (by decide +kernel))) rfl
set_option maxRecDepth 20000 in
theorem kw_t374 : Cond.selects "DailyRelief$Ship" yX2_enlist yX2_enlist ∈ ab_ws := ab_w (List.mem_append_right _ (List.mem_of_getElem? (i := 374) (by decide +kernel))) rfl
set_option maxRecDepth 20000 in
theorem kw_t379 : Cond.code yX7_book cX7_book 3 (some .int) ∈ ab_ws := ab_w (List.mem_append_right _ (List.mem_of_getElem? (i := 379) (by decide +kernel))) rfl
set_option maxRecDepth 20000 in
theorem kw_t376 : Cond.methodLink RL 40 yX7_book ∈ ab_ws := ab_w (List.mem_append_right _ (List.mem_of_getElem? (i := 376) (by decide +kernel))) rfl
set_option maxRecDepth 20000 in
theorem kw_t377 : Cond.instanceMethod yX7_book ∈ ab_ws := ab_w (List.mem_append_right _ (List.mem_of_getElem? (i := 377) (by decide +kernel))) rfl
set_option maxRecDepth 20000 in
theorem kw_t378 : Cond.selects "DailyRelief" yX7_book yX7_book ∈ ab_ws := ab_w (List.mem_append_right _ (List.mem_of_getElem? (i := 378) (by decide +kernel))) rfl
set_option maxRecDepth 20000 in
theorem kw_t383 : Cond.code yX7_task cX7_task 6 (some .int) ∈ ab_ws := ab_w (List.mem_append_right _ (List.mem_of_getElem? (i := 383) (by decide +kernel))) rfl
set_option maxRecDepth 20000 in
theorem kw_t380 : Cond.methodLink RL 44 yX7_task ∈ ab_ws := ab_w (List.mem_append_right _ (List.mem_of_getElem? (i := 380) (by decide +kernel))) rfl
set_option maxRecDepth 20000 in
theorem kw_t381 : Cond.instanceMethod yX7_task ∈ ab_ws := ab_w (List.mem_append_right _ (List.mem_of_getElem? (i := 381) (by decide +kernel))) rfl
set_option maxRecDepth 20000 in
theorem kw_t382 : Cond.selects "DailyRelief" yX7_task yX7_task ∈ ab_ws := ab_w (List.mem_append_right _ (List.mem_of_getElem? (i := 382) (by decide +kernel))) rfl
set_option maxRecDepth 20000 in
theorem kw_t387 : Cond.code yX7_taskIs cX7_taskIs 3 (some .int) ∈ ab_ws := ab_w (List.mem_append_right _ (List.mem_of_getElem? (i := 387) (by decide +kernel))) rfl
set_option maxRecDepth 20000 in
theorem kw_t384 : Cond.methodLink RL 48 yX7_taskIs ∈ ab_ws := ab_w (List.mem_append_right _ (List.mem_of_getElem? (i := 384) (by decide +kernel))) rfl
set_option maxRecDepth 20000 in
theorem kw_t385 : Cond.instanceMethod yX7_taskIs ∈ ab_ws := ab_w (List.mem_append_right _ (List.mem_of_getElem? (i := 385) (by decide +kernel))) rfl
set_option maxRecDepth 20000 in
theorem kw_t386 : Cond.selects "DailyRelief" yX7_taskIs yX7_taskIs ∈ ab_ws := ab_w (List.mem_append_right _ (List.mem_of_getElem? (i := 386) (by decide +kernel))) rfl
set_option maxRecDepth 20000 in
theorem kw_t391 : Cond.code yX2_ofTask cX2_ofTask 4 (some .int) ∈ ab_ws := ab_w (List.mem_append_right _ (List.mem_of_getElem? (i := 391) (by decide +kernel))) rfl
set_option maxRecDepth 20000 in
theorem kw_t388 : Cond.methodLink RX7 136 yX2_ofTask ∈ ab_ws := ab_w (List.mem_append_right _ (List.mem_of_getElem? (i := 388) (by decide +kernel))) rfl
set_option maxRecDepth 20000 in
theorem kw_t389 : Cond.instanceMethod yX2_ofTask ∈ ab_ws := ab_w (List.mem_append_right _ (List.mem_of_getElem? (i := 389) (by decide +kernel))) rfl
set_option maxRecDepth 20000 in
theorem kw_t390 : Cond.selects "DailyRelief$Ship" yX2_ofTask yX2_ofTask ∈ ab_ws := ab_w (List.mem_append_right _ (List.mem_of_getElem? (i := 390) (by decide +kernel))) rfl
set_option maxRecDepth 20000 in
theorem kw_t395 : Cond.code yX2_knowers cX2_knowers 4 (some .int) ∈ ab_ws := ab_w (List.mem_append_right _ (List.mem_of_getElem? (i := 395) (by decide +kernel))) rfl
set_option maxRecDepth 20000 in
theorem kw_t392 : Cond.methodLink RX2 148 yX2_knowers ∈ ab_ws := ab_w (List.mem_append_right _ (List.mem_of_getElem? (i := 392) (by decide +kernel))) rfl
set_option maxRecDepth 20000 in
theorem kw_t393 : Cond.instanceMethod yX2_knowers ∈ ab_ws := ab_w (List.mem_append_right _ (List.mem_of_getElem? (i := 393) (by decide +kernel))) rfl
set_option maxRecDepth 20000 in
theorem kw_t394 : Cond.selects "DailyRelief$Ship" yX2_knowers yX2_knowers ∈ ab_ws := ab_w (List.mem_append_right _ (List.mem_of_getElem? (i := 394) (by decide +kernel))) rfl
set_option maxRecDepth 20000 in
theorem kw_t396 : Cond.methodLink RX2 115 yX0_knows ∈ ab_ws := ab_w (List.mem_append_right _ (List.mem_of_getElem? (i := 396) (by decide +kernel))) rfl
set_option maxRecDepth 20000 in
theorem kw_t400 : Cond.code yX7_feed cX7_feed 5 (some .int) ∈ ab_ws := ab_w (List.mem_append_right _ (List.mem_of_getElem? (i := 400) (by decide +kernel))) rfl
set_option maxRecDepth 20000 in
theorem kw_t397 : Cond.methodLink RL 54 yX7_feed ∈ ab_ws := ab_w (List.mem_append_right _ (List.mem_of_getElem? (i := 397) (by decide +kernel))) rfl
set_option maxRecDepth 20000 in
theorem kw_t398 : Cond.instanceMethod yX7_feed ∈ ab_ws := ab_w (List.mem_append_right _ (List.mem_of_getElem? (i := 398) (by decide +kernel))) rfl
set_option maxRecDepth 20000 in
theorem kw_t399 : Cond.selects "DailyRelief" yX7_feed yX7_feed ∈ ab_ws := ab_w (List.mem_append_right _ (List.mem_of_getElem? (i := 399) (by decide +kernel))) rfl
set_option maxRecDepth 20000 in
theorem kw_t404 : Cond.code yX7_text cX7_text 3 (some .int) ∈ ab_ws := ab_w (List.mem_append_right _ (List.mem_of_getElem? (i := 404) (by decide +kernel))) rfl
set_option maxRecDepth 20000 in
theorem kw_t401 : Cond.methodLink RL 59 yX7_text ∈ ab_ws := ab_w (List.mem_append_right _ (List.mem_of_getElem? (i := 401) (by decide +kernel))) rfl
set_option maxRecDepth 20000 in
theorem kw_t402 : Cond.instanceMethod yX7_text ∈ ab_ws := ab_w (List.mem_append_right _ (List.mem_of_getElem? (i := 402) (by decide +kernel))) rfl
set_option maxRecDepth 20000 in
theorem kw_t403 : Cond.selects "DailyRelief" yX7_text yX7_text ∈ ab_ws := ab_w (List.mem_append_right _ (List.mem_of_getElem? (i := 403) (by decide +kernel))) rfl
set_option maxRecDepth 20000 in
theorem kw_t408 : Cond.code yX5_read cX5_read 4 (some (.object "DailyRelief$Text")) ∈ ab_ws := ab_w (List.mem_append_right _ (List.mem_of_getElem? (i := 408) (by decide +kernel))) rfl
set_option maxRecDepth 20000 in
theorem kw_t405 : Cond.methodLink RX7 146 yX5_read ∈ ab_ws := ab_w (List.mem_append_right _ (List.mem_of_getElem? (i := 405) (by decide +kernel))) rfl
set_option maxRecDepth 20000 in
theorem kw_t406 : Cond.instanceMethod yX5_read ∈ ab_ws := ab_w (List.mem_append_right _ (List.mem_of_getElem? (i := 406) (by decide +kernel))) rfl
set_option maxRecDepth 20000 in
theorem kw_t407 : Cond.selects "DailyRelief$TextReader" yX5_read yX5_read ∈ ab_ws := ab_w (List.mem_append_right _ (List.mem_of_getElem? (i := 407) (by decide +kernel))) rfl
set_option maxRecDepth 20000 in
theorem kw_t413 : Cond.code yX5_readT cX5_readT 3 none ∈ ab_ws := ab_w (List.mem_append_right _ (List.mem_of_getElem? (i := 413) (by decide +kernel))) rfl
set_option maxRecDepth 20000 in
theorem kw_t410 : Cond.methodLink RX5 41 yX5_readT ∈ ab_ws := ab_w (List.mem_append_right _ (List.mem_of_getElem? (i := 410) (by decide +kernel))) rfl
set_option maxRecDepth 20000 in
theorem kw_t412 : Cond.instanceMethod yX5_readT ∈ ab_ws := ab_w (List.mem_append_right _ (List.mem_of_getElem? (i := 412) (by decide +kernel))) rfl
set_option maxRecDepth 20000 in
theorem kw_p5 : Cond.selects "DailyRelief$TextReader" yX5_readT yX5_readT ∈ ab_ws := ab_w (List.mem_append_left _ (List.mem_of_getElem? (i := 5) (by decide +kernel))) rfl
set_option maxRecDepth 20000 in
theorem kw_t417 : Cond.code yX5_readA cX5_readA 3 none ∈ ab_ws := ab_w (List.mem_append_right _ (List.mem_of_getElem? (i := 417) (by decide +kernel))) rfl
set_option maxRecDepth 20000 in
theorem kw_t414 : Cond.methodLink RX5 53 yX5_readA ∈ ab_ws := ab_w (List.mem_append_right _ (List.mem_of_getElem? (i := 414) (by decide +kernel))) rfl
set_option maxRecDepth 20000 in
theorem kw_t416 : Cond.instanceMethod yX5_readA ∈ ab_ws := ab_w (List.mem_append_right _ (List.mem_of_getElem? (i := 416) (by decide +kernel))) rfl
set_option maxRecDepth 20000 in
theorem kw_p6 : Cond.selects "DailyRelief$TextReader" yX5_readA yX5_readA ∈ ab_ws := ab_w (List.mem_append_left _ (List.mem_of_getElem? (i := 6) (by decide +kernel))) rfl
set_option maxRecDepth 20000 in
theorem kw_t421 : Cond.code yX5_readB cX5_readB 3 none ∈ ab_ws := ab_w (List.mem_append_right _ (List.mem_of_getElem? (i := 421) (by decide +kernel))) rfl
set_option maxRecDepth 20000 in
theorem kw_t418 : Cond.methodLink RX5 63 yX5_readB ∈ ab_ws := ab_w (List.mem_append_right _ (List.mem_of_getElem? (i := 418) (by decide +kernel))) rfl
set_option maxRecDepth 20000 in
theorem kw_t420 : Cond.instanceMethod yX5_readB ∈ ab_ws := ab_w (List.mem_append_right _ (List.mem_of_getElem? (i := 420) (by decide +kernel))) rfl
set_option maxRecDepth 20000 in
theorem kw_p7 : Cond.selects "DailyRelief$TextReader" yX5_readB yX5_readB ∈ ab_ws := ab_w (List.mem_append_left _ (List.mem_of_getElem? (i := 7) (by decide +kernel))) rfl
set_option maxRecDepth 20000 in
theorem kw_t425 : Cond.code yX5_readS cX5_readS 4 none ∈ ab_ws := ab_w (List.mem_append_right _ (List.mem_of_getElem? (i := 425) (by decide +kernel))) rfl
set_option maxRecDepth 20000 in
theorem kw_t422 : Cond.methodLink RX5 66 yX5_readS ∈ ab_ws := ab_w (List.mem_append_right _ (List.mem_of_getElem? (i := 422) (by decide +kernel))) rfl
set_option maxRecDepth 20000 in
theorem kw_t424 : Cond.instanceMethod yX5_readS ∈ ab_ws := ab_w (List.mem_append_right _ (List.mem_of_getElem? (i := 424) (by decide +kernel))) rfl
set_option maxRecDepth 20000 in
theorem kw_p8 : Cond.selects "DailyRelief$TextReader" yX5_readS yX5_readS ∈ ab_ws := ab_w (List.mem_append_left _ (List.mem_of_getElem? (i := 8) (by decide +kernel))) rfl
set_option maxRecDepth 20000 in
theorem kw_t429 : Cond.code yX5_readP cX5_readP 4 none ∈ ab_ws := ab_w (List.mem_append_right _ (List.mem_of_getElem? (i := 429) (by decide +kernel))) rfl
set_option maxRecDepth 20000 in
theorem kw_t426 : Cond.methodLink RX5 73 yX5_readP ∈ ab_ws := ab_w (List.mem_append_right _ (List.mem_of_getElem? (i := 426) (by decide +kernel))) rfl
set_option maxRecDepth 20000 in
theorem kw_t428 : Cond.instanceMethod yX5_readP ∈ ab_ws := ab_w (List.mem_append_right _ (List.mem_of_getElem? (i := 428) (by decide +kernel))) rfl
set_option maxRecDepth 20000 in
theorem kw_p9 : Cond.selects "DailyRelief$TextReader" yX5_readP yX5_readP ∈ ab_ws := ab_w (List.mem_append_left _ (List.mem_of_getElem? (i := 9) (by decide +kernel))) rfl
set_option maxRecDepth 20000 in
theorem kw_t433 : Cond.code yX5_readQ cX5_readQ 3 none ∈ ab_ws := ab_w (List.mem_append_right _ (List.mem_of_getElem? (i := 433) (by decide +kernel))) rfl
set_option maxRecDepth 20000 in
theorem kw_t430 : Cond.methodLink RX5 76 yX5_readQ ∈ ab_ws := ab_w (List.mem_append_right _ (List.mem_of_getElem? (i := 430) (by decide +kernel))) rfl
set_option maxRecDepth 20000 in
theorem kw_t432 : Cond.instanceMethod yX5_readQ ∈ ab_ws := ab_w (List.mem_append_right _ (List.mem_of_getElem? (i := 432) (by decide +kernel))) rfl
set_option maxRecDepth 20000 in
theorem kw_p10 : Cond.selects "DailyRelief$TextReader" yX5_readQ yX5_readQ ∈ ab_ws := ab_w (List.mem_append_left _ (List.mem_of_getElem? (i := 10) (by decide +kernel))) rfl
set_option maxRecDepth 20000 in
theorem kw_t437 : Cond.code yX5_ahead cX5_ahead 1 (some .int) ∈ ab_ws := ab_w (List.mem_append_right _ (List.mem_of_getElem? (i := 437) (by decide +kernel))) rfl
set_option maxRecDepth 20000 in
theorem kw_t434 : Cond.methodLink RX5 69 yX5_ahead ∈ ab_ws := ab_w (List.mem_append_right _ (List.mem_of_getElem? (i := 434) (by decide +kernel))) rfl
set_option maxRecDepth 20000 in
theorem kw_t436 : Cond.instanceMethod yX5_ahead ∈ ab_ws := ab_w (List.mem_append_right _ (List.mem_of_getElem? (i := 436) (by decide +kernel))) rfl
set_option maxRecDepth 20000 in
theorem kw_p11 : Cond.selects "DailyRelief$TextReader" yX5_ahead yX5_ahead ∈ ab_ws := ab_w (List.mem_append_left _ (List.mem_of_getElem? (i := 11) (by decide +kernel))) rfl
set_option maxRecDepth 20000 in
theorem kw_t440 : Cond.code yX5_isDigit cX5_isDigit 1 (some .boolean) ∈ ab_ws := ab_w (List.mem_append_right _ (List.mem_of_getElem? (i := 440) (by decide +kernel))) rfl
set_option maxRecDepth 20000 in
theorem kw_t438 : Cond.methodLink RX5 79 yX5_isDigit ∈ ab_ws := ab_w (List.mem_append_right _ (List.mem_of_getElem? (i := 438) (by decide +kernel))) rfl
set_option maxRecDepth 20000 in
theorem kw_t439 : Cond.static yX5_isDigit ∈ ab_ws := ab_w (List.mem_append_right _ (List.mem_of_getElem? (i := 439) (by decide +kernel))) rfl
set_option maxRecDepth 20000 in
theorem kw_t444 : Cond.code yX5_readNumber cX5_readNumber 3 none ∈ ab_ws := ab_w (List.mem_append_right _ (List.mem_of_getElem? (i := 444) (by decide +kernel))) rfl
set_option maxRecDepth 20000 in
theorem kw_t441 : Cond.methodLink RX5 82 yX5_readNumber ∈ ab_ws := ab_w (List.mem_append_right _ (List.mem_of_getElem? (i := 441) (by decide +kernel))) rfl
set_option maxRecDepth 20000 in
theorem kw_t443 : Cond.instanceMethod yX5_readNumber ∈ ab_ws := ab_w (List.mem_append_right _ (List.mem_of_getElem? (i := 443) (by decide +kernel))) rfl
set_option maxRecDepth 20000 in
theorem kw_p12 : Cond.selects "DailyRelief$TextReader" yX5_readNumber yX5_readNumber ∈ ab_ws := ab_w (List.mem_append_left _ (List.mem_of_getElem? (i := 12) (by decide +kernel))) rfl
set_option maxRecDepth 20000 in
theorem kw_t448 : Cond.code yX5_step cX5_step 2 none ∈ ab_ws := ab_w (List.mem_append_right _ (List.mem_of_getElem? (i := 448) (by decide +kernel))) rfl
set_option maxRecDepth 20000 in
theorem kw_t445 : Cond.methodLink RX5 60 yX5_step ∈ ab_ws := ab_w (List.mem_append_right _ (List.mem_of_getElem? (i := 445) (by decide +kernel))) rfl
set_option maxRecDepth 20000 in
theorem kw_t447 : Cond.instanceMethod yX5_step ∈ ab_ws := ab_w (List.mem_append_right _ (List.mem_of_getElem? (i := 447) (by decide +kernel))) rfl
set_option maxRecDepth 20000 in
theorem kw_p13 : Cond.selects "DailyRelief$TextReader" yX5_step yX5_step ∈ ab_ws := ab_w (List.mem_append_left _ (List.mem_of_getElem? (i := 13) (by decide +kernel))) rfl
set_option maxRecDepth 20000 in
theorem kw_t452 : Cond.code yX5_takes cX5_takes 2 (some .boolean) ∈ ab_ws := ab_w (List.mem_append_right _ (List.mem_of_getElem? (i := 452) (by decide +kernel))) rfl
set_option maxRecDepth 20000 in
theorem kw_t449 : Cond.methodLink RX5 56 yX5_takes ∈ ab_ws := ab_w (List.mem_append_right _ (List.mem_of_getElem? (i := 449) (by decide +kernel))) rfl
set_option maxRecDepth 20000 in
theorem kw_t451 : Cond.instanceMethod yX5_takes ∈ ab_ws := ab_w (List.mem_append_right _ (List.mem_of_getElem? (i := 451) (by decide +kernel))) rfl
set_option maxRecDepth 20000 in
theorem kw_p14 : Cond.selects "DailyRelief$TextReader" yX5_takes yX5_takes ∈ ab_ws := ab_w (List.mem_append_left _ (List.mem_of_getElem? (i := 14) (by decide +kernel))) rfl
set_option maxRecDepth 20000 in
theorem kw_t456 : Cond.code yX5_fail cX5_fail 1 none ∈ ab_ws := ab_w (List.mem_append_right _ (List.mem_of_getElem? (i := 456) (by decide +kernel))) rfl
set_option maxRecDepth 20000 in
theorem kw_t453 : Cond.methodLink RX5 45 yX5_fail ∈ ab_ws := ab_w (List.mem_append_right _ (List.mem_of_getElem? (i := 453) (by decide +kernel))) rfl
set_option maxRecDepth 20000 in
theorem kw_t455 : Cond.instanceMethod yX5_fail ∈ ab_ws := ab_w (List.mem_append_right _ (List.mem_of_getElem? (i := 455) (by decide +kernel))) rfl
set_option maxRecDepth 20000 in
theorem kw_p15 : Cond.selects "DailyRelief$TextReader" yX5_fail yX5_fail ∈ ab_ws := ab_w (List.mem_append_left _ (List.mem_of_getElem? (i := 15) (by decide +kernel))) rfl
set_option maxRecDepth 20000 in
theorem kw_t461 : Cond.code yX4_init cX4_init 3 none ∈ ab_ws := ab_w (List.mem_append_right _ (List.mem_of_getElem? (i := 461) (by decide +kernel))) rfl
set_option maxRecDepth 20000 in
theorem kw_t459 : Cond.methodLink RX5 50 yX4_init ∈ ab_ws := ab_w (List.mem_append_right _ (List.mem_of_getElem? (i := 459) (by decide +kernel))) rfl
set_option maxRecDepth 20000 in
theorem kw_t460 : Cond.instanceMethod yX4_init ∈ ab_ws := ab_w (List.mem_append_right _ (List.mem_of_getElem? (i := 460) (by decide +kernel))) rfl
set_option maxRecDepth 20000 in
theorem kw_t476 : Cond.code yX7_untell cX7_untell 3 (some .int) ∈ ab_ws := ab_w (List.mem_append_right _ (List.mem_of_getElem? (i := 476) (by decide +kernel))) rfl
set_option maxRecDepth 20000 in
theorem kw_t473 : Cond.methodLink RL 63 yX7_untell ∈ ab_ws := ab_w (List.mem_append_right _ (List.mem_of_getElem? (i := 473) (by decide +kernel))) rfl
set_option maxRecDepth 20000 in
theorem kw_t474 : Cond.instanceMethod yX7_untell ∈ ab_ws := ab_w (List.mem_append_right _ (List.mem_of_getElem? (i := 474) (by decide +kernel))) rfl
set_option maxRecDepth 20000 in
theorem kw_t475 : Cond.selects "DailyRelief" yX7_untell yX7_untell ∈ ab_ws := ab_w (List.mem_append_right _ (List.mem_of_getElem? (i := 475) (by decide +kernel))) rfl
set_option maxRecDepth 20000 in
theorem kw_t480 : Cond.code yX7_days cX7_days 4 (some .int) ∈ ab_ws := ab_w (List.mem_append_right _ (List.mem_of_getElem? (i := 480) (by decide +kernel))) rfl
set_option maxRecDepth 20000 in
theorem kw_t477 : Cond.methodLink RL 67 yX7_days ∈ ab_ws := ab_w (List.mem_append_right _ (List.mem_of_getElem? (i := 477) (by decide +kernel))) rfl
set_option maxRecDepth 20000 in
theorem kw_t478 : Cond.instanceMethod yX7_days ∈ ab_ws := ab_w (List.mem_append_right _ (List.mem_of_getElem? (i := 478) (by decide +kernel))) rfl
set_option maxRecDepth 20000 in
theorem kw_t479 : Cond.selects "DailyRelief" yX7_days yX7_days ∈ ab_ws := ab_w (List.mem_append_right _ (List.mem_of_getElem? (i := 479) (by decide +kernel))) rfl
set_option maxRecDepth 20000 in
theorem kw_t484 : Cond.code yX2_passDay cX2_passDay 2 (some .int) ∈ ab_ws := ab_w (List.mem_append_right _ (List.mem_of_getElem? (i := 484) (by decide +kernel))) rfl
set_option maxRecDepth 20000 in
theorem kw_t481 : Cond.methodLink RX7 160 yX2_passDay ∈ ab_ws := ab_w (List.mem_append_right _ (List.mem_of_getElem? (i := 481) (by decide +kernel))) rfl
set_option maxRecDepth 20000 in
theorem kw_t482 : Cond.instanceMethod yX2_passDay ∈ ab_ws := ab_w (List.mem_append_right _ (List.mem_of_getElem? (i := 482) (by decide +kernel))) rfl
set_option maxRecDepth 20000 in
theorem kw_t483 : Cond.selects "DailyRelief$Ship" yX2_passDay yX2_passDay ∈ ab_ws := ab_w (List.mem_append_right _ (List.mem_of_getElem? (i := 483) (by decide +kernel))) rfl
set_option maxRecDepth 20000 in
theorem kw_t488 : Cond.code yX2_relieve cX2_relieve 2 (some .int) ∈ ab_ws := ab_w (List.mem_append_right _ (List.mem_of_getElem? (i := 488) (by decide +kernel))) rfl
set_option maxRecDepth 20000 in
theorem kw_t485 : Cond.methodLink RX2 93 yX2_relieve ∈ ab_ws := ab_w (List.mem_append_right _ (List.mem_of_getElem? (i := 485) (by decide +kernel))) rfl
set_option maxRecDepth 20000 in
theorem kw_t487 : Cond.instanceMethod yX2_relieve ∈ ab_ws := ab_w (List.mem_append_right _ (List.mem_of_getElem? (i := 487) (by decide +kernel))) rfl
set_option maxRecDepth 20000 in
theorem kw_p16 : Cond.selects "DailyRelief$Ship" yX2_relieve yX2_relieve ∈ ab_ws := ab_w (List.mem_append_left _ (List.mem_of_getElem? (i := 16) (by decide +kernel))) rfl
set_option maxRecDepth 20000 in
theorem kw_t492 : Cond.code yX0_stays cX0_stays 2 (some .boolean) ∈ ab_ws := ab_w (List.mem_append_right _ (List.mem_of_getElem? (i := 492) (by decide +kernel))) rfl
set_option maxRecDepth 20000 in
theorem kw_t489 : Cond.methodLink RX2 104 yX0_stays ∈ ab_ws := ab_w (List.mem_append_right _ (List.mem_of_getElem? (i := 489) (by decide +kernel))) rfl
set_option maxRecDepth 20000 in
theorem kw_t490 : Cond.instanceMethod yX0_stays ∈ ab_ws := ab_w (List.mem_append_right _ (List.mem_of_getElem? (i := 490) (by decide +kernel))) rfl
set_option maxRecDepth 20000 in
theorem kw_t491 : Cond.selects "DailyRelief$Bunk" yX0_stays yX0_stays ∈ ab_ws := ab_w (List.mem_append_right _ (List.mem_of_getElem? (i := 491) (by decide +kernel))) rfl
set_option maxRecDepth 20000 in
theorem kw_t496 : Cond.code yX0_learnAll cX0_learnAll 4 none ∈ ab_ws := ab_w (List.mem_append_right _ (List.mem_of_getElem? (i := 496) (by decide +kernel))) rfl
set_option maxRecDepth 20000 in
theorem kw_t493 : Cond.methodLink RX2 108 yX0_learnAll ∈ ab_ws := ab_w (List.mem_append_right _ (List.mem_of_getElem? (i := 493) (by decide +kernel))) rfl
set_option maxRecDepth 20000 in
theorem kw_t494 : Cond.instanceMethod yX0_learnAll ∈ ab_ws := ab_w (List.mem_append_right _ (List.mem_of_getElem? (i := 494) (by decide +kernel))) rfl
set_option maxRecDepth 20000 in
theorem kw_t495 : Cond.selects "DailyRelief$Bunk" yX0_learnAll yX0_learnAll ∈ ab_ws := ab_w (List.mem_append_right _ (List.mem_of_getElem? (i := 495) (by decide +kernel))) rfl
set_option maxRecDepth 20000 in
theorem kw_t497 : Cond.methodLink RX0 44 yX0_learn ∈ ab_ws := ab_w (List.mem_append_right _ (List.mem_of_getElem? (i := 497) (by decide +kernel))) rfl
set_option maxRecDepth 20000 in
theorem kw_t501 : Cond.code yX2_teachAll cX2_teachAll 4 (some .int) ∈ ab_ws := ab_w (List.mem_append_right _ (List.mem_of_getElem? (i := 501) (by decide +kernel))) rfl
set_option maxRecDepth 20000 in
theorem kw_t498 : Cond.methodLink RX2 97 yX2_teachAll ∈ ab_ws := ab_w (List.mem_append_right _ (List.mem_of_getElem? (i := 498) (by decide +kernel))) rfl
set_option maxRecDepth 20000 in
theorem kw_t500 : Cond.instanceMethod yX2_teachAll ∈ ab_ws := ab_w (List.mem_append_right _ (List.mem_of_getElem? (i := 500) (by decide +kernel))) rfl
set_option maxRecDepth 20000 in
theorem kw_p17 : Cond.selects "DailyRelief$Ship" yX2_teachAll yX2_teachAll ∈ ab_ws := ab_w (List.mem_append_left _ (List.mem_of_getElem? (i := 17) (by decide +kernel))) rfl
set_option maxRecDepth 20000 in
theorem kw_t505 : Cond.code yX2_teach cX2_teach 6 (some .int) ∈ ab_ws := ab_w (List.mem_append_right _ (List.mem_of_getElem? (i := 505) (by decide +kernel))) rfl
set_option maxRecDepth 20000 in
theorem kw_t502 : Cond.methodLink RX2 111 yX2_teach ∈ ab_ws := ab_w (List.mem_append_right _ (List.mem_of_getElem? (i := 502) (by decide +kernel))) rfl
set_option maxRecDepth 20000 in
theorem kw_t504 : Cond.instanceMethod yX2_teach ∈ ab_ws := ab_w (List.mem_append_right _ (List.mem_of_getElem? (i := 504) (by decide +kernel))) rfl
set_option maxRecDepth 20000 in
theorem kw_p18 : Cond.selects "DailyRelief$Ship" yX2_teach yX2_teach ∈ ab_ws := ab_w (List.mem_append_left _ (List.mem_of_getElem? (i := 18) (by decide +kernel))) rfl
set_option maxRecDepth 20000 in
theorem kw_t506 : Cond.methodLink RX2 118 yX0_isOf ∈ ab_ws := ab_w (List.mem_append_right _ (List.mem_of_getElem? (i := 506) (by decide +kernel))) rfl
set_option maxRecDepth 20000 in
theorem kw_t510 : Cond.code yX2_draw cX2_draw 1 (some .int) ∈ ab_ws := ab_w (List.mem_append_right _ (List.mem_of_getElem? (i := 510) (by decide +kernel))) rfl
set_option maxRecDepth 20000 in
theorem kw_t507 : Cond.methodLink RX2 134 yX2_draw ∈ ab_ws := ab_w (List.mem_append_right _ (List.mem_of_getElem? (i := 507) (by decide +kernel))) rfl
set_option maxRecDepth 20000 in
theorem kw_t509 : Cond.instanceMethod yX2_draw ∈ ab_ws := ab_w (List.mem_append_right _ (List.mem_of_getElem? (i := 509) (by decide +kernel))) rfl
set_option maxRecDepth 20000 in
theorem kw_p19 : Cond.selects "DailyRelief$Ship" yX2_draw yX2_draw ∈ ab_ws := ab_w (List.mem_append_left _ (List.mem_of_getElem? (i := 19) (by decide +kernel))) rfl
set_option maxRecDepth 20000 in
theorem kw_t515 : Cond.code yX0_tellsOf cX0_tellsOf 3 (some .int) ∈ ab_ws := ab_w (List.mem_append_right _ (List.mem_of_getElem? (i := 515) (by decide +kernel))) rfl
set_option maxRecDepth 20000 in
theorem kw_t512 : Cond.methodLink RX2 137 yX0_tellsOf ∈ ab_ws := ab_w (List.mem_append_right _ (List.mem_of_getElem? (i := 512) (by decide +kernel))) rfl
set_option maxRecDepth 20000 in
theorem kw_t513 : Cond.instanceMethod yX0_tellsOf ∈ ab_ws := ab_w (List.mem_append_right _ (List.mem_of_getElem? (i := 513) (by decide +kernel))) rfl
set_option maxRecDepth 20000 in
theorem kw_t514 : Cond.selects "DailyRelief$Bunk" yX0_tellsOf yX0_tellsOf ∈ ab_ws := ab_w (List.mem_append_right _ (List.mem_of_getElem? (i := 514) (by decide +kernel))) rfl
set_option maxRecDepth 20000 in
theorem kw_t518 : Cond.methodLink RX2 141 yX0_learn ∈ ab_ws := ab_w (List.mem_append_right _ (List.mem_of_getElem? (i := 518) (by decide +kernel))) rfl
set_option maxRecDepth 20000 in
theorem kw_t522 : Cond.code yX2_endDay cX2_endDay 2 none ∈ ab_ws := ab_w (List.mem_append_right _ (List.mem_of_getElem? (i := 522) (by decide +kernel))) rfl
set_option maxRecDepth 20000 in
theorem kw_t519 : Cond.methodLink RX2 101 yX2_endDay ∈ ab_ws := ab_w (List.mem_append_right _ (List.mem_of_getElem? (i := 519) (by decide +kernel))) rfl
set_option maxRecDepth 20000 in
theorem kw_t521 : Cond.instanceMethod yX2_endDay ∈ ab_ws := ab_w (List.mem_append_right _ (List.mem_of_getElem? (i := 521) (by decide +kernel))) rfl
set_option maxRecDepth 20000 in
theorem kw_p20 : Cond.selects "DailyRelief$Ship" yX2_endDay yX2_endDay ∈ ab_ws := ab_w (List.mem_append_left _ (List.mem_of_getElem? (i := 20) (by decide +kernel))) rfl
set_option maxRecDepth 20000 in
theorem kw_t526 : Cond.code yX3_tryWith cX3_tryWith 2 none ∈ ab_ws := ab_w (List.mem_append_right _ (List.mem_of_getElem? (i := 526) (by decide +kernel))) rfl
set_option maxRecDepth 20000 in
theorem kw_t523 : Cond.methodLink RX2 151 yX3_tryWith ∈ ab_ws := ab_w (List.mem_append_right _ (List.mem_of_getElem? (i := 523) (by decide +kernel))) rfl
set_option maxRecDepth 20000 in
theorem kw_t524 : Cond.instanceMethod yX3_tryWith ∈ ab_ws := ab_w (List.mem_append_right _ (List.mem_of_getElem? (i := 524) (by decide +kernel))) rfl
set_option maxRecDepth 20000 in
theorem kw_t525 : Cond.selects "DailyRelief$Task" yX3_tryWith yX3_tryWith ∈ ab_ws := ab_w (List.mem_append_right _ (List.mem_of_getElem? (i := 525) (by decide +kernel))) rfl
set_option maxRecDepth 20000 in
theorem kw_t532 : Cond.code yX7_draws cX7_draws 4 (some .int) ∈ ab_ws := ab_w (List.mem_append_right _ (List.mem_of_getElem? (i := 532) (by decide +kernel))) rfl
set_option maxRecDepth 20000 in
theorem kw_t529 : Cond.methodLink RL 71 yX7_draws ∈ ab_ws := ab_w (List.mem_append_right _ (List.mem_of_getElem? (i := 529) (by decide +kernel))) rfl
set_option maxRecDepth 20000 in
theorem kw_t530 : Cond.instanceMethod yX7_draws ∈ ab_ws := ab_w (List.mem_append_right _ (List.mem_of_getElem? (i := 530) (by decide +kernel))) rfl
set_option maxRecDepth 20000 in
theorem kw_t531 : Cond.selects "DailyRelief" yX7_draws yX7_draws ∈ ab_ws := ab_w (List.mem_append_right _ (List.mem_of_getElem? (i := 531) (by decide +kernel))) rfl
set_option maxRecDepth 20000 in
theorem kw_t536 : Cond.code yX2_passDayByDraws cX2_passDayByDraws 2 (some .int) ∈ ab_ws := ab_w (List.mem_append_right _ (List.mem_of_getElem? (i := 536) (by decide +kernel))) rfl
set_option maxRecDepth 20000 in
theorem kw_t533 : Cond.methodLink RX7 164 yX2_passDayByDraws ∈ ab_ws := ab_w (List.mem_append_right _ (List.mem_of_getElem? (i := 533) (by decide +kernel))) rfl
set_option maxRecDepth 20000 in
theorem kw_t534 : Cond.instanceMethod yX2_passDayByDraws ∈ ab_ws := ab_w (List.mem_append_right _ (List.mem_of_getElem? (i := 534) (by decide +kernel))) rfl
set_option maxRecDepth 20000 in
theorem kw_t535 : Cond.selects "DailyRelief$Ship" yX2_passDayByDraws yX2_passDayByDraws ∈ ab_ws := ab_w (List.mem_append_right _ (List.mem_of_getElem? (i := 535) (by decide +kernel))) rfl
set_option maxRecDepth 20000 in
theorem kw_t540 : Cond.code yX7_misheard cX7_misheard 3 (some .int) ∈ ab_ws := ab_w (List.mem_append_right _ (List.mem_of_getElem? (i := 540) (by decide +kernel))) rfl
set_option maxRecDepth 20000 in
theorem kw_t537 : Cond.methodLink RL 75 yX7_misheard ∈ ab_ws := ab_w (List.mem_append_right _ (List.mem_of_getElem? (i := 537) (by decide +kernel))) rfl
set_option maxRecDepth 20000 in
theorem kw_t538 : Cond.instanceMethod yX7_misheard ∈ ab_ws := ab_w (List.mem_append_right _ (List.mem_of_getElem? (i := 538) (by decide +kernel))) rfl
set_option maxRecDepth 20000 in
theorem kw_t539 : Cond.selects "DailyRelief" yX7_misheard yX7_misheard ∈ ab_ws := ab_w (List.mem_append_right _ (List.mem_of_getElem? (i := 539) (by decide +kernel))) rfl
set_option maxRecDepth 20000 in
theorem kw_t544 : Cond.code yX7_seed cX7_seed 3 (some .int) ∈ ab_ws := ab_w (List.mem_append_right _ (List.mem_of_getElem? (i := 544) (by decide +kernel))) rfl
set_option maxRecDepth 20000 in
theorem kw_t541 : Cond.methodLink RL 79 yX7_seed ∈ ab_ws := ab_w (List.mem_append_right _ (List.mem_of_getElem? (i := 541) (by decide +kernel))) rfl
set_option maxRecDepth 20000 in
theorem kw_t542 : Cond.instanceMethod yX7_seed ∈ ab_ws := ab_w (List.mem_append_right _ (List.mem_of_getElem? (i := 542) (by decide +kernel))) rfl
set_option maxRecDepth 20000 in
theorem kw_t543 : Cond.selects "DailyRelief" yX7_seed yX7_seed ∈ ab_ws := ab_w (List.mem_append_right _ (List.mem_of_getElem? (i := 543) (by decide +kernel))) rfl
set_option maxRecDepth 20000 in
theorem kw_t548 : Cond.code yX7_then cX7_then 4 (some .int) ∈ ab_ws := ab_w (List.mem_append_right _ (List.mem_of_getElem? (i := 548) (by decide +kernel))) rfl
set_option maxRecDepth 20000 in
theorem kw_t545 : Cond.methodLink RL 83 yX7_then ∈ ab_ws := ab_w (List.mem_append_right _ (List.mem_of_getElem? (i := 545) (by decide +kernel))) rfl
set_option maxRecDepth 20000 in
theorem kw_t546 : Cond.instanceMethod yX7_then ∈ ab_ws := ab_w (List.mem_append_right _ (List.mem_of_getElem? (i := 546) (by decide +kernel))) rfl
set_option maxRecDepth 20000 in
theorem kw_t547 : Cond.selects "DailyRelief" yX7_then yX7_then ∈ ab_ws := ab_w (List.mem_append_right _ (List.mem_of_getElem? (i := 547) (by decide +kernel))) rfl
set_option maxRecDepth 20000 in
theorem kw_t552 : Cond.code yX7_goAhead cX7_goAhead 3 none ∈ ab_ws := ab_w (List.mem_append_right _ (List.mem_of_getElem? (i := 552) (by decide +kernel))) rfl
set_option maxRecDepth 20000 in
theorem kw_t549 : Cond.methodLink RX7 173 yX7_goAhead ∈ ab_ws := ab_w (List.mem_append_right _ (List.mem_of_getElem? (i := 549) (by decide +kernel))) rfl
set_option maxRecDepth 20000 in
theorem kw_t551 : Cond.instanceMethod yX7_goAhead ∈ ab_ws := ab_w (List.mem_append_right _ (List.mem_of_getElem? (i := 551) (by decide +kernel))) rfl
set_option maxRecDepth 20000 in
theorem kw_p21 : Cond.selects "DailyRelief" yX7_goAhead yX7_goAhead ∈ ab_ws := ab_w (List.mem_append_left _ (List.mem_of_getElem? (i := 21) (by decide +kernel))) rfl
set_option maxRecDepth 20000 in
theorem kw_t556 : Cond.code yX2_copyFrom cX2_copyFrom 3 none ∈ ab_ws := ab_w (List.mem_append_right _ (List.mem_of_getElem? (i := 556) (by decide +kernel))) rfl
set_option maxRecDepth 20000 in
theorem kw_t553 : Cond.methodLink RX7 249 yX2_copyFrom ∈ ab_ws := ab_w (List.mem_append_right _ (List.mem_of_getElem? (i := 553) (by decide +kernel))) rfl
set_option maxRecDepth 20000 in
theorem kw_t554 : Cond.instanceMethod yX2_copyFrom ∈ ab_ws := ab_w (List.mem_append_right _ (List.mem_of_getElem? (i := 554) (by decide +kernel))) rfl
set_option maxRecDepth 20000 in
theorem kw_t555 : Cond.selects "DailyRelief$Ship" yX2_copyFrom yX2_copyFrom ∈ ab_ws := ab_w (List.mem_append_right _ (List.mem_of_getElem? (i := 555) (by decide +kernel))) rfl
set_option maxRecDepth 20000 in
theorem kw_t560 : Cond.code yX0_copyFrom cX0_copyFrom 2 none ∈ ab_ws := ab_w (List.mem_append_right _ (List.mem_of_getElem? (i := 560) (by decide +kernel))) rfl
set_option maxRecDepth 20000 in
theorem kw_t557 : Cond.methodLink RX2 73 yX0_copyFrom ∈ ab_ws := ab_w (List.mem_append_right _ (List.mem_of_getElem? (i := 557) (by decide +kernel))) rfl
set_option maxRecDepth 20000 in
theorem kw_t558 : Cond.instanceMethod yX0_copyFrom ∈ ab_ws := ab_w (List.mem_append_right _ (List.mem_of_getElem? (i := 558) (by decide +kernel))) rfl
set_option maxRecDepth 20000 in
theorem kw_t559 : Cond.selects "DailyRelief$Bunk" yX0_copyFrom yX0_copyFrom ∈ ab_ws := ab_w (List.mem_append_right _ (List.mem_of_getElem? (i := 559) (by decide +kernel))) rfl
set_option maxRecDepth 20000 in
theorem kw_t565 : Cond.code yX3_copyFrom cX3_copyFrom 2 none ∈ ab_ws := ab_w (List.mem_append_right _ (List.mem_of_getElem? (i := 565) (by decide +kernel))) rfl
set_option maxRecDepth 20000 in
theorem kw_t562 : Cond.methodLink RX2 77 yX3_copyFrom ∈ ab_ws := ab_w (List.mem_append_right _ (List.mem_of_getElem? (i := 562) (by decide +kernel))) rfl
set_option maxRecDepth 20000 in
theorem kw_t563 : Cond.instanceMethod yX3_copyFrom ∈ ab_ws := ab_w (List.mem_append_right _ (List.mem_of_getElem? (i := 563) (by decide +kernel))) rfl
set_option maxRecDepth 20000 in
theorem kw_t564 : Cond.selects "DailyRelief$Task" yX3_copyFrom yX3_copyFrom ∈ ab_ws := ab_w (List.mem_append_right _ (List.mem_of_getElem? (i := 564) (by decide +kernel))) rfl
set_option maxRecDepth 20000 in
theorem kw_t570 : Cond.code yX7_thenTask cX7_thenTask 4 (some .int) ∈ ab_ws := ab_w (List.mem_append_right _ (List.mem_of_getElem? (i := 570) (by decide +kernel))) rfl
set_option maxRecDepth 20000 in
theorem kw_t567 : Cond.methodLink RL 87 yX7_thenTask ∈ ab_ws := ab_w (List.mem_append_right _ (List.mem_of_getElem? (i := 567) (by decide +kernel))) rfl
set_option maxRecDepth 20000 in
theorem kw_t568 : Cond.instanceMethod yX7_thenTask ∈ ab_ws := ab_w (List.mem_append_right _ (List.mem_of_getElem? (i := 568) (by decide +kernel))) rfl
set_option maxRecDepth 20000 in
theorem kw_t569 : Cond.selects "DailyRelief" yX7_thenTask yX7_thenTask ∈ ab_ws := ab_w (List.mem_append_right _ (List.mem_of_getElem? (i := 569) (by decide +kernel))) rfl
set_option maxRecDepth 20000 in
theorem kw_t574 : Cond.code yX7_lost cX7_lost 4 (some .int) ∈ ab_ws := ab_w (List.mem_append_right _ (List.mem_of_getElem? (i := 574) (by decide +kernel))) rfl
set_option maxRecDepth 20000 in
theorem kw_t571 : Cond.methodLink RL 91 yX7_lost ∈ ab_ws := ab_w (List.mem_append_right _ (List.mem_of_getElem? (i := 571) (by decide +kernel))) rfl
set_option maxRecDepth 20000 in
theorem kw_t572 : Cond.instanceMethod yX7_lost ∈ ab_ws := ab_w (List.mem_append_right _ (List.mem_of_getElem? (i := 572) (by decide +kernel))) rfl
set_option maxRecDepth 20000 in
theorem kw_t573 : Cond.selects "DailyRelief" yX7_lost yX7_lost ∈ ab_ws := ab_w (List.mem_append_right _ (List.mem_of_getElem? (i := 573) (by decide +kernel))) rfl
set_option maxRecDepth 20000 in
theorem kw_t575 : Cond.methodLink RX7 176 yX2_knowers ∈ ab_ws := ab_w (List.mem_append_right _ (List.mem_of_getElem? (i := 575) (by decide +kernel))) rfl
set_option maxRecDepth 20000 in
theorem kw_t579 : Cond.code yX7_teachers cX7_teachers 7 (some .int) ∈ ab_ws := ab_w (List.mem_append_right _ (List.mem_of_getElem? (i := 579) (by decide +kernel))) rfl
set_option maxRecDepth 20000 in
theorem kw_t576 : Cond.methodLink RL 95 yX7_teachers ∈ ab_ws := ab_w (List.mem_append_right _ (List.mem_of_getElem? (i := 576) (by decide +kernel))) rfl
set_option maxRecDepth 20000 in
theorem kw_t577 : Cond.instanceMethod yX7_teachers ∈ ab_ws := ab_w (List.mem_append_right _ (List.mem_of_getElem? (i := 577) (by decide +kernel))) rfl
set_option maxRecDepth 20000 in
theorem kw_t578 : Cond.selects "DailyRelief" yX7_teachers yX7_teachers ∈ ab_ws := ab_w (List.mem_append_right _ (List.mem_of_getElem? (i := 578) (by decide +kernel))) rfl
set_option maxRecDepth 20000 in
theorem kw_t580 : Cond.methodLink RX7 179 yJ6_bitCount_0f7a4 ∈ ab_ws := ab_w (List.mem_append_right _ (List.mem_of_getElem? (i := 580) (by decide +kernel))) rfl
set_option maxRecDepth 20000 in
theorem kw_t584 : Cond.code yX7_staysKnown cX7_staysKnown 5 (some .boolean) ∈ ab_ws := ab_w (List.mem_append_right _ (List.mem_of_getElem? (i := 584) (by decide +kernel))) rfl
set_option maxRecDepth 20000 in
theorem kw_t581 : Cond.methodLink RX7 184 yX7_staysKnown ∈ ab_ws := ab_w (List.mem_append_right _ (List.mem_of_getElem? (i := 581) (by decide +kernel))) rfl
set_option maxRecDepth 20000 in
theorem kw_t583 : Cond.instanceMethod yX7_staysKnown ∈ ab_ws := ab_w (List.mem_append_right _ (List.mem_of_getElem? (i := 583) (by decide +kernel))) rfl
set_option maxRecDepth 20000 in
theorem kw_p22 : Cond.selects "DailyRelief" yX7_staysKnown yX7_staysKnown ∈ ab_ws := ab_w (List.mem_append_left _ (List.mem_of_getElem? (i := 22) (by decide +kernel))) rfl
set_option maxRecDepth 20000 in
theorem kw_t588 : Cond.code yX2_teachOnly cX2_teachOnly 4 none ∈ ab_ws := ab_w (List.mem_append_right _ (List.mem_of_getElem? (i := 588) (by decide +kernel))) rfl
set_option maxRecDepth 20000 in
theorem kw_t585 : Cond.methodLink RX7 269 yX2_teachOnly ∈ ab_ws := ab_w (List.mem_append_right _ (List.mem_of_getElem? (i := 585) (by decide +kernel))) rfl
set_option maxRecDepth 20000 in
theorem kw_t586 : Cond.instanceMethod yX2_teachOnly ∈ ab_ws := ab_w (List.mem_append_right _ (List.mem_of_getElem? (i := 586) (by decide +kernel))) rfl
set_option maxRecDepth 20000 in
theorem kw_t587 : Cond.selects "DailyRelief$Ship" yX2_teachOnly yX2_teachOnly ∈ ab_ws := ab_w (List.mem_append_right _ (List.mem_of_getElem? (i := 587) (by decide +kernel))) rfl
set_option maxRecDepth 20000 in
theorem kw_t592 : Cond.code yX7_storm cX7_storm 6 (some .int) ∈ ab_ws := ab_w (List.mem_append_right _ (List.mem_of_getElem? (i := 592) (by decide +kernel))) rfl
set_option maxRecDepth 20000 in
theorem kw_t589 : Cond.methodLink RL 99 yX7_storm ∈ ab_ws := ab_w (List.mem_append_right _ (List.mem_of_getElem? (i := 589) (by decide +kernel))) rfl
set_option maxRecDepth 20000 in
theorem kw_t590 : Cond.instanceMethod yX7_storm ∈ ab_ws := ab_w (List.mem_append_right _ (List.mem_of_getElem? (i := 590) (by decide +kernel))) rfl
set_option maxRecDepth 20000 in
theorem kw_t591 : Cond.selects "DailyRelief" yX7_storm yX7_storm ∈ ab_ws := ab_w (List.mem_append_right _ (List.mem_of_getElem? (i := 591) (by decide +kernel))) rfl
set_option maxRecDepth 20000 in
theorem kw_t596 : Cond.code yX2_canSpare cX2_canSpare 6 (some .boolean) ∈ ab_ws := ab_w (List.mem_append_right _ (List.mem_of_getElem? (i := 596) (by decide +kernel))) rfl
set_option maxRecDepth 20000 in
theorem kw_t593 : Cond.methodLink RX7 187 yX2_canSpare ∈ ab_ws := ab_w (List.mem_append_right _ (List.mem_of_getElem? (i := 593) (by decide +kernel))) rfl
set_option maxRecDepth 20000 in
theorem kw_t594 : Cond.instanceMethod yX2_canSpare ∈ ab_ws := ab_w (List.mem_append_right _ (List.mem_of_getElem? (i := 594) (by decide +kernel))) rfl
set_option maxRecDepth 20000 in
theorem kw_t595 : Cond.selects "DailyRelief$Ship" yX2_canSpare yX2_canSpare ∈ ab_ws := ab_w (List.mem_append_right _ (List.mem_of_getElem? (i := 595) (by decide +kernel))) rfl
set_option maxRecDepth 20000 in
theorem kw_t600 : Cond.code yX7_saves cX7_saves 4 (some .int) ∈ ab_ws := ab_w (List.mem_append_right _ (List.mem_of_getElem? (i := 600) (by decide +kernel))) rfl
set_option maxRecDepth 20000 in
theorem kw_t597 : Cond.methodLink RL 103 yX7_saves ∈ ab_ws := ab_w (List.mem_append_right _ (List.mem_of_getElem? (i := 597) (by decide +kernel))) rfl
set_option maxRecDepth 20000 in
theorem kw_t598 : Cond.instanceMethod yX7_saves ∈ ab_ws := ab_w (List.mem_append_right _ (List.mem_of_getElem? (i := 598) (by decide +kernel))) rfl
set_option maxRecDepth 20000 in
theorem kw_t599 : Cond.selects "DailyRelief" yX7_saves yX7_saves ∈ ab_ws := ab_w (List.mem_append_right _ (List.mem_of_getElem? (i := 599) (by decide +kernel))) rfl
set_option maxRecDepth 20000 in
theorem kw_t604 : Cond.code yX7_doneWithBook cX7_doneWithBook 4 (some .int) ∈ ab_ws := ab_w (List.mem_append_right _ (List.mem_of_getElem? (i := 604) (by decide +kernel))) rfl
set_option maxRecDepth 20000 in
theorem kw_t601 : Cond.methodLink RX7 190 yX7_doneWithBook ∈ ab_ws := ab_w (List.mem_append_right _ (List.mem_of_getElem? (i := 601) (by decide +kernel))) rfl
set_option maxRecDepth 20000 in
theorem kw_t603 : Cond.instanceMethod yX7_doneWithBook ∈ ab_ws := ab_w (List.mem_append_right _ (List.mem_of_getElem? (i := 603) (by decide +kernel))) rfl
set_option maxRecDepth 20000 in
theorem kw_p23 : Cond.selects "DailyRelief" yX7_doneWithBook yX7_doneWithBook ∈ ab_ws := ab_w (List.mem_append_left _ (List.mem_of_getElem? (i := 23) (by decide +kernel))) rfl
set_option maxRecDepth 20000 in
theorem kw_t608 : Cond.code yX2_doneOfAll cX2_doneOfAll 3 (some .int) ∈ ab_ws := ab_w (List.mem_append_right _ (List.mem_of_getElem? (i := 608) (by decide +kernel))) rfl
set_option maxRecDepth 20000 in
theorem kw_t605 : Cond.methodLink RX7 272 yX2_doneOfAll ∈ ab_ws := ab_w (List.mem_append_right _ (List.mem_of_getElem? (i := 605) (by decide +kernel))) rfl
set_option maxRecDepth 20000 in
theorem kw_t606 : Cond.instanceMethod yX2_doneOfAll ∈ ab_ws := ab_w (List.mem_append_right _ (List.mem_of_getElem? (i := 606) (by decide +kernel))) rfl
set_option maxRecDepth 20000 in
theorem kw_t607 : Cond.selects "DailyRelief$Ship" yX2_doneOfAll yX2_doneOfAll ∈ ab_ws := ab_w (List.mem_append_right _ (List.mem_of_getElem? (i := 607) (by decide +kernel))) rfl
set_option maxRecDepth 20000 in
theorem kw_t612 : Cond.code yX7_changes cX7_changes 7 (some .int) ∈ ab_ws := ab_w (List.mem_append_right _ (List.mem_of_getElem? (i := 612) (by decide +kernel))) rfl
set_option maxRecDepth 20000 in
theorem kw_t609 : Cond.methodLink RL 107 yX7_changes ∈ ab_ws := ab_w (List.mem_append_right _ (List.mem_of_getElem? (i := 609) (by decide +kernel))) rfl
set_option maxRecDepth 20000 in
theorem kw_t610 : Cond.instanceMethod yX7_changes ∈ ab_ws := ab_w (List.mem_append_right _ (List.mem_of_getElem? (i := 610) (by decide +kernel))) rfl
set_option maxRecDepth 20000 in
theorem kw_t611 : Cond.selects "DailyRelief" yX7_changes yX7_changes ∈ ab_ws := ab_w (List.mem_append_right _ (List.mem_of_getElem? (i := 611) (by decide +kernel))) rfl
set_option maxRecDepth 20000 in
theorem kw_t616 : Cond.code yX7_began cX7_began 7 (some .int) ∈ ab_ws := ab_w (List.mem_append_right _ (List.mem_of_getElem? (i := 616) (by decide +kernel))) rfl
set_option maxRecDepth 20000 in
theorem kw_t613 : Cond.methodLink RL 111 yX7_began ∈ ab_ws := ab_w (List.mem_append_right _ (List.mem_of_getElem? (i := 613) (by decide +kernel))) rfl
set_option maxRecDepth 20000 in
theorem kw_t614 : Cond.instanceMethod yX7_began ∈ ab_ws := ab_w (List.mem_append_right _ (List.mem_of_getElem? (i := 614) (by decide +kernel))) rfl
set_option maxRecDepth 20000 in
theorem kw_t615 : Cond.selects "DailyRelief" yX7_began yX7_began ∈ ab_ws := ab_w (List.mem_append_right _ (List.mem_of_getElem? (i := 615) (by decide +kernel))) rfl
set_option maxRecDepth 20000 in
theorem kw_t621 : Cond.code yX7_handed cX7_handed 4 (some .int) ∈ ab_ws := ab_w (List.mem_append_right _ (List.mem_of_getElem? (i := 621) (by decide +kernel))) rfl
set_option maxRecDepth 20000 in
theorem kw_t618 : Cond.methodLink RL 115 yX7_handed ∈ ab_ws := ab_w (List.mem_append_right _ (List.mem_of_getElem? (i := 618) (by decide +kernel))) rfl
set_option maxRecDepth 20000 in
theorem kw_t619 : Cond.instanceMethod yX7_handed ∈ ab_ws := ab_w (List.mem_append_right _ (List.mem_of_getElem? (i := 619) (by decide +kernel))) rfl
set_option maxRecDepth 20000 in
theorem kw_t620 : Cond.selects "DailyRelief" yX7_handed yX7_handed ∈ ab_ws := ab_w (List.mem_append_right _ (List.mem_of_getElem? (i := 620) (by decide +kernel))) rfl
set_option maxRecDepth 20000 in
theorem kw_t625 : Cond.code yX7_wages cX7_wages 4 (some .int) ∈ ab_ws := ab_w (List.mem_append_right _ (List.mem_of_getElem? (i := 625) (by decide +kernel))) rfl
set_option maxRecDepth 20000 in
theorem kw_t622 : Cond.methodLink RL 119 yX7_wages ∈ ab_ws := ab_w (List.mem_append_right _ (List.mem_of_getElem? (i := 622) (by decide +kernel))) rfl
set_option maxRecDepth 20000 in
theorem kw_t623 : Cond.instanceMethod yX7_wages ∈ ab_ws := ab_w (List.mem_append_right _ (List.mem_of_getElem? (i := 623) (by decide +kernel))) rfl
set_option maxRecDepth 20000 in
theorem kw_t624 : Cond.selects "DailyRelief" yX7_wages yX7_wages ∈ ab_ws := ab_w (List.mem_append_right _ (List.mem_of_getElem? (i := 624) (by decide +kernel))) rfl
set_option maxRecDepth 20000 in
theorem kw_t629 : Cond.code yX2_payOfAll cX2_payOfAll 3 (some .int) ∈ ab_ws := ab_w (List.mem_append_right _ (List.mem_of_getElem? (i := 629) (by decide +kernel))) rfl
set_option maxRecDepth 20000 in
theorem kw_t626 : Cond.methodLink RX7 201 yX2_payOfAll ∈ ab_ws := ab_w (List.mem_append_right _ (List.mem_of_getElem? (i := 626) (by decide +kernel))) rfl
set_option maxRecDepth 20000 in
theorem kw_t627 : Cond.instanceMethod yX2_payOfAll ∈ ab_ws := ab_w (List.mem_append_right _ (List.mem_of_getElem? (i := 627) (by decide +kernel))) rfl
set_option maxRecDepth 20000 in
theorem kw_t628 : Cond.selects "DailyRelief$Ship" yX2_payOfAll yX2_payOfAll ∈ ab_ws := ab_w (List.mem_append_right _ (List.mem_of_getElem? (i := 628) (by decide +kernel))) rfl
set_option maxRecDepth 20000 in
theorem kw_t633 : Cond.code yX7_voice cX7_voice 6 (some .int) ∈ ab_ws := ab_w (List.mem_append_right _ (List.mem_of_getElem? (i := 633) (by decide +kernel))) rfl
set_option maxRecDepth 20000 in
theorem kw_t630 : Cond.methodLink RL 123 yX7_voice ∈ ab_ws := ab_w (List.mem_append_right _ (List.mem_of_getElem? (i := 630) (by decide +kernel))) rfl
set_option maxRecDepth 20000 in
theorem kw_t631 : Cond.instanceMethod yX7_voice ∈ ab_ws := ab_w (List.mem_append_right _ (List.mem_of_getElem? (i := 631) (by decide +kernel))) rfl
set_option maxRecDepth 20000 in
theorem kw_t632 : Cond.selects "DailyRelief" yX7_voice yX7_voice ∈ ab_ws := ab_w (List.mem_append_right _ (List.mem_of_getElem? (i := 632) (by decide +kernel))) rfl
set_option maxRecDepth 20000 in
theorem kw_t637 : Cond.code yX6_speak cX6_speak 6 (some .int) ∈ ab_ws := ab_w (List.mem_append_right _ (List.mem_of_getElem? (i := 637) (by decide +kernel))) rfl
set_option maxRecDepth 20000 in
theorem kw_t634 : Cond.methodLink RX7 204 yX6_speak ∈ ab_ws := ab_w (List.mem_append_right _ (List.mem_of_getElem? (i := 634) (by decide +kernel))) rfl
set_option maxRecDepth 20000 in
theorem kw_t635 : Cond.instanceMethod yX6_speak ∈ ab_ws := ab_w (List.mem_append_right _ (List.mem_of_getElem? (i := 635) (by decide +kernel))) rfl
set_option maxRecDepth 20000 in
theorem kw_t636 : Cond.selects "DailyRelief$Voices" yX6_speak yX6_speak ∈ ab_ws := ab_w (List.mem_append_right _ (List.mem_of_getElem? (i := 636) (by decide +kernel))) rfl
set_option maxRecDepth 20000 in
theorem kw_t641 : Cond.code yX6_speakFrom cX6_speakFrom 8 (some .int) ∈ ab_ws := ab_w (List.mem_append_right _ (List.mem_of_getElem? (i := 641) (by decide +kernel))) rfl
set_option maxRecDepth 20000 in
theorem kw_t638 : Cond.methodLink RX6 32 yX6_speakFrom ∈ ab_ws := ab_w (List.mem_append_right _ (List.mem_of_getElem? (i := 638) (by decide +kernel))) rfl
set_option maxRecDepth 20000 in
theorem kw_t640 : Cond.instanceMethod yX6_speakFrom ∈ ab_ws := ab_w (List.mem_append_right _ (List.mem_of_getElem? (i := 640) (by decide +kernel))) rfl
set_option maxRecDepth 20000 in
theorem kw_p24 : Cond.selects "DailyRelief$Voices" yX6_speakFrom yX6_speakFrom ∈ ab_ws := ab_w (List.mem_append_left _ (List.mem_of_getElem? (i := 24) (by decide +kernel))) rfl
set_option maxRecDepth 20000 in
theorem kw_t647 : Cond.code yX6_run cX6_run 4 (some .int) ∈ ab_ws := ab_w (List.mem_append_right _ (List.mem_of_getElem? (i := 647) (by decide +kernel))) rfl
set_option maxRecDepth 20000 in
theorem kw_t644 : Cond.methodLink RX6 42 yX6_run ∈ ab_ws := ab_w (List.mem_append_right _ (List.mem_of_getElem? (i := 644) (by decide +kernel))) rfl
set_option maxRecDepth 20000 in
theorem kw_t646 : Cond.instanceMethod yX6_run ∈ ab_ws := ab_w (List.mem_append_right _ (List.mem_of_getElem? (i := 646) (by decide +kernel))) rfl
set_option maxRecDepth 20000 in
theorem kw_p25 : Cond.selects "DailyRelief$Voices" yX6_run yX6_run ∈ ab_ws := ab_w (List.mem_append_left _ (List.mem_of_getElem? (i := 25) (by decide +kernel))) rfl
set_option maxRecDepth 20000 in
theorem kw_t651 : Cond.code yX6_begin cX6_begin 2 none ∈ ab_ws := ab_w (List.mem_append_right _ (List.mem_of_getElem? (i := 651) (by decide +kernel))) rfl
set_option maxRecDepth 20000 in
theorem kw_t648 : Cond.methodLink RX6 46 yX6_begin ∈ ab_ws := ab_w (List.mem_append_right _ (List.mem_of_getElem? (i := 648) (by decide +kernel))) rfl
set_option maxRecDepth 20000 in
theorem kw_t650 : Cond.instanceMethod yX6_begin ∈ ab_ws := ab_w (List.mem_append_right _ (List.mem_of_getElem? (i := 650) (by decide +kernel))) rfl
set_option maxRecDepth 20000 in
theorem kw_p26 : Cond.selects "DailyRelief$Voices" yX6_begin yX6_begin ∈ ab_ws := ab_w (List.mem_append_left _ (List.mem_of_getElem? (i := 26) (by decide +kernel))) rfl
set_option maxRecDepth 20000 in
theorem kw_t655 : Cond.code yX6_own cX6_own 4 (some .int) ∈ ab_ws := ab_w (List.mem_append_right _ (List.mem_of_getElem? (i := 655) (by decide +kernel))) rfl
set_option maxRecDepth 20000 in
theorem kw_t652 : Cond.methodLink RX6 50 yX6_own ∈ ab_ws := ab_w (List.mem_append_right _ (List.mem_of_getElem? (i := 652) (by decide +kernel))) rfl
set_option maxRecDepth 20000 in
theorem kw_t654 : Cond.instanceMethod yX6_own ∈ ab_ws := ab_w (List.mem_append_right _ (List.mem_of_getElem? (i := 654) (by decide +kernel))) rfl
set_option maxRecDepth 20000 in
theorem kw_p27 : Cond.selects "DailyRelief$Voices" yX6_own yX6_own ∈ ab_ws := ab_w (List.mem_append_left _ (List.mem_of_getElem? (i := 27) (by decide +kernel))) rfl
set_option maxRecDepth 20000 in
theorem kw_t659 : Cond.code yX6_part cX6_part 3 (some .int) ∈ ab_ws := ab_w (List.mem_append_right _ (List.mem_of_getElem? (i := 659) (by decide +kernel))) rfl
set_option maxRecDepth 20000 in
theorem kw_t656 : Cond.methodLink RX6 53 yX6_part ∈ ab_ws := ab_w (List.mem_append_right _ (List.mem_of_getElem? (i := 656) (by decide +kernel))) rfl
set_option maxRecDepth 20000 in
theorem kw_t658 : Cond.instanceMethod yX6_part ∈ ab_ws := ab_w (List.mem_append_right _ (List.mem_of_getElem? (i := 658) (by decide +kernel))) rfl
set_option maxRecDepth 20000 in
theorem kw_p28 : Cond.selects "DailyRelief$Voices" yX6_part yX6_part ∈ ab_ws := ab_w (List.mem_append_left _ (List.mem_of_getElem? (i := 28) (by decide +kernel))) rfl
set_option maxRecDepth 20000 in
theorem kw_t663 : Cond.code yX6_above cX6_above 5 (some .int) ∈ ab_ws := ab_w (List.mem_append_right _ (List.mem_of_getElem? (i := 663) (by decide +kernel))) rfl
set_option maxRecDepth 20000 in
theorem kw_t660 : Cond.methodLink RX6 57 yX6_above ∈ ab_ws := ab_w (List.mem_append_right _ (List.mem_of_getElem? (i := 660) (by decide +kernel))) rfl
set_option maxRecDepth 20000 in
theorem kw_t662 : Cond.instanceMethod yX6_above ∈ ab_ws := ab_w (List.mem_append_right _ (List.mem_of_getElem? (i := 662) (by decide +kernel))) rfl
set_option maxRecDepth 20000 in
theorem kw_p29 : Cond.selects "DailyRelief$Voices" yX6_above yX6_above ∈ ab_ws := ab_w (List.mem_append_left _ (List.mem_of_getElem? (i := 29) (by decide +kernel))) rfl
set_option maxRecDepth 20000 in
theorem kw_t668 : Cond.code yX7_body cX7_body 2 (some .int) ∈ ab_ws := ab_w (List.mem_append_right _ (List.mem_of_getElem? (i := 668) (by decide +kernel))) rfl
set_option maxRecDepth 20000 in
theorem kw_t665 : Cond.methodLink RL 127 yX7_body ∈ ab_ws := ab_w (List.mem_append_right _ (List.mem_of_getElem? (i := 665) (by decide +kernel))) rfl
set_option maxRecDepth 20000 in
theorem kw_t666 : Cond.instanceMethod yX7_body ∈ ab_ws := ab_w (List.mem_append_right _ (List.mem_of_getElem? (i := 666) (by decide +kernel))) rfl
set_option maxRecDepth 20000 in
theorem kw_t667 : Cond.selects "DailyRelief" yX7_body yX7_body ∈ ab_ws := ab_w (List.mem_append_right _ (List.mem_of_getElem? (i := 667) (by decide +kernel))) rfl
set_option maxRecDepth 20000 in
theorem kw_t672 : Cond.code yX7_sheet cX7_sheet 4 (some .int) ∈ ab_ws := ab_w (List.mem_append_right _ (List.mem_of_getElem? (i := 672) (by decide +kernel))) rfl
set_option maxRecDepth 20000 in
theorem kw_t669 : Cond.methodLink RL 131 yX7_sheet ∈ ab_ws := ab_w (List.mem_append_right _ (List.mem_of_getElem? (i := 669) (by decide +kernel))) rfl
set_option maxRecDepth 20000 in
theorem kw_t670 : Cond.instanceMethod yX7_sheet ∈ ab_ws := ab_w (List.mem_append_right _ (List.mem_of_getElem? (i := 670) (by decide +kernel))) rfl
set_option maxRecDepth 20000 in
theorem kw_t671 : Cond.selects "DailyRelief" yX7_sheet yX7_sheet ∈ ab_ws := ab_w (List.mem_append_right _ (List.mem_of_getElem? (i := 671) (by decide +kernel))) rfl
set_option maxRecDepth 20000 in
theorem kw_t675 : Cond.code yX7_isSheet cX7_isSheet 1 (some .boolean) ∈ ab_ws := ab_w (List.mem_append_right _ (List.mem_of_getElem? (i := 675) (by decide +kernel))) rfl
set_option maxRecDepth 20000 in
theorem kw_t673 : Cond.methodLink RX7 218 yX7_isSheet ∈ ab_ws := ab_w (List.mem_append_right _ (List.mem_of_getElem? (i := 673) (by decide +kernel))) rfl
set_option maxRecDepth 20000 in
theorem kw_t674 : Cond.static yX7_isSheet ∈ ab_ws := ab_w (List.mem_append_right _ (List.mem_of_getElem? (i := 674) (by decide +kernel))) rfl
set_option maxRecDepth 20000 in
theorem kw_t679 : Cond.code yX1_lay cX1_lay 4 none ∈ ab_ws := ab_w (List.mem_append_right _ (List.mem_of_getElem? (i := 679) (by decide +kernel))) rfl
set_option maxRecDepth 20000 in
theorem kw_t676 : Cond.methodLink RX7 221 yX1_lay ∈ ab_ws := ab_w (List.mem_append_right _ (List.mem_of_getElem? (i := 676) (by decide +kernel))) rfl
set_option maxRecDepth 20000 in
theorem kw_t677 : Cond.instanceMethod yX1_lay ∈ ab_ws := ab_w (List.mem_append_right _ (List.mem_of_getElem? (i := 677) (by decide +kernel))) rfl
set_option maxRecDepth 20000 in
theorem kw_t678 : Cond.selects "DailyRelief$Sheet" yX1_lay yX1_lay ∈ ab_ws := ab_w (List.mem_append_right _ (List.mem_of_getElem? (i := 678) (by decide +kernel))) rfl
set_option maxRecDepth 20000 in
theorem kw_t683 : Cond.code yX7_put cX7_put 5 (some .int) ∈ ab_ws := ab_w (List.mem_append_right _ (List.mem_of_getElem? (i := 683) (by decide +kernel))) rfl
set_option maxRecDepth 20000 in
theorem kw_t680 : Cond.methodLink RL 135 yX7_put ∈ ab_ws := ab_w (List.mem_append_right _ (List.mem_of_getElem? (i := 680) (by decide +kernel))) rfl
set_option maxRecDepth 20000 in
theorem kw_t681 : Cond.instanceMethod yX7_put ∈ ab_ws := ab_w (List.mem_append_right _ (List.mem_of_getElem? (i := 681) (by decide +kernel))) rfl
set_option maxRecDepth 20000 in
theorem kw_t682 : Cond.selects "DailyRelief" yX7_put yX7_put ∈ ab_ws := ab_w (List.mem_append_right _ (List.mem_of_getElem? (i := 682) (by decide +kernel))) rfl
set_option maxRecDepth 20000 in
theorem kw_t687 : Cond.code yX1_isMissing cX1_isMissing 1 (some .boolean) ∈ ab_ws := ab_w (List.mem_append_right _ (List.mem_of_getElem? (i := 687) (by decide +kernel))) rfl
set_option maxRecDepth 20000 in
theorem kw_t684 : Cond.methodLink RX7 224 yX1_isMissing ∈ ab_ws := ab_w (List.mem_append_right _ (List.mem_of_getElem? (i := 684) (by decide +kernel))) rfl
set_option maxRecDepth 20000 in
theorem kw_t685 : Cond.instanceMethod yX1_isMissing ∈ ab_ws := ab_w (List.mem_append_right _ (List.mem_of_getElem? (i := 685) (by decide +kernel))) rfl
set_option maxRecDepth 20000 in
theorem kw_t686 : Cond.selects "DailyRelief$Sheet" yX1_isMissing yX1_isMissing ∈ ab_ws := ab_w (List.mem_append_right _ (List.mem_of_getElem? (i := 686) (by decide +kernel))) rfl
set_option maxRecDepth 20000 in
theorem kw_t691 : Cond.code yX1_write cX1_write 3 none ∈ ab_ws := ab_w (List.mem_append_right _ (List.mem_of_getElem? (i := 691) (by decide +kernel))) rfl
set_option maxRecDepth 20000 in
theorem kw_t688 : Cond.methodLink RX7 231 yX1_write ∈ ab_ws := ab_w (List.mem_append_right _ (List.mem_of_getElem? (i := 688) (by decide +kernel))) rfl
set_option maxRecDepth 20000 in
theorem kw_t689 : Cond.instanceMethod yX1_write ∈ ab_ws := ab_w (List.mem_append_right _ (List.mem_of_getElem? (i := 689) (by decide +kernel))) rfl
set_option maxRecDepth 20000 in
theorem kw_t690 : Cond.selects "DailyRelief$Sheet" yX1_write yX1_write ∈ ab_ws := ab_w (List.mem_append_right _ (List.mem_of_getElem? (i := 690) (by decide +kernel))) rfl
set_option maxRecDepth 20000 in
theorem kw_t695 : Cond.code yX7_move cX7_move 8 (some .int) ∈ ab_ws := ab_w (List.mem_append_right _ (List.mem_of_getElem? (i := 695) (by decide +kernel))) rfl
set_option maxRecDepth 20000 in
theorem kw_t692 : Cond.methodLink RL 139 yX7_move ∈ ab_ws := ab_w (List.mem_append_right _ (List.mem_of_getElem? (i := 692) (by decide +kernel))) rfl
set_option maxRecDepth 20000 in
theorem kw_t693 : Cond.instanceMethod yX7_move ∈ ab_ws := ab_w (List.mem_append_right _ (List.mem_of_getElem? (i := 693) (by decide +kernel))) rfl
set_option maxRecDepth 20000 in
theorem kw_t694 : Cond.selects "DailyRelief" yX7_move yX7_move ∈ ab_ws := ab_w (List.mem_append_right _ (List.mem_of_getElem? (i := 694) (by decide +kernel))) rfl
set_option maxRecDepth 20000 in
theorem kw_t699 : Cond.code yX1_holds cX1_holds 3 (some .boolean) ∈ ab_ws := ab_w (List.mem_append_right _ (List.mem_of_getElem? (i := 699) (by decide +kernel))) rfl
set_option maxRecDepth 20000 in
theorem kw_t696 : Cond.methodLink RX7 237 yX1_holds ∈ ab_ws := ab_w (List.mem_append_right _ (List.mem_of_getElem? (i := 696) (by decide +kernel))) rfl
set_option maxRecDepth 20000 in
theorem kw_t697 : Cond.instanceMethod yX1_holds ∈ ab_ws := ab_w (List.mem_append_right _ (List.mem_of_getElem? (i := 697) (by decide +kernel))) rfl
set_option maxRecDepth 20000 in
theorem kw_t698 : Cond.selects "DailyRelief$Sheet" yX1_holds yX1_holds ∈ ab_ws := ab_w (List.mem_append_right _ (List.mem_of_getElem? (i := 698) (by decide +kernel))) rfl
set_option maxRecDepth 20000 in
theorem kw_t704 : Cond.code yX7_rosters cX7_rosters 7 (some .int) ∈ ab_ws := ab_w (List.mem_append_right _ (List.mem_of_getElem? (i := 704) (by decide +kernel))) rfl
set_option maxRecDepth 20000 in
theorem kw_t701 : Cond.methodLink RL 144 yX7_rosters ∈ ab_ws := ab_w (List.mem_append_right _ (List.mem_of_getElem? (i := 701) (by decide +kernel))) rfl
set_option maxRecDepth 20000 in
theorem kw_t702 : Cond.instanceMethod yX7_rosters ∈ ab_ws := ab_w (List.mem_append_right _ (List.mem_of_getElem? (i := 702) (by decide +kernel))) rfl
set_option maxRecDepth 20000 in
theorem kw_t703 : Cond.selects "DailyRelief" yX7_rosters yX7_rosters ∈ ab_ws := ab_w (List.mem_append_right _ (List.mem_of_getElem? (i := 703) (by decide +kernel))) rfl
set_option maxRecDepth 20000 in
theorem kw_t708 : Cond.code yX7_judge cX7_judge 5 (some .int) ∈ ab_ws := ab_w (List.mem_append_right _ (List.mem_of_getElem? (i := 708) (by decide +kernel))) rfl
set_option maxRecDepth 20000 in
theorem kw_t705 : Cond.methodLink RL 148 yX7_judge ∈ ab_ws := ab_w (List.mem_append_right _ (List.mem_of_getElem? (i := 705) (by decide +kernel))) rfl
set_option maxRecDepth 20000 in
theorem kw_t706 : Cond.instanceMethod yX7_judge ∈ ab_ws := ab_w (List.mem_append_right _ (List.mem_of_getElem? (i := 706) (by decide +kernel))) rfl
set_option maxRecDepth 20000 in
theorem kw_t707 : Cond.selects "DailyRelief" yX7_judge yX7_judge ∈ ab_ws := ab_w (List.mem_append_right _ (List.mem_of_getElem? (i := 707) (by decide +kernel))) rfl
set_option maxRecDepth 20000 in
theorem kw_t712 : Cond.code yX7_image cX7_image 1 (some .int) ∈ ab_ws := ab_w (List.mem_append_right _ (List.mem_of_getElem? (i := 712) (by decide +kernel))) rfl
set_option maxRecDepth 20000 in
theorem kw_t709 : Cond.methodLink RL 152 yX7_image ∈ ab_ws := ab_w (List.mem_append_right _ (List.mem_of_getElem? (i := 709) (by decide +kernel))) rfl
set_option maxRecDepth 20000 in
theorem kw_t710 : Cond.instanceMethod yX7_image ∈ ab_ws := ab_w (List.mem_append_right _ (List.mem_of_getElem? (i := 710) (by decide +kernel))) rfl
set_option maxRecDepth 20000 in
theorem kw_t711 : Cond.selects "DailyRelief" yX7_image yX7_image ∈ ab_ws := ab_w (List.mem_append_right _ (List.mem_of_getElem? (i := 711) (by decide +kernel))) rfl
set_option maxRecDepth 20000 in
theorem kw_t716 : Cond.code yX7_restore cX7_restore 1 (some .int) ∈ ab_ws := ab_w (List.mem_append_right _ (List.mem_of_getElem? (i := 716) (by decide +kernel))) rfl
set_option maxRecDepth 20000 in
theorem kw_t713 : Cond.methodLink RL 157 yX7_restore ∈ ab_ws := ab_w (List.mem_append_right _ (List.mem_of_getElem? (i := 713) (by decide +kernel))) rfl
set_option maxRecDepth 20000 in
theorem kw_t714 : Cond.instanceMethod yX7_restore ∈ ab_ws := ab_w (List.mem_append_right _ (List.mem_of_getElem? (i := 714) (by decide +kernel))) rfl
set_option maxRecDepth 20000 in
theorem kw_t715 : Cond.selects "DailyRelief" yX7_restore yX7_restore ∈ ab_ws := ab_w (List.mem_append_right _ (List.mem_of_getElem? (i := 715) (by decide +kernel))) rfl
set_option maxRecDepth 20000 in
theorem kw_t720 : Cond.code yX7_tell cX7_tell 2 (some .int) ∈ ab_ws := ab_w (List.mem_append_right _ (List.mem_of_getElem? (i := 720) (by decide +kernel))) rfl
set_option maxRecDepth 20000 in
theorem kw_t717 : Cond.methodLink RL 161 yX7_tell ∈ ab_ws := ab_w (List.mem_append_right _ (List.mem_of_getElem? (i := 717) (by decide +kernel))) rfl
set_option maxRecDepth 20000 in
theorem kw_t718 : Cond.instanceMethod yX7_tell ∈ ab_ws := ab_w (List.mem_append_right _ (List.mem_of_getElem? (i := 718) (by decide +kernel))) rfl
set_option maxRecDepth 20000 in
theorem kw_t719 : Cond.selects "DailyRelief" yX7_tell yX7_tell ∈ ab_ws := ab_w (List.mem_append_right _ (List.mem_of_getElem? (i := 719) (by decide +kernel))) rfl
set_option maxRecDepth 20000 in
theorem kw_t724 : Cond.code yX7_check cX7_check 4 (some .int) ∈ ab_ws := ab_w (List.mem_append_right _ (List.mem_of_getElem? (i := 724) (by decide +kernel))) rfl
set_option maxRecDepth 20000 in
theorem kw_t721 : Cond.methodLink RL 165 yX7_check ∈ ab_ws := ab_w (List.mem_append_right _ (List.mem_of_getElem? (i := 721) (by decide +kernel))) rfl
set_option maxRecDepth 20000 in
theorem kw_t722 : Cond.instanceMethod yX7_check ∈ ab_ws := ab_w (List.mem_append_right _ (List.mem_of_getElem? (i := 722) (by decide +kernel))) rfl
set_option maxRecDepth 20000 in
theorem kw_t723 : Cond.selects "DailyRelief" yX7_check yX7_check ∈ ab_ws := ab_w (List.mem_append_right _ (List.mem_of_getElem? (i := 723) (by decide +kernel))) rfl
set_option maxRecDepth 20000 in
theorem kw_t728 : Cond.code yX7_count cX7_count 2 (some .int) ∈ ab_ws := ab_w (List.mem_append_right _ (List.mem_of_getElem? (i := 728) (by decide +kernel))) rfl
set_option maxRecDepth 20000 in
theorem kw_t725 : Cond.methodLink RL 169 yX7_count ∈ ab_ws := ab_w (List.mem_append_right _ (List.mem_of_getElem? (i := 725) (by decide +kernel))) rfl
set_option maxRecDepth 20000 in
theorem kw_t726 : Cond.instanceMethod yX7_count ∈ ab_ws := ab_w (List.mem_append_right _ (List.mem_of_getElem? (i := 726) (by decide +kernel))) rfl
set_option maxRecDepth 20000 in
theorem kw_t727 : Cond.selects "DailyRelief" yX7_count yX7_count ∈ ab_ws := ab_w (List.mem_append_right _ (List.mem_of_getElem? (i := 727) (by decide +kernel))) rfl
set_option maxRecDepth 20000 in
theorem kw_t732 : Cond.code yX2_knownByAny cX2_knownByAny 3 (some .int) ∈ ab_ws := ab_w (List.mem_append_right _ (List.mem_of_getElem? (i := 732) (by decide +kernel))) rfl
set_option maxRecDepth 20000 in
theorem kw_t729 : Cond.methodLink RX7 265 yX2_knownByAny ∈ ab_ws := ab_w (List.mem_append_right _ (List.mem_of_getElem? (i := 729) (by decide +kernel))) rfl
set_option maxRecDepth 20000 in
theorem kw_t730 : Cond.instanceMethod yX2_knownByAny ∈ ab_ws := ab_w (List.mem_append_right _ (List.mem_of_getElem? (i := 730) (by decide +kernel))) rfl
set_option maxRecDepth 20000 in
theorem kw_t731 : Cond.selects "DailyRelief$Ship" yX2_knownByAny yX2_knownByAny ∈ ab_ws := ab_w (List.mem_append_right _ (List.mem_of_getElem? (i := 731) (by decide +kernel))) rfl
set_option maxRecDepth 20000 in
theorem kw_t736 : Cond.code yX7_told cX7_told 2 (some .int) ∈ ab_ws := ab_w (List.mem_append_right _ (List.mem_of_getElem? (i := 736) (by decide +kernel))) rfl
set_option maxRecDepth 20000 in
theorem kw_t733 : Cond.methodLink RL 173 yX7_told ∈ ab_ws := ab_w (List.mem_append_right _ (List.mem_of_getElem? (i := 733) (by decide +kernel))) rfl
set_option maxRecDepth 20000 in
theorem kw_t734 : Cond.instanceMethod yX7_told ∈ ab_ws := ab_w (List.mem_append_right _ (List.mem_of_getElem? (i := 734) (by decide +kernel))) rfl
set_option maxRecDepth 20000 in
theorem kw_t735 : Cond.selects "DailyRelief" yX7_told yX7_told ∈ ab_ws := ab_w (List.mem_append_right _ (List.mem_of_getElem? (i := 735) (by decide +kernel))) rfl
set_option maxRecDepth 20000 in
theorem kw_t741 : Cond.code yX8_init cX8_init 1 none ∈ ab_ws := ab_w (List.mem_append_right _ (List.mem_of_getElem? (i := 741) (by decide +kernel))) rfl
set_option maxRecDepth 20000 in
theorem kw_t739 : Cond.methodLink RL 12 yX8_init ∈ ab_ws := ab_w (List.mem_append_right _ (List.mem_of_getElem? (i := 739) (by decide +kernel))) rfl
set_option maxRecDepth 20000 in
theorem kw_t740 : Cond.instanceMethod yX8_init ∈ ab_ws := ab_w (List.mem_append_right _ (List.mem_of_getElem? (i := 740) (by decide +kernel))) rfl
set_option maxRecDepth 20000 in
theorem kw_t8 : Cond.initialized "DailyReliefModel" ∈ ab_ws := ab_w (List.mem_append_right _ (List.mem_of_getElem? (i := 8) (by decide +kernel))) rfl
set_option maxRecDepth 20000 in
theorem kw_t813 : Cond.code yX8_bunk cX8_bunk 3 (some .int) ∈ ab_ws := ab_w (List.mem_append_right _ (List.mem_of_getElem? (i := 813) (by decide +kernel))) rfl
set_option maxRecDepth 20000 in
theorem kw_t810 : Cond.methodLink RL 17 yX8_bunk ∈ ab_ws := ab_w (List.mem_append_right _ (List.mem_of_getElem? (i := 810) (by decide +kernel))) rfl
set_option maxRecDepth 20000 in
theorem kw_t811 : Cond.instanceMethod yX8_bunk ∈ ab_ws := ab_w (List.mem_append_right _ (List.mem_of_getElem? (i := 811) (by decide +kernel))) rfl
set_option maxRecDepth 20000 in
theorem kw_t812 : Cond.selects "DailyReliefModel" yX8_bunk yX8_bunk ∈ ab_ws := ab_w (List.mem_append_right _ (List.mem_of_getElem? (i := 812) (by decide +kernel))) rfl
set_option maxRecDepth 20000 in
theorem kw_t816 : Cond.code yX8_isMan cX8_isMan 1 (some .boolean) ∈ ab_ws := ab_w (List.mem_append_right _ (List.mem_of_getElem? (i := 816) (by decide +kernel))) rfl
set_option maxRecDepth 20000 in
theorem kw_t814 : Cond.methodLink RX8 80 yX8_isMan ∈ ab_ws := ab_w (List.mem_append_right _ (List.mem_of_getElem? (i := 814) (by decide +kernel))) rfl
set_option maxRecDepth 20000 in
theorem kw_t815 : Cond.static yX8_isMan ∈ ab_ws := ab_w (List.mem_append_right _ (List.mem_of_getElem? (i := 815) (by decide +kernel))) rfl
set_option maxRecDepth 20000 in
theorem kw_t820 : Cond.code yX8_in cX8_in 6 (some .boolean) ∈ ab_ws := ab_w (List.mem_append_right _ (List.mem_of_getElem? (i := 820) (by decide +kernel))) rfl
set_option maxRecDepth 20000 in
theorem kw_t818 : Cond.methodLink RX8 44 yX8_in ∈ ab_ws := ab_w (List.mem_append_right _ (List.mem_of_getElem? (i := 818) (by decide +kernel))) rfl
set_option maxRecDepth 20000 in
theorem kw_t819 : Cond.static yX8_in ∈ ab_ws := ab_w (List.mem_append_right _ (List.mem_of_getElem? (i := 819) (by decide +kernel))) rfl
set_option maxRecDepth 20000 in
theorem kw_t825 : Cond.code yX8_errs cX8_errs 2 (some .int) ∈ ab_ws := ab_w (List.mem_append_right _ (List.mem_of_getElem? (i := 825) (by decide +kernel))) rfl
set_option maxRecDepth 20000 in
theorem kw_t822 : Cond.methodLink RX8 84 yX8_errs ∈ ab_ws := ab_w (List.mem_append_right _ (List.mem_of_getElem? (i := 822) (by decide +kernel))) rfl
set_option maxRecDepth 20000 in
theorem kw_t824 : Cond.instanceMethod yX8_errs ∈ ab_ws := ab_w (List.mem_append_right _ (List.mem_of_getElem? (i := 824) (by decide +kernel))) rfl
set_option maxRecDepth 20000 in
theorem kw_p30 : Cond.selects "DailyReliefModel" yX8_errs yX8_errs ∈ ab_ws := ab_w (List.mem_append_left _ (List.mem_of_getElem? (i := 30) (by decide +kernel))) rfl
set_option maxRecDepth 20000 in
theorem kw_t830 : Cond.code yX8_comes cX8_comes 7 none ∈ ab_ws := ab_w (List.mem_append_right _ (List.mem_of_getElem? (i := 830) (by decide +kernel))) rfl
set_option maxRecDepth 20000 in
theorem kw_t827 : Cond.methodLink RX8 88 yX8_comes ∈ ab_ws := ab_w (List.mem_append_right _ (List.mem_of_getElem? (i := 827) (by decide +kernel))) rfl
set_option maxRecDepth 20000 in
theorem kw_t829 : Cond.instanceMethod yX8_comes ∈ ab_ws := ab_w (List.mem_append_right _ (List.mem_of_getElem? (i := 829) (by decide +kernel))) rfl
set_option maxRecDepth 20000 in
theorem kw_p31 : Cond.selects "DailyReliefModel" yX8_comes yX8_comes ∈ ab_ws := ab_w (List.mem_append_left _ (List.mem_of_getElem? (i := 31) (by decide +kernel))) rfl
set_option maxRecDepth 20000 in
theorem kw_t833 : Cond.code yX8_at cX8_at 2 (some .int) ∈ ab_ws := ab_w (List.mem_append_right _ (List.mem_of_getElem? (i := 833) (by decide +kernel))) rfl
set_option maxRecDepth 20000 in
theorem kw_t831 : Cond.methodLink RX8 56 yX8_at ∈ ab_ws := ab_w (List.mem_append_right _ (List.mem_of_getElem? (i := 831) (by decide +kernel))) rfl
set_option maxRecDepth 20000 in
theorem kw_t832 : Cond.static yX8_at ∈ ab_ws := ab_w (List.mem_append_right _ (List.mem_of_getElem? (i := 832) (by decide +kernel))) rfl
set_option maxRecDepth 20000 in
theorem kw_t836 : Cond.code yX8_has cX8_has 2 (some .boolean) ∈ ab_ws := ab_w (List.mem_append_right _ (List.mem_of_getElem? (i := 836) (by decide +kernel))) rfl
set_option maxRecDepth 20000 in
theorem kw_t834 : Cond.methodLink RX8 63 yX8_has ∈ ab_ws := ab_w (List.mem_append_right _ (List.mem_of_getElem? (i := 834) (by decide +kernel))) rfl
set_option maxRecDepth 20000 in
theorem kw_t835 : Cond.static yX8_has ∈ ab_ws := ab_w (List.mem_append_right _ (List.mem_of_getElem? (i := 835) (by decide +kernel))) rfl
set_option maxRecDepth 20000 in
theorem kw_t840 : Cond.code yX8_bunkIs cX8_bunkIs 3 (some .int) ∈ ab_ws := ab_w (List.mem_append_right _ (List.mem_of_getElem? (i := 840) (by decide +kernel))) rfl
set_option maxRecDepth 20000 in
theorem kw_t837 : Cond.methodLink RL 22 yX8_bunkIs ∈ ab_ws := ab_w (List.mem_append_right _ (List.mem_of_getElem? (i := 837) (by decide +kernel))) rfl
set_option maxRecDepth 20000 in
theorem kw_t838 : Cond.instanceMethod yX8_bunkIs ∈ ab_ws := ab_w (List.mem_append_right _ (List.mem_of_getElem? (i := 838) (by decide +kernel))) rfl
set_option maxRecDepth 20000 in
theorem kw_t839 : Cond.selects "DailyReliefModel" yX8_bunkIs yX8_bunkIs ∈ ab_ws := ab_w (List.mem_append_right _ (List.mem_of_getElem? (i := 839) (by decide +kernel))) rfl
set_option maxRecDepth 20000 in
theorem kw_t844 : Cond.code yX8_isBunk cX8_isBunk 2 (some .boolean) ∈ ab_ws := ab_w (List.mem_append_right _ (List.mem_of_getElem? (i := 844) (by decide +kernel))) rfl
set_option maxRecDepth 20000 in
theorem kw_t841 : Cond.methodLink RX8 98 yX8_isBunk ∈ ab_ws := ab_w (List.mem_append_right _ (List.mem_of_getElem? (i := 841) (by decide +kernel))) rfl
set_option maxRecDepth 20000 in
theorem kw_t843 : Cond.instanceMethod yX8_isBunk ∈ ab_ws := ab_w (List.mem_append_right _ (List.mem_of_getElem? (i := 843) (by decide +kernel))) rfl
set_option maxRecDepth 20000 in
theorem kw_p32 : Cond.selects "DailyReliefModel" yX8_isBunk yX8_isBunk ∈ ab_ws := ab_w (List.mem_append_left _ (List.mem_of_getElem? (i := 32) (by decide +kernel))) rfl
set_option maxRecDepth 20000 in
theorem kw_t849 : Cond.code yX8_ofMan cX8_ofMan 3 (some .int) ∈ ab_ws := ab_w (List.mem_append_right _ (List.mem_of_getElem? (i := 849) (by decide +kernel))) rfl
set_option maxRecDepth 20000 in
theorem kw_t846 : Cond.methodLink RX8 103 yX8_ofMan ∈ ab_ws := ab_w (List.mem_append_right _ (List.mem_of_getElem? (i := 846) (by decide +kernel))) rfl
set_option maxRecDepth 20000 in
theorem kw_t848 : Cond.instanceMethod yX8_ofMan ∈ ab_ws := ab_w (List.mem_append_right _ (List.mem_of_getElem? (i := 848) (by decide +kernel))) rfl
set_option maxRecDepth 20000 in
theorem kw_p33 : Cond.selects "DailyReliefModel" yX8_ofMan yX8_ofMan ∈ ab_ws := ab_w (List.mem_append_left _ (List.mem_of_getElem? (i := 33) (by decide +kernel))) rfl
set_option maxRecDepth 20000 in
theorem kw_t853 : Cond.code yX8_its cX8_its 3 (some .int) ∈ ab_ws := ab_w (List.mem_append_right _ (List.mem_of_getElem? (i := 853) (by decide +kernel))) rfl
set_option maxRecDepth 20000 in
theorem kw_t850 : Cond.methodLink RX8 60 yX8_its ∈ ab_ws := ab_w (List.mem_append_right _ (List.mem_of_getElem? (i := 850) (by decide +kernel))) rfl
set_option maxRecDepth 20000 in
theorem kw_t852 : Cond.instanceMethod yX8_its ∈ ab_ws := ab_w (List.mem_append_right _ (List.mem_of_getElem? (i := 852) (by decide +kernel))) rfl
set_option maxRecDepth 20000 in
theorem kw_p34 : Cond.selects "DailyReliefModel" yX8_its yX8_its ∈ ab_ws := ab_w (List.mem_append_left _ (List.mem_of_getElem? (i := 34) (by decide +kernel))) rfl
set_option maxRecDepth 20000 in
theorem kw_t857 : Cond.code yX8_wagesOf cX8_wagesOf 4 (some .int) ∈ ab_ws := ab_w (List.mem_append_right _ (List.mem_of_getElem? (i := 857) (by decide +kernel))) rfl
set_option maxRecDepth 20000 in
theorem kw_t854 : Cond.methodLink RX8 92 yX8_wagesOf ∈ ab_ws := ab_w (List.mem_append_right _ (List.mem_of_getElem? (i := 854) (by decide +kernel))) rfl
set_option maxRecDepth 20000 in
theorem kw_t856 : Cond.instanceMethod yX8_wagesOf ∈ ab_ws := ab_w (List.mem_append_right _ (List.mem_of_getElem? (i := 856) (by decide +kernel))) rfl
set_option maxRecDepth 20000 in
theorem kw_p35 : Cond.selects "DailyReliefModel" yX8_wagesOf yX8_wagesOf ∈ ab_ws := ab_w (List.mem_append_left _ (List.mem_of_getElem? (i := 35) (by decide +kernel))) rfl
set_option maxRecDepth 20000 in
theorem kw_t860 : Cond.code yX8_ones cX8_ones 3 (some .int) ∈ ab_ws := ab_w (List.mem_append_right _ (List.mem_of_getElem? (i := 860) (by decide +kernel))) rfl
set_option maxRecDepth 20000 in
theorem kw_t858 : Cond.methodLink RX8 67 yX8_ones ∈ ab_ws := ab_w (List.mem_append_right _ (List.mem_of_getElem? (i := 858) (by decide +kernel))) rfl
set_option maxRecDepth 20000 in
theorem kw_t859 : Cond.static yX8_ones ∈ ab_ws := ab_w (List.mem_append_right _ (List.mem_of_getElem? (i := 859) (by decide +kernel))) rfl
set_option maxRecDepth 20000 in
theorem kw_t864 : Cond.code yX8_worked cX8_worked 9 (some .int) ∈ ab_ws := ab_w (List.mem_append_right _ (List.mem_of_getElem? (i := 864) (by decide +kernel))) rfl
set_option maxRecDepth 20000 in
theorem kw_t861 : Cond.methodLink RX8 71 yX8_worked ∈ ab_ws := ab_w (List.mem_append_right _ (List.mem_of_getElem? (i := 861) (by decide +kernel))) rfl
set_option maxRecDepth 20000 in
theorem kw_t863 : Cond.instanceMethod yX8_worked ∈ ab_ws := ab_w (List.mem_append_right _ (List.mem_of_getElem? (i := 863) (by decide +kernel))) rfl
set_option maxRecDepth 20000 in
theorem kw_p36 : Cond.selects "DailyReliefModel" yX8_worked yX8_worked ∈ ab_ws := ab_w (List.mem_append_left _ (List.mem_of_getElem? (i := 36) (by decide +kernel))) rfl
set_option maxRecDepth 20000 in
theorem kw_t867 : Cond.code yX8_by cX8_by 3 (some .int) ∈ ab_ws := ab_w (List.mem_append_right _ (List.mem_of_getElem? (i := 867) (by decide +kernel))) rfl
set_option maxRecDepth 20000 in
theorem kw_t865 : Cond.methodLink RX8 52 yX8_by ∈ ab_ws := ab_w (List.mem_append_right _ (List.mem_of_getElem? (i := 865) (by decide +kernel))) rfl
set_option maxRecDepth 20000 in
theorem kw_t866 : Cond.static yX8_by ∈ ab_ws := ab_w (List.mem_append_right _ (List.mem_of_getElem? (i := 866) (by decide +kernel))) rfl
set_option maxRecDepth 20000 in
theorem kw_t870 : Cond.code yX8_held cX8_held 3 (some .int) ∈ ab_ws := ab_w (List.mem_append_right _ (List.mem_of_getElem? (i := 870) (by decide +kernel))) rfl
set_option maxRecDepth 20000 in
theorem kw_t868 : Cond.methodLink RX8 75 yX8_held ∈ ab_ws := ab_w (List.mem_append_right _ (List.mem_of_getElem? (i := 868) (by decide +kernel))) rfl
set_option maxRecDepth 20000 in
theorem kw_t869 : Cond.static yX8_held ∈ ab_ws := ab_w (List.mem_append_right _ (List.mem_of_getElem? (i := 869) (by decide +kernel))) rfl
set_option maxRecDepth 20000 in
theorem kw_t874 : Cond.code yX8_needs cX8_needs 5 (some .int) ∈ ab_ws := ab_w (List.mem_append_right _ (List.mem_of_getElem? (i := 874) (by decide +kernel))) rfl
set_option maxRecDepth 20000 in
theorem kw_t871 : Cond.methodLink RX8 95 yX8_needs ∈ ab_ws := ab_w (List.mem_append_right _ (List.mem_of_getElem? (i := 871) (by decide +kernel))) rfl
set_option maxRecDepth 20000 in
theorem kw_t873 : Cond.instanceMethod yX8_needs ∈ ab_ws := ab_w (List.mem_append_right _ (List.mem_of_getElem? (i := 873) (by decide +kernel))) rfl
set_option maxRecDepth 20000 in
theorem kw_p37 : Cond.selects "DailyReliefModel" yX8_needs yX8_needs ∈ ab_ws := ab_w (List.mem_append_left _ (List.mem_of_getElem? (i := 37) (by decide +kernel))) rfl
set_option maxRecDepth 20000 in
theorem kw_t878 : Cond.code yX8_as cX8_as 5 (some .int) ∈ ab_ws := ab_w (List.mem_append_right _ (List.mem_of_getElem? (i := 878) (by decide +kernel))) rfl
set_option maxRecDepth 20000 in
theorem kw_t875 : Cond.methodLink RL 26 yX8_as ∈ ab_ws := ab_w (List.mem_append_right _ (List.mem_of_getElem? (i := 875) (by decide +kernel))) rfl
set_option maxRecDepth 20000 in
theorem kw_t876 : Cond.instanceMethod yX8_as ∈ ab_ws := ab_w (List.mem_append_right _ (List.mem_of_getElem? (i := 876) (by decide +kernel))) rfl
set_option maxRecDepth 20000 in
theorem kw_t877 : Cond.selects "DailyReliefModel" yX8_as yX8_as ∈ ab_ws := ab_w (List.mem_append_right _ (List.mem_of_getElem? (i := 877) (by decide +kernel))) rfl
set_option maxRecDepth 20000 in
theorem kw_t884 : Cond.code yX8_set cX8_set 6 (some .int) ∈ ab_ws := ab_w (List.mem_append_right _ (List.mem_of_getElem? (i := 884) (by decide +kernel))) rfl
set_option maxRecDepth 20000 in
theorem kw_t881 : Cond.methodLink RL 31 yX8_set ∈ ab_ws := ab_w (List.mem_append_right _ (List.mem_of_getElem? (i := 881) (by decide +kernel))) rfl
set_option maxRecDepth 20000 in
theorem kw_t882 : Cond.instanceMethod yX8_set ∈ ab_ws := ab_w (List.mem_append_right _ (List.mem_of_getElem? (i := 882) (by decide +kernel))) rfl
set_option maxRecDepth 20000 in
theorem kw_t883 : Cond.selects "DailyReliefModel" yX8_set yX8_set ∈ ab_ws := ab_w (List.mem_append_right _ (List.mem_of_getElem? (i := 883) (by decide +kernel))) rfl
set_option maxRecDepth 20000 in
theorem kw_t891 : Cond.code yX8_know cX8_know 5 (some .int) ∈ ab_ws := ab_w (List.mem_append_right _ (List.mem_of_getElem? (i := 891) (by decide +kernel))) rfl
set_option maxRecDepth 20000 in
theorem kw_t888 : Cond.methodLink RL 35 yX8_know ∈ ab_ws := ab_w (List.mem_append_right _ (List.mem_of_getElem? (i := 888) (by decide +kernel))) rfl
set_option maxRecDepth 20000 in
theorem kw_t889 : Cond.instanceMethod yX8_know ∈ ab_ws := ab_w (List.mem_append_right _ (List.mem_of_getElem? (i := 889) (by decide +kernel))) rfl
set_option maxRecDepth 20000 in
theorem kw_t890 : Cond.selects "DailyReliefModel" yX8_know yX8_know ∈ ab_ws := ab_w (List.mem_append_right _ (List.mem_of_getElem? (i := 890) (by decide +kernel))) rfl
set_option maxRecDepth 20000 in
theorem kw_t894 : Cond.code yX8_isKnack cX8_isKnack 1 (some .boolean) ∈ ab_ws := ab_w (List.mem_append_right _ (List.mem_of_getElem? (i := 894) (by decide +kernel))) rfl
set_option maxRecDepth 20000 in
theorem kw_t892 : Cond.methodLink RX8 113 yX8_isKnack ∈ ab_ws := ab_w (List.mem_append_right _ (List.mem_of_getElem? (i := 892) (by decide +kernel))) rfl
set_option maxRecDepth 20000 in
theorem kw_t893 : Cond.static yX8_isKnack ∈ ab_ws := ab_w (List.mem_append_right _ (List.mem_of_getElem? (i := 893) (by decide +kernel))) rfl
set_option maxRecDepth 20000 in
theorem kw_t899 : Cond.code yX8_isKnowing cX8_isKnowing 3 (some .boolean) ∈ ab_ws := ab_w (List.mem_append_right _ (List.mem_of_getElem? (i := 899) (by decide +kernel))) rfl
set_option maxRecDepth 20000 in
theorem kw_t896 : Cond.methodLink RX8 118 yX8_isKnowing ∈ ab_ws := ab_w (List.mem_append_right _ (List.mem_of_getElem? (i := 896) (by decide +kernel))) rfl
set_option maxRecDepth 20000 in
theorem kw_t898 : Cond.instanceMethod yX8_isKnowing ∈ ab_ws := ab_w (List.mem_append_right _ (List.mem_of_getElem? (i := 898) (by decide +kernel))) rfl
set_option maxRecDepth 20000 in
theorem kw_p38 : Cond.selects "DailyReliefModel" yX8_isKnowing yX8_isKnowing ∈ ab_ws := ab_w (List.mem_append_left _ (List.mem_of_getElem? (i := 38) (by decide +kernel))) rfl
set_option maxRecDepth 20000 in
theorem kw_t903 : Cond.code yX8_roster cX8_roster 4 (some .int) ∈ ab_ws := ab_w (List.mem_append_right _ (List.mem_of_getElem? (i := 903) (by decide +kernel))) rfl
set_option maxRecDepth 20000 in
theorem kw_t900 : Cond.methodLink RL 39 yX8_roster ∈ ab_ws := ab_w (List.mem_append_right _ (List.mem_of_getElem? (i := 900) (by decide +kernel))) rfl
set_option maxRecDepth 20000 in
theorem kw_t901 : Cond.instanceMethod yX8_roster ∈ ab_ws := ab_w (List.mem_append_right _ (List.mem_of_getElem? (i := 901) (by decide +kernel))) rfl
set_option maxRecDepth 20000 in
theorem kw_t902 : Cond.selects "DailyReliefModel" yX8_roster yX8_roster ∈ ab_ws := ab_w (List.mem_append_right _ (List.mem_of_getElem? (i := 902) (by decide +kernel))) rfl
set_option maxRecDepth 20000 in
theorem kw_t907 : Cond.code yX8_rosterWrong cX8_rosterWrong 3 (some .int) ∈ ab_ws := ab_w (List.mem_append_right _ (List.mem_of_getElem? (i := 907) (by decide +kernel))) rfl
set_option maxRecDepth 20000 in
theorem kw_t904 : Cond.methodLink RX8 124 yX8_rosterWrong ∈ ab_ws := ab_w (List.mem_append_right _ (List.mem_of_getElem? (i := 904) (by decide +kernel))) rfl
set_option maxRecDepth 20000 in
theorem kw_t906 : Cond.instanceMethod yX8_rosterWrong ∈ ab_ws := ab_w (List.mem_append_right _ (List.mem_of_getElem? (i := 906) (by decide +kernel))) rfl
set_option maxRecDepth 20000 in
theorem kw_p39 : Cond.selects "DailyReliefModel" yX8_rosterWrong yX8_rosterWrong ∈ ab_ws := ab_w (List.mem_append_left _ (List.mem_of_getElem? (i := 39) (by decide +kernel))) rfl
set_option maxRecDepth 20000 in
theorem kw_t910 : Cond.code yX8_isBits cX8_isBits 1 (some .boolean) ∈ ab_ws := ab_w (List.mem_append_right _ (List.mem_of_getElem? (i := 910) (by decide +kernel))) rfl
set_option maxRecDepth 20000 in
theorem kw_t908 : Cond.methodLink RX8 121 yX8_isBits ∈ ab_ws := ab_w (List.mem_append_right _ (List.mem_of_getElem? (i := 908) (by decide +kernel))) rfl
set_option maxRecDepth 20000 in
theorem kw_t909 : Cond.static yX8_isBits ∈ ab_ws := ab_w (List.mem_append_right _ (List.mem_of_getElem? (i := 909) (by decide +kernel))) rfl
set_option maxRecDepth 20000 in
theorem kw_t915 : Cond.code yX8_rostered cX8_rostered 3 none ∈ ab_ws := ab_w (List.mem_append_right _ (List.mem_of_getElem? (i := 915) (by decide +kernel))) rfl
set_option maxRecDepth 20000 in
theorem kw_t912 : Cond.methodLink RX8 127 yX8_rostered ∈ ab_ws := ab_w (List.mem_append_right _ (List.mem_of_getElem? (i := 912) (by decide +kernel))) rfl
set_option maxRecDepth 20000 in
theorem kw_t914 : Cond.instanceMethod yX8_rostered ∈ ab_ws := ab_w (List.mem_append_right _ (List.mem_of_getElem? (i := 914) (by decide +kernel))) rfl
set_option maxRecDepth 20000 in
theorem kw_p40 : Cond.selects "DailyReliefModel" yX8_rostered yX8_rostered ∈ ab_ws := ab_w (List.mem_append_left _ (List.mem_of_getElem? (i := 40) (by decide +kernel))) rfl
set_option maxRecDepth 20000 in
theorem kw_t919 : Cond.code yX8_book cX8_book 3 (some .int) ∈ ab_ws := ab_w (List.mem_append_right _ (List.mem_of_getElem? (i := 919) (by decide +kernel))) rfl
set_option maxRecDepth 20000 in
theorem kw_t916 : Cond.methodLink RL 43 yX8_book ∈ ab_ws := ab_w (List.mem_append_right _ (List.mem_of_getElem? (i := 916) (by decide +kernel))) rfl
set_option maxRecDepth 20000 in
theorem kw_t917 : Cond.instanceMethod yX8_book ∈ ab_ws := ab_w (List.mem_append_right _ (List.mem_of_getElem? (i := 917) (by decide +kernel))) rfl
set_option maxRecDepth 20000 in
theorem kw_t918 : Cond.selects "DailyReliefModel" yX8_book yX8_book ∈ ab_ws := ab_w (List.mem_append_right _ (List.mem_of_getElem? (i := 918) (by decide +kernel))) rfl
set_option maxRecDepth 20000 in
theorem kw_t923 : Cond.code yX8_task cX8_task 5 (some .int) ∈ ab_ws := ab_w (List.mem_append_right _ (List.mem_of_getElem? (i := 923) (by decide +kernel))) rfl
set_option maxRecDepth 20000 in
theorem kw_t920 : Cond.methodLink RL 47 yX8_task ∈ ab_ws := ab_w (List.mem_append_right _ (List.mem_of_getElem? (i := 920) (by decide +kernel))) rfl
set_option maxRecDepth 20000 in
theorem kw_t921 : Cond.instanceMethod yX8_task ∈ ab_ws := ab_w (List.mem_append_right _ (List.mem_of_getElem? (i := 921) (by decide +kernel))) rfl
set_option maxRecDepth 20000 in
theorem kw_t922 : Cond.selects "DailyReliefModel" yX8_task yX8_task ∈ ab_ws := ab_w (List.mem_append_right _ (List.mem_of_getElem? (i := 922) (by decide +kernel))) rfl
set_option maxRecDepth 20000 in
theorem kw_t928 : Cond.code yX8_ofTask cX8_ofTask 3 (some .int) ∈ ab_ws := ab_w (List.mem_append_right _ (List.mem_of_getElem? (i := 928) (by decide +kernel))) rfl
set_option maxRecDepth 20000 in
theorem kw_t925 : Cond.methodLink RX8 136 yX8_ofTask ∈ ab_ws := ab_w (List.mem_append_right _ (List.mem_of_getElem? (i := 925) (by decide +kernel))) rfl
set_option maxRecDepth 20000 in
theorem kw_t927 : Cond.instanceMethod yX8_ofTask ∈ ab_ws := ab_w (List.mem_append_right _ (List.mem_of_getElem? (i := 927) (by decide +kernel))) rfl
set_option maxRecDepth 20000 in
theorem kw_p41 : Cond.selects "DailyReliefModel" yX8_ofTask yX8_ofTask ∈ ab_ws := ab_w (List.mem_append_left _ (List.mem_of_getElem? (i := 41) (by decide +kernel))) rfl
set_option maxRecDepth 20000 in
theorem kw_t931 : Cond.code yX8_where cX8_where 2 (some .int) ∈ ab_ws := ab_w (List.mem_append_right _ (List.mem_of_getElem? (i := 931) (by decide +kernel))) rfl
set_option maxRecDepth 20000 in
theorem kw_t929 : Cond.methodLink RX8 131 yX8_where ∈ ab_ws := ab_w (List.mem_append_right _ (List.mem_of_getElem? (i := 929) (by decide +kernel))) rfl
set_option maxRecDepth 20000 in
theorem kw_t930 : Cond.static yX8_where ∈ ab_ws := ab_w (List.mem_append_right _ (List.mem_of_getElem? (i := 930) (by decide +kernel))) rfl
set_option maxRecDepth 20000 in
theorem kw_t935 : Cond.code yX8_taskIs cX8_taskIs 3 (some .int) ∈ ab_ws := ab_w (List.mem_append_right _ (List.mem_of_getElem? (i := 935) (by decide +kernel))) rfl
set_option maxRecDepth 20000 in
theorem kw_t932 : Cond.methodLink RL 51 yX8_taskIs ∈ ab_ws := ab_w (List.mem_append_right _ (List.mem_of_getElem? (i := 932) (by decide +kernel))) rfl
set_option maxRecDepth 20000 in
theorem kw_t933 : Cond.instanceMethod yX8_taskIs ∈ ab_ws := ab_w (List.mem_append_right _ (List.mem_of_getElem? (i := 933) (by decide +kernel))) rfl
set_option maxRecDepth 20000 in
theorem kw_t934 : Cond.selects "DailyReliefModel" yX8_taskIs yX8_taskIs ∈ ab_ws := ab_w (List.mem_append_right _ (List.mem_of_getElem? (i := 934) (by decide +kernel))) rfl
set_option maxRecDepth 20000 in
theorem kw_t940 : Cond.code yX8_toldTask cX8_toldTask 3 (some .int) ∈ ab_ws := ab_w (List.mem_append_right _ (List.mem_of_getElem? (i := 940) (by decide +kernel))) rfl
set_option maxRecDepth 20000 in
theorem kw_t937 : Cond.methodLink RX8 144 yX8_toldTask ∈ ab_ws := ab_w (List.mem_append_right _ (List.mem_of_getElem? (i := 937) (by decide +kernel))) rfl
set_option maxRecDepth 20000 in
theorem kw_t939 : Cond.instanceMethod yX8_toldTask ∈ ab_ws := ab_w (List.mem_append_right _ (List.mem_of_getElem? (i := 939) (by decide +kernel))) rfl
set_option maxRecDepth 20000 in
theorem kw_p42 : Cond.selects "DailyReliefModel" yX8_toldTask yX8_toldTask ∈ ab_ws := ab_w (List.mem_append_left _ (List.mem_of_getElem? (i := 42) (by decide +kernel))) rfl
set_option maxRecDepth 20000 in
theorem kw_t944 : Cond.code yX8_knowers cX8_knowers 4 (some .int) ∈ ab_ws := ab_w (List.mem_append_right _ (List.mem_of_getElem? (i := 944) (by decide +kernel))) rfl
set_option maxRecDepth 20000 in
theorem kw_t941 : Cond.methodLink RX8 139 yX8_knowers ∈ ab_ws := ab_w (List.mem_append_right _ (List.mem_of_getElem? (i := 941) (by decide +kernel))) rfl
set_option maxRecDepth 20000 in
theorem kw_t943 : Cond.instanceMethod yX8_knowers ∈ ab_ws := ab_w (List.mem_append_right _ (List.mem_of_getElem? (i := 943) (by decide +kernel))) rfl
set_option maxRecDepth 20000 in
theorem kw_p43 : Cond.selects "DailyReliefModel" yX8_knowers yX8_knowers ∈ ab_ws := ab_w (List.mem_append_left _ (List.mem_of_getElem? (i := 43) (by decide +kernel))) rfl
set_option maxRecDepth 20000 in
theorem kw_t948 : Cond.code yX8_feed cX8_feed 5 (some .int) ∈ ab_ws := ab_w (List.mem_append_right _ (List.mem_of_getElem? (i := 948) (by decide +kernel))) rfl
set_option maxRecDepth 20000 in
theorem kw_t945 : Cond.methodLink RL 58 yX8_feed ∈ ab_ws := ab_w (List.mem_append_right _ (List.mem_of_getElem? (i := 945) (by decide +kernel))) rfl
set_option maxRecDepth 20000 in
theorem kw_t946 : Cond.instanceMethod yX8_feed ∈ ab_ws := ab_w (List.mem_append_right _ (List.mem_of_getElem? (i := 946) (by decide +kernel))) rfl
set_option maxRecDepth 20000 in
theorem kw_t947 : Cond.selects "DailyReliefModel" yX8_feed yX8_feed ∈ ab_ws := ab_w (List.mem_append_right _ (List.mem_of_getElem? (i := 947) (by decide +kernel))) rfl
set_option maxRecDepth 20000 in
theorem kw_t954 : Cond.code yX8_text cX8_text 4 (some .int) ∈ ab_ws := ab_w (List.mem_append_right _ (List.mem_of_getElem? (i := 954) (by decide +kernel))) rfl
set_option maxRecDepth 20000 in
theorem kw_t951 : Cond.methodLink RL 62 yX8_text ∈ ab_ws := ab_w (List.mem_append_right _ (List.mem_of_getElem? (i := 951) (by decide +kernel))) rfl
set_option maxRecDepth 20000 in
theorem kw_t952 : Cond.instanceMethod yX8_text ∈ ab_ws := ab_w (List.mem_append_right _ (List.mem_of_getElem? (i := 952) (by decide +kernel))) rfl
set_option maxRecDepth 20000 in
theorem kw_t953 : Cond.selects "DailyReliefModel" yX8_text yX8_text ∈ ab_ws := ab_w (List.mem_append_right _ (List.mem_of_getElem? (i := 953) (by decide +kernel))) rfl
set_option maxRecDepth 20000 in
theorem kw_t958 : Cond.code yX8_readsText cX8_readsText 1 none ∈ ab_ws := ab_w (List.mem_append_right _ (List.mem_of_getElem? (i := 958) (by decide +kernel))) rfl
set_option maxRecDepth 20000 in
theorem kw_t955 : Cond.methodLink RX8 196 yX8_readsText ∈ ab_ws := ab_w (List.mem_append_right _ (List.mem_of_getElem? (i := 955) (by decide +kernel))) rfl
set_option maxRecDepth 20000 in
theorem kw_t957 : Cond.instanceMethod yX8_readsText ∈ ab_ws := ab_w (List.mem_append_right _ (List.mem_of_getElem? (i := 957) (by decide +kernel))) rfl
set_option maxRecDepth 20000 in
theorem kw_p44 : Cond.selects "DailyReliefModel" yX8_readsText yX8_readsText ∈ ab_ws := ab_w (List.mem_append_left _ (List.mem_of_getElem? (i := 44) (by decide +kernel))) rfl
set_option maxRecDepth 20000 in
theorem kw_t962 : Cond.code yX8_readsAll cX8_readsAll 1 none ∈ ab_ws := ab_w (List.mem_append_right _ (List.mem_of_getElem? (i := 962) (by decide +kernel))) rfl
set_option maxRecDepth 20000 in
theorem kw_t959 : Cond.methodLink RX8 208 yX8_readsAll ∈ ab_ws := ab_w (List.mem_append_right _ (List.mem_of_getElem? (i := 959) (by decide +kernel))) rfl
set_option maxRecDepth 20000 in
theorem kw_t961 : Cond.instanceMethod yX8_readsAll ∈ ab_ws := ab_w (List.mem_append_right _ (List.mem_of_getElem? (i := 961) (by decide +kernel))) rfl
set_option maxRecDepth 20000 in
theorem kw_p45 : Cond.selects "DailyReliefModel" yX8_readsAll yX8_readsAll ∈ ab_ws := ab_w (List.mem_append_left _ (List.mem_of_getElem? (i := 45) (by decide +kernel))) rfl
set_option maxRecDepth 20000 in
theorem kw_t966 : Cond.code yX8_readsComparison cX8_readsComparison 2 none ∈ ab_ws := ab_w (List.mem_append_right _ (List.mem_of_getElem? (i := 966) (by decide +kernel))) rfl
set_option maxRecDepth 20000 in
theorem kw_t963 : Cond.methodLink RX8 205 yX8_readsComparison ∈ ab_ws := ab_w (List.mem_append_right _ (List.mem_of_getElem? (i := 963) (by decide +kernel))) rfl
set_option maxRecDepth 20000 in
theorem kw_t965 : Cond.instanceMethod yX8_readsComparison ∈ ab_ws := ab_w (List.mem_append_right _ (List.mem_of_getElem? (i := 965) (by decide +kernel))) rfl
set_option maxRecDepth 20000 in
theorem kw_p46 : Cond.selects "DailyReliefModel" yX8_readsComparison yX8_readsComparison ∈ ab_ws := ab_w (List.mem_append_left _ (List.mem_of_getElem? (i := 46) (by decide +kernel))) rfl
set_option maxRecDepth 20000 in
theorem kw_t970 : Cond.code yX8_readsSum cX8_readsSum 2 none ∈ ab_ws := ab_w (List.mem_append_right _ (List.mem_of_getElem? (i := 970) (by decide +kernel))) rfl
set_option maxRecDepth 20000 in
theorem kw_t967 : Cond.methodLink RX8 202 yX8_readsSum ∈ ab_ws := ab_w (List.mem_append_right _ (List.mem_of_getElem? (i := 967) (by decide +kernel))) rfl
set_option maxRecDepth 20000 in
theorem kw_t969 : Cond.instanceMethod yX8_readsSum ∈ ab_ws := ab_w (List.mem_append_right _ (List.mem_of_getElem? (i := 969) (by decide +kernel))) rfl
set_option maxRecDepth 20000 in
theorem kw_p47 : Cond.selects "DailyReliefModel" yX8_readsSum yX8_readsSum ∈ ab_ws := ab_w (List.mem_append_left _ (List.mem_of_getElem? (i := 47) (by decide +kernel))) rfl
set_option maxRecDepth 20000 in
theorem kw_t974 : Cond.code yX8_readsProduct cX8_readsProduct 2 none ∈ ab_ws := ab_w (List.mem_append_right _ (List.mem_of_getElem? (i := 974) (by decide +kernel))) rfl
set_option maxRecDepth 20000 in
theorem kw_t971 : Cond.methodLink RX8 199 yX8_readsProduct ∈ ab_ws := ab_w (List.mem_append_right _ (List.mem_of_getElem? (i := 971) (by decide +kernel))) rfl
set_option maxRecDepth 20000 in
theorem kw_t973 : Cond.instanceMethod yX8_readsProduct ∈ ab_ws := ab_w (List.mem_append_right _ (List.mem_of_getElem? (i := 973) (by decide +kernel))) rfl
set_option maxRecDepth 20000 in
theorem kw_p48 : Cond.selects "DailyReliefModel" yX8_readsProduct yX8_readsProduct ∈ ab_ws := ab_w (List.mem_append_left _ (List.mem_of_getElem? (i := 48) (by decide +kernel))) rfl
set_option maxRecDepth 20000 in
theorem kw_t978 : Cond.code yX8_readsOne cX8_readsOne 3 none ∈ ab_ws := ab_w (List.mem_append_right _ (List.mem_of_getElem? (i := 978) (by decide +kernel))) rfl
set_option maxRecDepth 20000 in
theorem kw_t975 : Cond.methodLink RX8 193 yX8_readsOne ∈ ab_ws := ab_w (List.mem_append_right _ (List.mem_of_getElem? (i := 975) (by decide +kernel))) rfl
set_option maxRecDepth 20000 in
theorem kw_t977 : Cond.instanceMethod yX8_readsOne ∈ ab_ws := ab_w (List.mem_append_right _ (List.mem_of_getElem? (i := 977) (by decide +kernel))) rfl
set_option maxRecDepth 20000 in
theorem kw_p49 : Cond.selects "DailyReliefModel" yX8_readsOne yX8_readsOne ∈ ab_ws := ab_w (List.mem_append_left _ (List.mem_of_getElem? (i := 49) (by decide +kernel))) rfl
set_option maxRecDepth 20000 in
theorem kw_t982 : Cond.code yX8_nameHere cX8_nameHere 2 (some .int) ∈ ab_ws := ab_w (List.mem_append_right _ (List.mem_of_getElem? (i := 982) (by decide +kernel))) rfl
set_option maxRecDepth 20000 in
theorem kw_t979 : Cond.methodLink RX8 181 yX8_nameHere ∈ ab_ws := ab_w (List.mem_append_right _ (List.mem_of_getElem? (i := 979) (by decide +kernel))) rfl
set_option maxRecDepth 20000 in
theorem kw_t981 : Cond.instanceMethod yX8_nameHere ∈ ab_ws := ab_w (List.mem_append_right _ (List.mem_of_getElem? (i := 981) (by decide +kernel))) rfl
set_option maxRecDepth 20000 in
theorem kw_p50 : Cond.selects "DailyReliefModel" yX8_nameHere yX8_nameHere ∈ ab_ws := ab_w (List.mem_append_left _ (List.mem_of_getElem? (i := 50) (by decide +kernel))) rfl
set_option maxRecDepth 20000 in
theorem kw_t986 : Cond.code yX8_byteHere cX8_byteHere 1 (some .int) ∈ ab_ws := ab_w (List.mem_append_right _ (List.mem_of_getElem? (i := 986) (by decide +kernel))) rfl
set_option maxRecDepth 20000 in
theorem kw_t983 : Cond.methodLink RX8 159 yX8_byteHere ∈ ab_ws := ab_w (List.mem_append_right _ (List.mem_of_getElem? (i := 983) (by decide +kernel))) rfl
set_option maxRecDepth 20000 in
theorem kw_t985 : Cond.instanceMethod yX8_byteHere ∈ ab_ws := ab_w (List.mem_append_right _ (List.mem_of_getElem? (i := 985) (by decide +kernel))) rfl
set_option maxRecDepth 20000 in
theorem kw_p51 : Cond.selects "DailyReliefModel" yX8_byteHere yX8_byteHere ∈ ab_ws := ab_w (List.mem_append_left _ (List.mem_of_getElem? (i := 51) (by decide +kernel))) rfl
set_option maxRecDepth 20000 in
theorem kw_t990 : Cond.code yX8_isDigitHere cX8_isDigitHere 1 (some .boolean) ∈ ab_ws := ab_w (List.mem_append_right _ (List.mem_of_getElem? (i := 990) (by decide +kernel))) rfl
set_option maxRecDepth 20000 in
theorem kw_t987 : Cond.methodLink RX8 173 yX8_isDigitHere ∈ ab_ws := ab_w (List.mem_append_right _ (List.mem_of_getElem? (i := 987) (by decide +kernel))) rfl
set_option maxRecDepth 20000 in
theorem kw_t989 : Cond.instanceMethod yX8_isDigitHere ∈ ab_ws := ab_w (List.mem_append_right _ (List.mem_of_getElem? (i := 989) (by decide +kernel))) rfl
set_option maxRecDepth 20000 in
theorem kw_p52 : Cond.selects "DailyReliefModel" yX8_isDigitHere yX8_isDigitHere ∈ ab_ws := ab_w (List.mem_append_left _ (List.mem_of_getElem? (i := 52) (by decide +kernel))) rfl
set_option maxRecDepth 20000 in
theorem kw_t996 : Cond.code yX8_readsNumber cX8_readsNumber 3 none ∈ ab_ws := ab_w (List.mem_append_right _ (List.mem_of_getElem? (i := 996) (by decide +kernel))) rfl
set_option maxRecDepth 20000 in
theorem kw_t993 : Cond.methodLink RX8 184 yX8_readsNumber ∈ ab_ws := ab_w (List.mem_append_right _ (List.mem_of_getElem? (i := 993) (by decide +kernel))) rfl
set_option maxRecDepth 20000 in
theorem kw_t995 : Cond.instanceMethod yX8_readsNumber ∈ ab_ws := ab_w (List.mem_append_right _ (List.mem_of_getElem? (i := 995) (by decide +kernel))) rfl
set_option maxRecDepth 20000 in
theorem kw_p53 : Cond.selects "DailyReliefModel" yX8_readsNumber yX8_readsNumber ∈ ab_ws := ab_w (List.mem_append_left _ (List.mem_of_getElem? (i := 53) (by decide +kernel))) rfl
set_option maxRecDepth 20000 in
theorem kw_t1000 : Cond.code yX8_writes cX8_writes 2 none ∈ ab_ws := ab_w (List.mem_append_right _ (List.mem_of_getElem? (i := 1000) (by decide +kernel))) rfl
set_option maxRecDepth 20000 in
theorem kw_t997 : Cond.methodLink RX8 177 yX8_writes ∈ ab_ws := ab_w (List.mem_append_right _ (List.mem_of_getElem? (i := 997) (by decide +kernel))) rfl
set_option maxRecDepth 20000 in
theorem kw_t999 : Cond.instanceMethod yX8_writes ∈ ab_ws := ab_w (List.mem_append_right _ (List.mem_of_getElem? (i := 999) (by decide +kernel))) rfl
set_option maxRecDepth 20000 in
theorem kw_p54 : Cond.selects "DailyReliefModel" yX8_writes yX8_writes ∈ ab_ws := ab_w (List.mem_append_left _ (List.mem_of_getElem? (i := 54) (by decide +kernel))) rfl
set_option maxRecDepth 20000 in
theorem kw_t1004 : Cond.code yX8_isHere cX8_isHere 2 (some .boolean) ∈ ab_ws := ab_w (List.mem_append_right _ (List.mem_of_getElem? (i := 1004) (by decide +kernel))) rfl
set_option maxRecDepth 20000 in
theorem kw_t1001 : Cond.methodLink RX8 187 yX8_isHere ∈ ab_ws := ab_w (List.mem_append_right _ (List.mem_of_getElem? (i := 1001) (by decide +kernel))) rfl
set_option maxRecDepth 20000 in
theorem kw_t1003 : Cond.instanceMethod yX8_isHere ∈ ab_ws := ab_w (List.mem_append_right _ (List.mem_of_getElem? (i := 1003) (by decide +kernel))) rfl
set_option maxRecDepth 20000 in
theorem kw_p55 : Cond.selects "DailyReliefModel" yX8_isHere yX8_isHere ∈ ab_ws := ab_w (List.mem_append_left _ (List.mem_of_getElem? (i := 55) (by decide +kernel))) rfl
set_option maxRecDepth 20000 in
theorem kw_t1008 : Cond.code yX8_untell cX8_untell 3 (some .int) ∈ ab_ws := ab_w (List.mem_append_right _ (List.mem_of_getElem? (i := 1008) (by decide +kernel))) rfl
set_option maxRecDepth 20000 in
theorem kw_t1005 : Cond.methodLink RL 66 yX8_untell ∈ ab_ws := ab_w (List.mem_append_right _ (List.mem_of_getElem? (i := 1005) (by decide +kernel))) rfl
set_option maxRecDepth 20000 in
theorem kw_t1006 : Cond.instanceMethod yX8_untell ∈ ab_ws := ab_w (List.mem_append_right _ (List.mem_of_getElem? (i := 1006) (by decide +kernel))) rfl
set_option maxRecDepth 20000 in
theorem kw_t1007 : Cond.selects "DailyReliefModel" yX8_untell yX8_untell ∈ ab_ws := ab_w (List.mem_append_right _ (List.mem_of_getElem? (i := 1007) (by decide +kernel))) rfl
set_option maxRecDepth 20000 in
theorem kw_t1012 : Cond.code yX8_days cX8_days 3 (some .int) ∈ ab_ws := ab_w (List.mem_append_right _ (List.mem_of_getElem? (i := 1012) (by decide +kernel))) rfl
set_option maxRecDepth 20000 in
theorem kw_t1009 : Cond.methodLink RL 70 yX8_days ∈ ab_ws := ab_w (List.mem_append_right _ (List.mem_of_getElem? (i := 1009) (by decide +kernel))) rfl
set_option maxRecDepth 20000 in
theorem kw_t1010 : Cond.instanceMethod yX8_days ∈ ab_ws := ab_w (List.mem_append_right _ (List.mem_of_getElem? (i := 1010) (by decide +kernel))) rfl
set_option maxRecDepth 20000 in
theorem kw_t1011 : Cond.selects "DailyReliefModel" yX8_days yX8_days ∈ ab_ws := ab_w (List.mem_append_right _ (List.mem_of_getElem? (i := 1011) (by decide +kernel))) rfl
set_option maxRecDepth 20000 in
theorem kw_t1016 : Cond.code yX8_daysWrong cX8_daysWrong 2 (some .int) ∈ ab_ws := ab_w (List.mem_append_right _ (List.mem_of_getElem? (i := 1016) (by decide +kernel))) rfl
set_option maxRecDepth 20000 in
theorem kw_t1013 : Cond.methodLink RX8 248 yX8_daysWrong ∈ ab_ws := ab_w (List.mem_append_right _ (List.mem_of_getElem? (i := 1013) (by decide +kernel))) rfl
set_option maxRecDepth 20000 in
theorem kw_t1015 : Cond.instanceMethod yX8_daysWrong ∈ ab_ws := ab_w (List.mem_append_right _ (List.mem_of_getElem? (i := 1015) (by decide +kernel))) rfl
set_option maxRecDepth 20000 in
theorem kw_p56 : Cond.selects "DailyReliefModel" yX8_daysWrong yX8_daysWrong ∈ ab_ws := ab_w (List.mem_append_left _ (List.mem_of_getElem? (i := 56) (by decide +kernel))) rfl
set_option maxRecDepth 20000 in
theorem kw_t1019 : Cond.code yX8_isSpan cX8_isSpan 1 (some .boolean) ∈ ab_ws := ab_w (List.mem_append_right _ (List.mem_of_getElem? (i := 1019) (by decide +kernel))) rfl
set_option maxRecDepth 20000 in
theorem kw_t1017 : Cond.methodLink RX8 244 yX8_isSpan ∈ ab_ws := ab_w (List.mem_append_right _ (List.mem_of_getElem? (i := 1017) (by decide +kernel))) rfl
set_option maxRecDepth 20000 in
theorem kw_t1018 : Cond.static yX8_isSpan ∈ ab_ws := ab_w (List.mem_append_right _ (List.mem_of_getElem? (i := 1018) (by decide +kernel))) rfl
set_option maxRecDepth 20000 in
theorem kw_t1025 : Cond.code yX8_daysGo cX8_daysGo 4 none ∈ ab_ws := ab_w (List.mem_append_right _ (List.mem_of_getElem? (i := 1025) (by decide +kernel))) rfl
set_option maxRecDepth 20000 in
theorem kw_t1022 : Cond.methodLink RX8 251 yX8_daysGo ∈ ab_ws := ab_w (List.mem_append_right _ (List.mem_of_getElem? (i := 1022) (by decide +kernel))) rfl
set_option maxRecDepth 20000 in
theorem kw_t1024 : Cond.instanceMethod yX8_daysGo ∈ ab_ws := ab_w (List.mem_append_right _ (List.mem_of_getElem? (i := 1024) (by decide +kernel))) rfl
set_option maxRecDepth 20000 in
theorem kw_p57 : Cond.selects "DailyReliefModel" yX8_daysGo yX8_daysGo ∈ ab_ws := ab_w (List.mem_append_left _ (List.mem_of_getElem? (i := 57) (by decide +kernel))) rfl
set_option maxRecDepth 20000 in
theorem kw_t1029 : Cond.code yX8_day cX8_day 4 none ∈ ab_ws := ab_w (List.mem_append_right _ (List.mem_of_getElem? (i := 1029) (by decide +kernel))) rfl
set_option maxRecDepth 20000 in
theorem kw_t1026 : Cond.methodLink RX8 238 yX8_day ∈ ab_ws := ab_w (List.mem_append_right _ (List.mem_of_getElem? (i := 1026) (by decide +kernel))) rfl
set_option maxRecDepth 20000 in
theorem kw_t1028 : Cond.instanceMethod yX8_day ∈ ab_ws := ab_w (List.mem_append_right _ (List.mem_of_getElem? (i := 1028) (by decide +kernel))) rfl
set_option maxRecDepth 20000 in
theorem kw_p58 : Cond.selects "DailyReliefModel" yX8_day yX8_day ∈ ab_ws := ab_w (List.mem_append_left _ (List.mem_of_getElem? (i := 58) (by decide +kernel))) rfl
set_option maxRecDepth 20000 in
theorem kw_t1033 : Cond.code yX8_relieves cX8_relieves 2 none ∈ ab_ws := ab_w (List.mem_append_right _ (List.mem_of_getElem? (i := 1033) (by decide +kernel))) rfl
set_option maxRecDepth 20000 in
theorem kw_t1030 : Cond.methodLink RX8 230 yX8_relieves ∈ ab_ws := ab_w (List.mem_append_right _ (List.mem_of_getElem? (i := 1030) (by decide +kernel))) rfl
set_option maxRecDepth 20000 in
theorem kw_t1032 : Cond.instanceMethod yX8_relieves ∈ ab_ws := ab_w (List.mem_append_right _ (List.mem_of_getElem? (i := 1032) (by decide +kernel))) rfl
set_option maxRecDepth 20000 in
theorem kw_p59 : Cond.selects "DailyReliefModel" yX8_relieves yX8_relieves ∈ ab_ws := ab_w (List.mem_append_left _ (List.mem_of_getElem? (i := 59) (by decide +kernel))) rfl
set_option maxRecDepth 20000 in
theorem kw_t1037 : Cond.code yX8_isStaying cX8_isStaying 2 (some .boolean) ∈ ab_ws := ab_w (List.mem_append_right _ (List.mem_of_getElem? (i := 1037) (by decide +kernel))) rfl
set_option maxRecDepth 20000 in
theorem kw_t1034 : Cond.methodLink RX8 212 yX8_isStaying ∈ ab_ws := ab_w (List.mem_append_right _ (List.mem_of_getElem? (i := 1034) (by decide +kernel))) rfl
set_option maxRecDepth 20000 in
theorem kw_t1036 : Cond.instanceMethod yX8_isStaying ∈ ab_ws := ab_w (List.mem_append_right _ (List.mem_of_getElem? (i := 1036) (by decide +kernel))) rfl
set_option maxRecDepth 20000 in
theorem kw_p60 : Cond.selects "DailyReliefModel" yX8_isStaying yX8_isStaying ∈ ab_ws := ab_w (List.mem_append_left _ (List.mem_of_getElem? (i := 60) (by decide +kernel))) rfl
set_option maxRecDepth 20000 in
theorem kw_t1041 : Cond.code yX8_lesson cX8_lesson 6 none ∈ ab_ws := ab_w (List.mem_append_right _ (List.mem_of_getElem? (i := 1041) (by decide +kernel))) rfl
set_option maxRecDepth 20000 in
theorem kw_t1038 : Cond.methodLink RX8 233 yX8_lesson ∈ ab_ws := ab_w (List.mem_append_right _ (List.mem_of_getElem? (i := 1038) (by decide +kernel))) rfl
set_option maxRecDepth 20000 in
theorem kw_t1040 : Cond.instanceMethod yX8_lesson ∈ ab_ws := ab_w (List.mem_append_right _ (List.mem_of_getElem? (i := 1040) (by decide +kernel))) rfl
set_option maxRecDepth 20000 in
theorem kw_p61 : Cond.selects "DailyReliefModel" yX8_lesson yX8_lesson ∈ ab_ws := ab_w (List.mem_append_left _ (List.mem_of_getElem? (i := 61) (by decide +kernel))) rfl
set_option maxRecDepth 20000 in
theorem kw_t1045 : Cond.code yX8_isMute cX8_isMute 2 (some .boolean) ∈ ab_ws := ab_w (List.mem_append_right _ (List.mem_of_getElem? (i := 1045) (by decide +kernel))) rfl
set_option maxRecDepth 20000 in
theorem kw_t1042 : Cond.methodLink RX8 218 yX8_isMute ∈ ab_ws := ab_w (List.mem_append_right _ (List.mem_of_getElem? (i := 1042) (by decide +kernel))) rfl
set_option maxRecDepth 20000 in
theorem kw_t1044 : Cond.instanceMethod yX8_isMute ∈ ab_ws := ab_w (List.mem_append_right _ (List.mem_of_getElem? (i := 1044) (by decide +kernel))) rfl
set_option maxRecDepth 20000 in
theorem kw_p62 : Cond.selects "DailyReliefModel" yX8_isMute yX8_isMute ∈ ab_ws := ab_w (List.mem_append_left _ (List.mem_of_getElem? (i := 62) (by decide +kernel))) rfl
set_option maxRecDepth 20000 in
theorem kw_t1049 : Cond.code yX8_tells cX8_tells 5 (some .int) ∈ ab_ws := ab_w (List.mem_append_right _ (List.mem_of_getElem? (i := 1049) (by decide +kernel))) rfl
set_option maxRecDepth 20000 in
theorem kw_t1046 : Cond.methodLink RX8 221 yX8_tells ∈ ab_ws := ab_w (List.mem_append_right _ (List.mem_of_getElem? (i := 1046) (by decide +kernel))) rfl
set_option maxRecDepth 20000 in
theorem kw_t1048 : Cond.instanceMethod yX8_tells ∈ ab_ws := ab_w (List.mem_append_right _ (List.mem_of_getElem? (i := 1048) (by decide +kernel))) rfl
set_option maxRecDepth 20000 in
theorem kw_p63 : Cond.selects "DailyReliefModel" yX8_tells yX8_tells ∈ ab_ws := ab_w (List.mem_append_left _ (List.mem_of_getElem? (i := 63) (by decide +kernel))) rfl
set_option maxRecDepth 20000 in
theorem kw_t1053 : Cond.code yX8_draw cX8_draw 1 (some .int) ∈ ab_ws := ab_w (List.mem_append_right _ (List.mem_of_getElem? (i := 1053) (by decide +kernel))) rfl
set_option maxRecDepth 20000 in
theorem kw_t1050 : Cond.methodLink RX8 224 yX8_draw ∈ ab_ws := ab_w (List.mem_append_right _ (List.mem_of_getElem? (i := 1050) (by decide +kernel))) rfl
set_option maxRecDepth 20000 in
theorem kw_t1052 : Cond.instanceMethod yX8_draw ∈ ab_ws := ab_w (List.mem_append_right _ (List.mem_of_getElem? (i := 1052) (by decide +kernel))) rfl
set_option maxRecDepth 20000 in
theorem kw_p64 : Cond.selects "DailyReliefModel" yX8_draw yX8_draw ∈ ab_ws := ab_w (List.mem_append_left _ (List.mem_of_getElem? (i := 64) (by decide +kernel))) rfl
set_option maxRecDepth 20000 in
theorem kw_t1059 : Cond.code yX8_draws cX8_draws 3 (some .int) ∈ ab_ws := ab_w (List.mem_append_right _ (List.mem_of_getElem? (i := 1059) (by decide +kernel))) rfl
set_option maxRecDepth 20000 in
theorem kw_t1056 : Cond.methodLink RL 74 yX8_draws ∈ ab_ws := ab_w (List.mem_append_right _ (List.mem_of_getElem? (i := 1056) (by decide +kernel))) rfl
set_option maxRecDepth 20000 in
theorem kw_t1057 : Cond.instanceMethod yX8_draws ∈ ab_ws := ab_w (List.mem_append_right _ (List.mem_of_getElem? (i := 1057) (by decide +kernel))) rfl
set_option maxRecDepth 20000 in
theorem kw_t1058 : Cond.selects "DailyReliefModel" yX8_draws yX8_draws ∈ ab_ws := ab_w (List.mem_append_right _ (List.mem_of_getElem? (i := 1058) (by decide +kernel))) rfl
set_option maxRecDepth 20000 in
theorem kw_t1063 : Cond.code yX8_misheard cX8_misheard 3 (some .int) ∈ ab_ws := ab_w (List.mem_append_right _ (List.mem_of_getElem? (i := 1063) (by decide +kernel))) rfl
set_option maxRecDepth 20000 in
theorem kw_t1060 : Cond.methodLink RL 78 yX8_misheard ∈ ab_ws := ab_w (List.mem_append_right _ (List.mem_of_getElem? (i := 1060) (by decide +kernel))) rfl
set_option maxRecDepth 20000 in
theorem kw_t1061 : Cond.instanceMethod yX8_misheard ∈ ab_ws := ab_w (List.mem_append_right _ (List.mem_of_getElem? (i := 1061) (by decide +kernel))) rfl
set_option maxRecDepth 20000 in
theorem kw_t1062 : Cond.selects "DailyReliefModel" yX8_misheard yX8_misheard ∈ ab_ws := ab_w (List.mem_append_right _ (List.mem_of_getElem? (i := 1062) (by decide +kernel))) rfl
set_option maxRecDepth 20000 in
theorem kw_t1068 : Cond.code yX8_seed cX8_seed 3 (some .int) ∈ ab_ws := ab_w (List.mem_append_right _ (List.mem_of_getElem? (i := 1068) (by decide +kernel))) rfl
set_option maxRecDepth 20000 in
theorem kw_t1065 : Cond.methodLink RL 82 yX8_seed ∈ ab_ws := ab_w (List.mem_append_right _ (List.mem_of_getElem? (i := 1065) (by decide +kernel))) rfl
set_option maxRecDepth 20000 in
theorem kw_t1066 : Cond.instanceMethod yX8_seed ∈ ab_ws := ab_w (List.mem_append_right _ (List.mem_of_getElem? (i := 1066) (by decide +kernel))) rfl
set_option maxRecDepth 20000 in
theorem kw_t1067 : Cond.selects "DailyReliefModel" yX8_seed yX8_seed ∈ ab_ws := ab_w (List.mem_append_right _ (List.mem_of_getElem? (i := 1067) (by decide +kernel))) rfl
set_option maxRecDepth 20000 in
theorem kw_t1072 : Cond.code yX8_then cX8_then 5 (some .int) ∈ ab_ws := ab_w (List.mem_append_right _ (List.mem_of_getElem? (i := 1072) (by decide +kernel))) rfl
set_option maxRecDepth 20000 in
theorem kw_t1069 : Cond.methodLink RL 86 yX8_then ∈ ab_ws := ab_w (List.mem_append_right _ (List.mem_of_getElem? (i := 1069) (by decide +kernel))) rfl
set_option maxRecDepth 20000 in
theorem kw_t1070 : Cond.instanceMethod yX8_then ∈ ab_ws := ab_w (List.mem_append_right _ (List.mem_of_getElem? (i := 1070) (by decide +kernel))) rfl
set_option maxRecDepth 20000 in
theorem kw_t1071 : Cond.selects "DailyReliefModel" yX8_then yX8_then ∈ ab_ws := ab_w (List.mem_append_right _ (List.mem_of_getElem? (i := 1071) (by decide +kernel))) rfl
set_option maxRecDepth 20000 in
theorem kw_t1076 : Cond.code yX8_keepsAside cX8_keepsAside 2 none ∈ ab_ws := ab_w (List.mem_append_right _ (List.mem_of_getElem? (i := 1076) (by decide +kernel))) rfl
set_option maxRecDepth 20000 in
theorem kw_t1073 : Cond.methodLink RX8 256 yX8_keepsAside ∈ ab_ws := ab_w (List.mem_append_right _ (List.mem_of_getElem? (i := 1073) (by decide +kernel))) rfl
set_option maxRecDepth 20000 in
theorem kw_t1075 : Cond.instanceMethod yX8_keepsAside ∈ ab_ws := ab_w (List.mem_append_right _ (List.mem_of_getElem? (i := 1075) (by decide +kernel))) rfl
set_option maxRecDepth 20000 in
theorem kw_p65 : Cond.selects "DailyReliefModel" yX8_keepsAside yX8_keepsAside ∈ ab_ws := ab_w (List.mem_append_left _ (List.mem_of_getElem? (i := 65) (by decide +kernel))) rfl
set_option maxRecDepth 20000 in
theorem kw_t1080 : Cond.code yX8_putsBack cX8_putsBack 2 none ∈ ab_ws := ab_w (List.mem_append_right _ (List.mem_of_getElem? (i := 1080) (by decide +kernel))) rfl
set_option maxRecDepth 20000 in
theorem kw_t1077 : Cond.methodLink RX8 259 yX8_putsBack ∈ ab_ws := ab_w (List.mem_append_right _ (List.mem_of_getElem? (i := 1077) (by decide +kernel))) rfl
set_option maxRecDepth 20000 in
theorem kw_t1079 : Cond.instanceMethod yX8_putsBack ∈ ab_ws := ab_w (List.mem_append_right _ (List.mem_of_getElem? (i := 1079) (by decide +kernel))) rfl
set_option maxRecDepth 20000 in
theorem kw_p66 : Cond.selects "DailyReliefModel" yX8_putsBack yX8_putsBack ∈ ab_ws := ab_w (List.mem_append_left _ (List.mem_of_getElem? (i := 66) (by decide +kernel))) rfl
set_option maxRecDepth 20000 in
theorem kw_t1084 : Cond.code yX8_thenTask cX8_thenTask 5 (some .int) ∈ ab_ws := ab_w (List.mem_append_right _ (List.mem_of_getElem? (i := 1084) (by decide +kernel))) rfl
set_option maxRecDepth 20000 in
theorem kw_t1081 : Cond.methodLink RL 90 yX8_thenTask ∈ ab_ws := ab_w (List.mem_append_right _ (List.mem_of_getElem? (i := 1081) (by decide +kernel))) rfl
set_option maxRecDepth 20000 in
theorem kw_t1082 : Cond.instanceMethod yX8_thenTask ∈ ab_ws := ab_w (List.mem_append_right _ (List.mem_of_getElem? (i := 1082) (by decide +kernel))) rfl
set_option maxRecDepth 20000 in
theorem kw_t1083 : Cond.selects "DailyReliefModel" yX8_thenTask yX8_thenTask ∈ ab_ws := ab_w (List.mem_append_right _ (List.mem_of_getElem? (i := 1083) (by decide +kernel))) rfl
set_option maxRecDepth 20000 in
theorem kw_t1088 : Cond.code yX8_lost cX8_lost 4 (some .int) ∈ ab_ws := ab_w (List.mem_append_right _ (List.mem_of_getElem? (i := 1088) (by decide +kernel))) rfl
set_option maxRecDepth 20000 in
theorem kw_t1085 : Cond.methodLink RL 94 yX8_lost ∈ ab_ws := ab_w (List.mem_append_right _ (List.mem_of_getElem? (i := 1085) (by decide +kernel))) rfl
set_option maxRecDepth 20000 in
theorem kw_t1086 : Cond.instanceMethod yX8_lost ∈ ab_ws := ab_w (List.mem_append_right _ (List.mem_of_getElem? (i := 1086) (by decide +kernel))) rfl
set_option maxRecDepth 20000 in
theorem kw_t1087 : Cond.selects "DailyReliefModel" yX8_lost yX8_lost ∈ ab_ws := ab_w (List.mem_append_right _ (List.mem_of_getElem? (i := 1087) (by decide +kernel))) rfl
set_option maxRecDepth 20000 in
theorem kw_t1093 : Cond.code yX8_teachers cX8_teachers 6 (some .int) ∈ ab_ws := ab_w (List.mem_append_right _ (List.mem_of_getElem? (i := 1093) (by decide +kernel))) rfl
set_option maxRecDepth 20000 in
theorem kw_t1090 : Cond.methodLink RL 98 yX8_teachers ∈ ab_ws := ab_w (List.mem_append_right _ (List.mem_of_getElem? (i := 1090) (by decide +kernel))) rfl
set_option maxRecDepth 20000 in
theorem kw_t1091 : Cond.instanceMethod yX8_teachers ∈ ab_ws := ab_w (List.mem_append_right _ (List.mem_of_getElem? (i := 1091) (by decide +kernel))) rfl
set_option maxRecDepth 20000 in
theorem kw_t1092 : Cond.selects "DailyReliefModel" yX8_teachers yX8_teachers ∈ ab_ws := ab_w (List.mem_append_right _ (List.mem_of_getElem? (i := 1092) (by decide +kernel))) rfl
set_option maxRecDepth 20000 in
theorem kw_t1098 : Cond.code yX8_isKept cX8_isKept 6 (some .boolean) ∈ ab_ws := ab_w (List.mem_append_right _ (List.mem_of_getElem? (i := 1098) (by decide +kernel))) rfl
set_option maxRecDepth 20000 in
theorem kw_t1095 : Cond.methodLink RX8 265 yX8_isKept ∈ ab_ws := ab_w (List.mem_append_right _ (List.mem_of_getElem? (i := 1095) (by decide +kernel))) rfl
set_option maxRecDepth 20000 in
theorem kw_t1097 : Cond.instanceMethod yX8_isKept ∈ ab_ws := ab_w (List.mem_append_right _ (List.mem_of_getElem? (i := 1097) (by decide +kernel))) rfl
set_option maxRecDepth 20000 in
theorem kw_p67 : Cond.selects "DailyReliefModel" yX8_isKept yX8_isKept ∈ ab_ws := ab_w (List.mem_append_left _ (List.mem_of_getElem? (i := 67) (by decide +kernel))) rfl
set_option maxRecDepth 20000 in
theorem kw_t1102 : Cond.code yX8_storm cX8_storm 6 (some .int) ∈ ab_ws := ab_w (List.mem_append_right _ (List.mem_of_getElem? (i := 1102) (by decide +kernel))) rfl
set_option maxRecDepth 20000 in
theorem kw_t1099 : Cond.methodLink RL 102 yX8_storm ∈ ab_ws := ab_w (List.mem_append_right _ (List.mem_of_getElem? (i := 1099) (by decide +kernel))) rfl
set_option maxRecDepth 20000 in
theorem kw_t1100 : Cond.instanceMethod yX8_storm ∈ ab_ws := ab_w (List.mem_append_right _ (List.mem_of_getElem? (i := 1100) (by decide +kernel))) rfl
set_option maxRecDepth 20000 in
theorem kw_t1101 : Cond.selects "DailyReliefModel" yX8_storm yX8_storm ∈ ab_ws := ab_w (List.mem_append_right _ (List.mem_of_getElem? (i := 1101) (by decide +kernel))) rfl
set_option maxRecDepth 20000 in
theorem kw_t1106 : Cond.code yX8_isDoneWithout cX8_isDoneWithout 7 (some .boolean) ∈ ab_ws := ab_w (List.mem_append_right _ (List.mem_of_getElem? (i := 1106) (by decide +kernel))) rfl
set_option maxRecDepth 20000 in
theorem kw_t1103 : Cond.methodLink RX8 269 yX8_isDoneWithout ∈ ab_ws := ab_w (List.mem_append_right _ (List.mem_of_getElem? (i := 1103) (by decide +kernel))) rfl
set_option maxRecDepth 20000 in
theorem kw_t1105 : Cond.instanceMethod yX8_isDoneWithout ∈ ab_ws := ab_w (List.mem_append_right _ (List.mem_of_getElem? (i := 1105) (by decide +kernel))) rfl
set_option maxRecDepth 20000 in
theorem kw_p68 : Cond.selects "DailyReliefModel" yX8_isDoneWithout yX8_isDoneWithout ∈ ab_ws := ab_w (List.mem_append_left _ (List.mem_of_getElem? (i := 68) (by decide +kernel))) rfl
set_option maxRecDepth 20000 in
theorem kw_t1110 : Cond.code yX8_saves cX8_saves 4 (some .int) ∈ ab_ws := ab_w (List.mem_append_right _ (List.mem_of_getElem? (i := 1110) (by decide +kernel))) rfl
set_option maxRecDepth 20000 in
theorem kw_t1107 : Cond.methodLink RL 106 yX8_saves ∈ ab_ws := ab_w (List.mem_append_right _ (List.mem_of_getElem? (i := 1107) (by decide +kernel))) rfl
set_option maxRecDepth 20000 in
theorem kw_t1108 : Cond.instanceMethod yX8_saves ∈ ab_ws := ab_w (List.mem_append_right _ (List.mem_of_getElem? (i := 1108) (by decide +kernel))) rfl
set_option maxRecDepth 20000 in
theorem kw_t1109 : Cond.selects "DailyReliefModel" yX8_saves yX8_saves ∈ ab_ws := ab_w (List.mem_append_right _ (List.mem_of_getElem? (i := 1109) (by decide +kernel))) rfl
set_option maxRecDepth 20000 in
theorem kw_t1114 : Cond.code yX8_doneIn cX8_doneIn 5 (some .int) ∈ ab_ws := ab_w (List.mem_append_right _ (List.mem_of_getElem? (i := 1114) (by decide +kernel))) rfl
set_option maxRecDepth 20000 in
theorem kw_t1111 : Cond.methodLink RX8 272 yX8_doneIn ∈ ab_ws := ab_w (List.mem_append_right _ (List.mem_of_getElem? (i := 1111) (by decide +kernel))) rfl
set_option maxRecDepth 20000 in
theorem kw_t1113 : Cond.instanceMethod yX8_doneIn ∈ ab_ws := ab_w (List.mem_append_right _ (List.mem_of_getElem? (i := 1113) (by decide +kernel))) rfl
set_option maxRecDepth 20000 in
theorem kw_p69 : Cond.selects "DailyReliefModel" yX8_doneIn yX8_doneIn ∈ ab_ws := ab_w (List.mem_append_left _ (List.mem_of_getElem? (i := 69) (by decide +kernel))) rfl
set_option maxRecDepth 20000 in
theorem kw_t1118 : Cond.code yX8_changes cX8_changes 6 (some .int) ∈ ab_ws := ab_w (List.mem_append_right _ (List.mem_of_getElem? (i := 1118) (by decide +kernel))) rfl
set_option maxRecDepth 20000 in
theorem kw_t1115 : Cond.methodLink RL 110 yX8_changes ∈ ab_ws := ab_w (List.mem_append_right _ (List.mem_of_getElem? (i := 1115) (by decide +kernel))) rfl
set_option maxRecDepth 20000 in
theorem kw_t1116 : Cond.instanceMethod yX8_changes ∈ ab_ws := ab_w (List.mem_append_right _ (List.mem_of_getElem? (i := 1116) (by decide +kernel))) rfl
set_option maxRecDepth 20000 in
theorem kw_t1117 : Cond.selects "DailyReliefModel" yX8_changes yX8_changes ∈ ab_ws := ab_w (List.mem_append_right _ (List.mem_of_getElem? (i := 1117) (by decide +kernel))) rfl
set_option maxRecDepth 20000 in
theorem kw_t1121 : Cond.code yX8_isVersion cX8_isVersion 1 (some .boolean) ∈ ab_ws := ab_w (List.mem_append_right _ (List.mem_of_getElem? (i := 1121) (by decide +kernel))) rfl
set_option maxRecDepth 20000 in
theorem kw_t1119 : Cond.methodLink RX8 275 yX8_isVersion ∈ ab_ws := ab_w (List.mem_append_right _ (List.mem_of_getElem? (i := 1119) (by decide +kernel))) rfl
set_option maxRecDepth 20000 in
theorem kw_t1120 : Cond.static yX8_isVersion ∈ ab_ws := ab_w (List.mem_append_right _ (List.mem_of_getElem? (i := 1120) (by decide +kernel))) rfl
set_option maxRecDepth 20000 in
theorem kw_t1125 : Cond.code yX8_began cX8_began 7 (some .int) ∈ ab_ws := ab_w (List.mem_append_right _ (List.mem_of_getElem? (i := 1125) (by decide +kernel))) rfl
set_option maxRecDepth 20000 in
theorem kw_t1122 : Cond.methodLink RL 114 yX8_began ∈ ab_ws := ab_w (List.mem_append_right _ (List.mem_of_getElem? (i := 1122) (by decide +kernel))) rfl
set_option maxRecDepth 20000 in
theorem kw_t1123 : Cond.instanceMethod yX8_began ∈ ab_ws := ab_w (List.mem_append_right _ (List.mem_of_getElem? (i := 1123) (by decide +kernel))) rfl
set_option maxRecDepth 20000 in
theorem kw_t1124 : Cond.selects "DailyReliefModel" yX8_began yX8_began ∈ ab_ws := ab_w (List.mem_append_right _ (List.mem_of_getElem? (i := 1124) (by decide +kernel))) rfl
set_option maxRecDepth 20000 in
theorem kw_t1129 : Cond.code yX8_handed cX8_handed 4 (some .int) ∈ ab_ws := ab_w (List.mem_append_right _ (List.mem_of_getElem? (i := 1129) (by decide +kernel))) rfl
set_option maxRecDepth 20000 in
theorem kw_t1126 : Cond.methodLink RL 118 yX8_handed ∈ ab_ws := ab_w (List.mem_append_right _ (List.mem_of_getElem? (i := 1126) (by decide +kernel))) rfl
set_option maxRecDepth 20000 in
theorem kw_t1127 : Cond.instanceMethod yX8_handed ∈ ab_ws := ab_w (List.mem_append_right _ (List.mem_of_getElem? (i := 1127) (by decide +kernel))) rfl
set_option maxRecDepth 20000 in
theorem kw_t1128 : Cond.selects "DailyReliefModel" yX8_handed yX8_handed ∈ ab_ws := ab_w (List.mem_append_right _ (List.mem_of_getElem? (i := 1128) (by decide +kernel))) rfl
set_option maxRecDepth 20000 in
theorem kw_t1133 : Cond.code yX8_wages cX8_wages 5 (some .int) ∈ ab_ws := ab_w (List.mem_append_right _ (List.mem_of_getElem? (i := 1133) (by decide +kernel))) rfl
set_option maxRecDepth 20000 in
theorem kw_t1130 : Cond.methodLink RL 122 yX8_wages ∈ ab_ws := ab_w (List.mem_append_right _ (List.mem_of_getElem? (i := 1130) (by decide +kernel))) rfl
set_option maxRecDepth 20000 in
theorem kw_t1131 : Cond.instanceMethod yX8_wages ∈ ab_ws := ab_w (List.mem_append_right _ (List.mem_of_getElem? (i := 1131) (by decide +kernel))) rfl
set_option maxRecDepth 20000 in
theorem kw_t1132 : Cond.selects "DailyReliefModel" yX8_wages yX8_wages ∈ ab_ws := ab_w (List.mem_append_right _ (List.mem_of_getElem? (i := 1132) (by decide +kernel))) rfl
set_option maxRecDepth 20000 in
theorem kw_t1137 : Cond.code yX8_voice cX8_voice 5 (some .int) ∈ ab_ws := ab_w (List.mem_append_right _ (List.mem_of_getElem? (i := 1137) (by decide +kernel))) rfl
set_option maxRecDepth 20000 in
theorem kw_t1134 : Cond.methodLink RL 126 yX8_voice ∈ ab_ws := ab_w (List.mem_append_right _ (List.mem_of_getElem? (i := 1134) (by decide +kernel))) rfl
set_option maxRecDepth 20000 in
theorem kw_t1135 : Cond.instanceMethod yX8_voice ∈ ab_ws := ab_w (List.mem_append_right _ (List.mem_of_getElem? (i := 1135) (by decide +kernel))) rfl
set_option maxRecDepth 20000 in
theorem kw_t1136 : Cond.selects "DailyReliefModel" yX8_voice yX8_voice ∈ ab_ws := ab_w (List.mem_append_right _ (List.mem_of_getElem? (i := 1136) (by decide +kernel))) rfl
set_option maxRecDepth 20000 in
theorem kw_t1141 : Cond.code yX8_hearing cX8_hearing 4 (some .int) ∈ ab_ws := ab_w (List.mem_append_right _ (List.mem_of_getElem? (i := 1141) (by decide +kernel))) rfl
set_option maxRecDepth 20000 in
theorem kw_t1138 : Cond.methodLink RX8 287 yX8_hearing ∈ ab_ws := ab_w (List.mem_append_right _ (List.mem_of_getElem? (i := 1138) (by decide +kernel))) rfl
set_option maxRecDepth 20000 in
theorem kw_t1140 : Cond.instanceMethod yX8_hearing ∈ ab_ws := ab_w (List.mem_append_right _ (List.mem_of_getElem? (i := 1140) (by decide +kernel))) rfl
set_option maxRecDepth 20000 in
theorem kw_p70 : Cond.selects "DailyReliefModel" yX8_hearing yX8_hearing ∈ ab_ws := ab_w (List.mem_append_left _ (List.mem_of_getElem? (i := 70) (by decide +kernel))) rfl
set_option maxRecDepth 20000 in
theorem kw_t1145 : Cond.code yX8_runs cX8_runs 2 none ∈ ab_ws := ab_w (List.mem_append_right _ (List.mem_of_getElem? (i := 1145) (by decide +kernel))) rfl
set_option maxRecDepth 20000 in
theorem kw_t1142 : Cond.methodLink RX8 284 yX8_runs ∈ ab_ws := ab_w (List.mem_append_right _ (List.mem_of_getElem? (i := 1142) (by decide +kernel))) rfl
set_option maxRecDepth 20000 in
theorem kw_t1144 : Cond.instanceMethod yX8_runs ∈ ab_ws := ab_w (List.mem_append_right _ (List.mem_of_getElem? (i := 1144) (by decide +kernel))) rfl
set_option maxRecDepth 20000 in
theorem kw_p71 : Cond.selects "DailyReliefModel" yX8_runs yX8_runs ∈ ab_ws := ab_w (List.mem_append_left _ (List.mem_of_getElem? (i := 71) (by decide +kernel))) rfl
set_option maxRecDepth 20000 in
theorem kw_t1149 : Cond.code yX8_telling cX8_telling 4 (some .int) ∈ ab_ws := ab_w (List.mem_append_right _ (List.mem_of_getElem? (i := 1149) (by decide +kernel))) rfl
set_option maxRecDepth 20000 in
theorem kw_t1146 : Cond.methodLink RX8 290 yX8_telling ∈ ab_ws := ab_w (List.mem_append_right _ (List.mem_of_getElem? (i := 1146) (by decide +kernel))) rfl
set_option maxRecDepth 20000 in
theorem kw_t1148 : Cond.instanceMethod yX8_telling ∈ ab_ws := ab_w (List.mem_append_right _ (List.mem_of_getElem? (i := 1148) (by decide +kernel))) rfl
set_option maxRecDepth 20000 in
theorem kw_p72 : Cond.selects "DailyReliefModel" yX8_telling yX8_telling ∈ ab_ws := ab_w (List.mem_append_left _ (List.mem_of_getElem? (i := 72) (by decide +kernel))) rfl
set_option maxRecDepth 20000 in
theorem kw_t1153 : Cond.code yX8_bunking cX8_bunking 4 (some .int) ∈ ab_ws := ab_w (List.mem_append_right _ (List.mem_of_getElem? (i := 1153) (by decide +kernel))) rfl
set_option maxRecDepth 20000 in
theorem kw_t1150 : Cond.methodLink RX8 296 yX8_bunking ∈ ab_ws := ab_w (List.mem_append_right _ (List.mem_of_getElem? (i := 1150) (by decide +kernel))) rfl
set_option maxRecDepth 20000 in
theorem kw_t1152 : Cond.instanceMethod yX8_bunking ∈ ab_ws := ab_w (List.mem_append_right _ (List.mem_of_getElem? (i := 1152) (by decide +kernel))) rfl
set_option maxRecDepth 20000 in
theorem kw_p73 : Cond.selects "DailyReliefModel" yX8_bunking yX8_bunking ∈ ab_ws := ab_w (List.mem_append_left _ (List.mem_of_getElem? (i := 73) (by decide +kernel))) rfl
set_option maxRecDepth 20000 in
theorem kw_t1157 : Cond.code yX8_parting cX8_parting 5 (some .int) ∈ ab_ws := ab_w (List.mem_append_right _ (List.mem_of_getElem? (i := 1157) (by decide +kernel))) rfl
set_option maxRecDepth 20000 in
theorem kw_t1154 : Cond.methodLink RX8 299 yX8_parting ∈ ab_ws := ab_w (List.mem_append_right _ (List.mem_of_getElem? (i := 1154) (by decide +kernel))) rfl
set_option maxRecDepth 20000 in
theorem kw_t1156 : Cond.instanceMethod yX8_parting ∈ ab_ws := ab_w (List.mem_append_right _ (List.mem_of_getElem? (i := 1156) (by decide +kernel))) rfl
set_option maxRecDepth 20000 in
theorem kw_p74 : Cond.selects "DailyReliefModel" yX8_parting yX8_parting ∈ ab_ws := ab_w (List.mem_append_left _ (List.mem_of_getElem? (i := 74) (by decide +kernel))) rfl
set_option maxRecDepth 20000 in
theorem kw_t1162 : Cond.code yX8_body cX8_body 2 (some .int) ∈ ab_ws := ab_w (List.mem_append_right _ (List.mem_of_getElem? (i := 1162) (by decide +kernel))) rfl
set_option maxRecDepth 20000 in
theorem kw_t1159 : Cond.methodLink RL 130 yX8_body ∈ ab_ws := ab_w (List.mem_append_right _ (List.mem_of_getElem? (i := 1159) (by decide +kernel))) rfl
set_option maxRecDepth 20000 in
theorem kw_t1160 : Cond.instanceMethod yX8_body ∈ ab_ws := ab_w (List.mem_append_right _ (List.mem_of_getElem? (i := 1160) (by decide +kernel))) rfl
set_option maxRecDepth 20000 in
theorem kw_t1161 : Cond.selects "DailyReliefModel" yX8_body yX8_body ∈ ab_ws := ab_w (List.mem_append_right _ (List.mem_of_getElem? (i := 1161) (by decide +kernel))) rfl
set_option maxRecDepth 20000 in
theorem kw_t1166 : Cond.code yX8_sheet cX8_sheet 6 (some .int) ∈ ab_ws := ab_w (List.mem_append_right _ (List.mem_of_getElem? (i := 1166) (by decide +kernel))) rfl
set_option maxRecDepth 20000 in
theorem kw_t1163 : Cond.methodLink RL 134 yX8_sheet ∈ ab_ws := ab_w (List.mem_append_right _ (List.mem_of_getElem? (i := 1163) (by decide +kernel))) rfl
set_option maxRecDepth 20000 in
theorem kw_t1164 : Cond.instanceMethod yX8_sheet ∈ ab_ws := ab_w (List.mem_append_right _ (List.mem_of_getElem? (i := 1164) (by decide +kernel))) rfl
set_option maxRecDepth 20000 in
theorem kw_t1165 : Cond.selects "DailyReliefModel" yX8_sheet yX8_sheet ∈ ab_ws := ab_w (List.mem_append_right _ (List.mem_of_getElem? (i := 1165) (by decide +kernel))) rfl
set_option maxRecDepth 20000 in
theorem kw_t1169 : Cond.code yX8_isSheet cX8_isSheet 1 (some .boolean) ∈ ab_ws := ab_w (List.mem_append_right _ (List.mem_of_getElem? (i := 1169) (by decide +kernel))) rfl
set_option maxRecDepth 20000 in
theorem kw_t1167 : Cond.methodLink RX8 303 yX8_isSheet ∈ ab_ws := ab_w (List.mem_append_right _ (List.mem_of_getElem? (i := 1167) (by decide +kernel))) rfl
set_option maxRecDepth 20000 in
theorem kw_t1168 : Cond.static yX8_isSheet ∈ ab_ws := ab_w (List.mem_append_right _ (List.mem_of_getElem? (i := 1168) (by decide +kernel))) rfl
set_option maxRecDepth 20000 in
theorem kw_t1173 : Cond.code yX8_put cX8_put 5 (some .int) ∈ ab_ws := ab_w (List.mem_append_right _ (List.mem_of_getElem? (i := 1173) (by decide +kernel))) rfl
set_option maxRecDepth 20000 in
theorem kw_t1170 : Cond.methodLink RL 138 yX8_put ∈ ab_ws := ab_w (List.mem_append_right _ (List.mem_of_getElem? (i := 1170) (by decide +kernel))) rfl
set_option maxRecDepth 20000 in
theorem kw_t1171 : Cond.instanceMethod yX8_put ∈ ab_ws := ab_w (List.mem_append_right _ (List.mem_of_getElem? (i := 1171) (by decide +kernel))) rfl
set_option maxRecDepth 20000 in
theorem kw_t1172 : Cond.selects "DailyReliefModel" yX8_put yX8_put ∈ ab_ws := ab_w (List.mem_append_right _ (List.mem_of_getElem? (i := 1172) (by decide +kernel))) rfl
set_option maxRecDepth 20000 in
theorem kw_t1177 : Cond.code yX8_wrong cX8_wrong 2 (some .int) ∈ ab_ws := ab_w (List.mem_append_right _ (List.mem_of_getElem? (i := 1177) (by decide +kernel))) rfl
set_option maxRecDepth 20000 in
theorem kw_t1174 : Cond.methodLink RX8 306 yX8_wrong ∈ ab_ws := ab_w (List.mem_append_right _ (List.mem_of_getElem? (i := 1174) (by decide +kernel))) rfl
set_option maxRecDepth 20000 in
theorem kw_t1176 : Cond.instanceMethod yX8_wrong ∈ ab_ws := ab_w (List.mem_append_right _ (List.mem_of_getElem? (i := 1176) (by decide +kernel))) rfl
set_option maxRecDepth 20000 in
theorem kw_p75 : Cond.selects "DailyReliefModel" yX8_wrong yX8_wrong ∈ ab_ws := ab_w (List.mem_append_left _ (List.mem_of_getElem? (i := 75) (by decide +kernel))) rfl
set_option maxRecDepth 20000 in
theorem kw_t1181 : Cond.code yX8_move cX8_move 7 (some .int) ∈ ab_ws := ab_w (List.mem_append_right _ (List.mem_of_getElem? (i := 1181) (by decide +kernel))) rfl
set_option maxRecDepth 20000 in
theorem kw_t1178 : Cond.methodLink RL 143 yX8_move ∈ ab_ws := ab_w (List.mem_append_right _ (List.mem_of_getElem? (i := 1178) (by decide +kernel))) rfl
set_option maxRecDepth 20000 in
theorem kw_t1179 : Cond.instanceMethod yX8_move ∈ ab_ws := ab_w (List.mem_append_right _ (List.mem_of_getElem? (i := 1179) (by decide +kernel))) rfl
set_option maxRecDepth 20000 in
theorem kw_t1180 : Cond.selects "DailyReliefModel" yX8_move yX8_move ∈ ab_ws := ab_w (List.mem_append_right _ (List.mem_of_getElem? (i := 1180) (by decide +kernel))) rfl
set_option maxRecDepth 20000 in
theorem kw_t1185 : Cond.code yX8_isStanding cX8_isStanding 4 (some .boolean) ∈ ab_ws := ab_w (List.mem_append_right _ (List.mem_of_getElem? (i := 1185) (by decide +kernel))) rfl
set_option maxRecDepth 20000 in
theorem kw_t1182 : Cond.methodLink RX8 309 yX8_isStanding ∈ ab_ws := ab_w (List.mem_append_right _ (List.mem_of_getElem? (i := 1182) (by decide +kernel))) rfl
set_option maxRecDepth 20000 in
theorem kw_t1184 : Cond.instanceMethod yX8_isStanding ∈ ab_ws := ab_w (List.mem_append_right _ (List.mem_of_getElem? (i := 1184) (by decide +kernel))) rfl
set_option maxRecDepth 20000 in
theorem kw_p76 : Cond.selects "DailyReliefModel" yX8_isStanding yX8_isStanding ∈ ab_ws := ab_w (List.mem_append_left _ (List.mem_of_getElem? (i := 76) (by decide +kernel))) rfl
set_option maxRecDepth 20000 in
theorem kw_t1189 : Cond.code yX8_rosters cX8_rosters 4 (some .int) ∈ ab_ws := ab_w (List.mem_append_right _ (List.mem_of_getElem? (i := 1189) (by decide +kernel))) rfl
set_option maxRecDepth 20000 in
theorem kw_t1186 : Cond.methodLink RL 147 yX8_rosters ∈ ab_ws := ab_w (List.mem_append_right _ (List.mem_of_getElem? (i := 1186) (by decide +kernel))) rfl
set_option maxRecDepth 20000 in
theorem kw_t1187 : Cond.instanceMethod yX8_rosters ∈ ab_ws := ab_w (List.mem_append_right _ (List.mem_of_getElem? (i := 1187) (by decide +kernel))) rfl
set_option maxRecDepth 20000 in
theorem kw_t1188 : Cond.selects "DailyReliefModel" yX8_rosters yX8_rosters ∈ ab_ws := ab_w (List.mem_append_right _ (List.mem_of_getElem? (i := 1188) (by decide +kernel))) rfl
set_option maxRecDepth 20000 in
theorem kw_t1193 : Cond.code yX8_judge cX8_judge 4 (some .int) ∈ ab_ws := ab_w (List.mem_append_right _ (List.mem_of_getElem? (i := 1193) (by decide +kernel))) rfl
set_option maxRecDepth 20000 in
theorem kw_t1190 : Cond.methodLink RL 151 yX8_judge ∈ ab_ws := ab_w (List.mem_append_right _ (List.mem_of_getElem? (i := 1190) (by decide +kernel))) rfl
set_option maxRecDepth 20000 in
theorem kw_t1191 : Cond.instanceMethod yX8_judge ∈ ab_ws := ab_w (List.mem_append_right _ (List.mem_of_getElem? (i := 1191) (by decide +kernel))) rfl
set_option maxRecDepth 20000 in
theorem kw_t1192 : Cond.selects "DailyReliefModel" yX8_judge yX8_judge ∈ ab_ws := ab_w (List.mem_append_right _ (List.mem_of_getElem? (i := 1192) (by decide +kernel))) rfl
set_option maxRecDepth 20000 in
theorem kw_t1197 : Cond.code yX8_image cX8_image 2 (some .int) ∈ ab_ws := ab_w (List.mem_append_right _ (List.mem_of_getElem? (i := 1197) (by decide +kernel))) rfl
set_option maxRecDepth 20000 in
theorem kw_t1194 : Cond.methodLink RL 156 yX8_image ∈ ab_ws := ab_w (List.mem_append_right _ (List.mem_of_getElem? (i := 1194) (by decide +kernel))) rfl
set_option maxRecDepth 20000 in
theorem kw_t1195 : Cond.instanceMethod yX8_image ∈ ab_ws := ab_w (List.mem_append_right _ (List.mem_of_getElem? (i := 1195) (by decide +kernel))) rfl
set_option maxRecDepth 20000 in
theorem kw_t1196 : Cond.selects "DailyReliefModel" yX8_image yX8_image ∈ ab_ws := ab_w (List.mem_append_right _ (List.mem_of_getElem? (i := 1196) (by decide +kernel))) rfl
set_option maxRecDepth 20000 in
theorem kw_t1201 : Cond.code yX8_restore cX8_restore 2 (some .int) ∈ ab_ws := ab_w (List.mem_append_right _ (List.mem_of_getElem? (i := 1201) (by decide +kernel))) rfl
set_option maxRecDepth 20000 in
theorem kw_t1198 : Cond.methodLink RL 160 yX8_restore ∈ ab_ws := ab_w (List.mem_append_right _ (List.mem_of_getElem? (i := 1198) (by decide +kernel))) rfl
set_option maxRecDepth 20000 in
theorem kw_t1199 : Cond.instanceMethod yX8_restore ∈ ab_ws := ab_w (List.mem_append_right _ (List.mem_of_getElem? (i := 1199) (by decide +kernel))) rfl
set_option maxRecDepth 20000 in
theorem kw_t1200 : Cond.selects "DailyReliefModel" yX8_restore yX8_restore ∈ ab_ws := ab_w (List.mem_append_right _ (List.mem_of_getElem? (i := 1200) (by decide +kernel))) rfl
set_option maxRecDepth 20000 in
theorem kw_t1205 : Cond.code yX8_tell cX8_tell 2 (some .int) ∈ ab_ws := ab_w (List.mem_append_right _ (List.mem_of_getElem? (i := 1205) (by decide +kernel))) rfl
set_option maxRecDepth 20000 in
theorem kw_t1202 : Cond.methodLink RL 164 yX8_tell ∈ ab_ws := ab_w (List.mem_append_right _ (List.mem_of_getElem? (i := 1202) (by decide +kernel))) rfl
set_option maxRecDepth 20000 in
theorem kw_t1203 : Cond.instanceMethod yX8_tell ∈ ab_ws := ab_w (List.mem_append_right _ (List.mem_of_getElem? (i := 1203) (by decide +kernel))) rfl
set_option maxRecDepth 20000 in
theorem kw_t1204 : Cond.selects "DailyReliefModel" yX8_tell yX8_tell ∈ ab_ws := ab_w (List.mem_append_right _ (List.mem_of_getElem? (i := 1204) (by decide +kernel))) rfl
set_option maxRecDepth 20000 in
theorem kw_t1209 : Cond.code yX8_check cX8_check 5 (some .int) ∈ ab_ws := ab_w (List.mem_append_right _ (List.mem_of_getElem? (i := 1209) (by decide +kernel))) rfl
set_option maxRecDepth 20000 in
theorem kw_t1206 : Cond.methodLink RL 168 yX8_check ∈ ab_ws := ab_w (List.mem_append_right _ (List.mem_of_getElem? (i := 1206) (by decide +kernel))) rfl
set_option maxRecDepth 20000 in
theorem kw_t1207 : Cond.instanceMethod yX8_check ∈ ab_ws := ab_w (List.mem_append_right _ (List.mem_of_getElem? (i := 1207) (by decide +kernel))) rfl
set_option maxRecDepth 20000 in
theorem kw_t1208 : Cond.selects "DailyReliefModel" yX8_check yX8_check ∈ ab_ws := ab_w (List.mem_append_right _ (List.mem_of_getElem? (i := 1208) (by decide +kernel))) rfl
set_option maxRecDepth 20000 in
theorem kw_t1213 : Cond.code yX8_count cX8_count 2 (some .int) ∈ ab_ws := ab_w (List.mem_append_right _ (List.mem_of_getElem? (i := 1213) (by decide +kernel))) rfl
set_option maxRecDepth 20000 in
theorem kw_t1210 : Cond.methodLink RL 172 yX8_count ∈ ab_ws := ab_w (List.mem_append_right _ (List.mem_of_getElem? (i := 1210) (by decide +kernel))) rfl
set_option maxRecDepth 20000 in
theorem kw_t1211 : Cond.instanceMethod yX8_count ∈ ab_ws := ab_w (List.mem_append_right _ (List.mem_of_getElem? (i := 1211) (by decide +kernel))) rfl
set_option maxRecDepth 20000 in
theorem kw_t1212 : Cond.selects "DailyReliefModel" yX8_count yX8_count ∈ ab_ws := ab_w (List.mem_append_right _ (List.mem_of_getElem? (i := 1212) (by decide +kernel))) rfl
set_option maxRecDepth 20000 in
theorem kw_t1217 : Cond.code yX8_knownByAny cX8_knownByAny 3 (some .int) ∈ ab_ws := ab_w (List.mem_append_right _ (List.mem_of_getElem? (i := 1217) (by decide +kernel))) rfl
set_option maxRecDepth 20000 in
theorem kw_t1214 : Cond.methodLink RX8 315 yX8_knownByAny ∈ ab_ws := ab_w (List.mem_append_right _ (List.mem_of_getElem? (i := 1214) (by decide +kernel))) rfl
set_option maxRecDepth 20000 in
theorem kw_t1216 : Cond.instanceMethod yX8_knownByAny ∈ ab_ws := ab_w (List.mem_append_right _ (List.mem_of_getElem? (i := 1216) (by decide +kernel))) rfl
set_option maxRecDepth 20000 in
theorem kw_p77 : Cond.selects "DailyReliefModel" yX8_knownByAny yX8_knownByAny ∈ ab_ws := ab_w (List.mem_append_left _ (List.mem_of_getElem? (i := 77) (by decide +kernel))) rfl
set_option maxRecDepth 20000 in
theorem kw_t1221 : Cond.code yX8_told cX8_told 2 (some .int) ∈ ab_ws := ab_w (List.mem_append_right _ (List.mem_of_getElem? (i := 1221) (by decide +kernel))) rfl
set_option maxRecDepth 20000 in
theorem kw_t1218 : Cond.methodLink RL 176 yX8_told ∈ ab_ws := ab_w (List.mem_append_right _ (List.mem_of_getElem? (i := 1218) (by decide +kernel))) rfl
set_option maxRecDepth 20000 in
theorem kw_t1219 : Cond.instanceMethod yX8_told ∈ ab_ws := ab_w (List.mem_append_right _ (List.mem_of_getElem? (i := 1219) (by decide +kernel))) rfl
set_option maxRecDepth 20000 in
theorem kw_t1220 : Cond.selects "DailyReliefModel" yX8_told yX8_told ∈ ab_ws := ab_w (List.mem_append_right _ (List.mem_of_getElem? (i := 1220) (by decide +kernel))) rfl
set_option maxRecDepth 20000 in
theorem kw_t13 : Cond.classLink RL 7 "DailyRelief" ∈ ab_ws := ab_w (List.mem_append_right _ (List.mem_of_getElem? (i := 13) (by decide +kernel))) rfl
set_option maxRecDepth 20000 in
theorem kw_t14 : Cond.instantiable "DailyRelief" 8 ∈ ab_ws := ab_w (List.mem_append_right _ (List.mem_of_getElem? (i := 14) (by decide +kernel))) rfl
set_option maxRecDepth 20000 in
theorem kw_t18 : Cond.methodLink RX7 1 objectInit ∈ ab_ws := ab_w (List.mem_append_right _ (List.mem_of_getElem? (i := 18) (by decide +kernel))) rfl
set_option maxRecDepth 20000 in
theorem kw_t19 : Cond.instanceMethod objectInit ∈ ab_ws := ab_w (List.mem_append_right _ (List.mem_of_getElem? (i := 19) (by decide +kernel))) rfl
set_option maxRecDepth 20000 in
theorem kw_t20 : Cond.code objectInit ⟨#[0xb1]⟩ 1 none ∈ ab_ws := ab_w (List.mem_append_right _ (List.mem_of_getElem? (i := 20) (by decide +kernel))) rfl
set_option maxRecDepth 20000 in
theorem kw_t21 : Cond.classLink RX7 7 "DailyRelief$Ship" ∈ ab_ws := ab_w (List.mem_append_right _ (List.mem_of_getElem? (i := 21) (by decide +kernel))) rfl
set_option maxRecDepth 20000 in
theorem kw_t22 : Cond.instantiable "DailyRelief$Ship" 16 ∈ ab_ws := ab_w (List.mem_append_right _ (List.mem_of_getElem? (i := 22) (by decide +kernel))) rfl
set_option maxRecDepth 20000 in
theorem kw_t26 : Cond.methodLink RX2 3 objectInit ∈ ab_ws := ab_w (List.mem_append_right _ (List.mem_of_getElem? (i := 26) (by decide +kernel))) rfl
set_option maxRecDepth 20000 in
theorem kw_t27 : Cond.classLink RX2 9 "DailyRelief$Bunk" ∈ ab_ws := ab_w (List.mem_append_right _ (List.mem_of_getElem? (i := 27) (by decide +kernel))) rfl
set_option maxRecDepth 20000 in
theorem kw_t33 : Cond.instantiable "DailyRelief$Bunk" 7 ∈ ab_ws := ab_w (List.mem_append_right _ (List.mem_of_getElem? (i := 33) (by decide +kernel))) rfl
set_option maxRecDepth 20000 in
theorem kw_t29 : Cond.classLink RX2 24 "DailyRelief$Task" ∈ ab_ws := ab_w (List.mem_append_right _ (List.mem_of_getElem? (i := 29) (by decide +kernel))) rfl
set_option maxRecDepth 20000 in
theorem kw_t75 : Cond.instantiable "DailyRelief$Task" 4 ∈ ab_ws := ab_w (List.mem_append_right _ (List.mem_of_getElem? (i := 75) (by decide +kernel))) rfl
set_option maxRecDepth 20000 in
theorem kw_t31 : Cond.classLink RX2 41 "DailyRelief$Text" ∈ ab_ws := ab_w (List.mem_append_right _ (List.mem_of_getElem? (i := 31) (by decide +kernel))) rfl
set_option maxRecDepth 20000 in
theorem kw_t458 : Cond.instantiable "DailyRelief$Text" 2 ∈ ab_ws := ab_w (List.mem_append_right _ (List.mem_of_getElem? (i := 458) (by decide +kernel))) rfl
set_option maxRecDepth 20000 in
theorem kw_t37 : Cond.methodLink RX0 3 objectInit ∈ ab_ws := ab_w (List.mem_append_right _ (List.mem_of_getElem? (i := 37) (by decide +kernel))) rfl
set_option maxRecDepth 20000 in
theorem kw_t79 : Cond.methodLink RX3 3 objectInit ∈ ab_ws := ab_w (List.mem_append_right _ (List.mem_of_getElem? (i := 79) (by decide +kernel))) rfl
set_option maxRecDepth 20000 in
theorem kw_t162 : Cond.classLink RX7 22 "DailyRelief$TextReader" ∈ ab_ws := ab_w (List.mem_append_right _ (List.mem_of_getElem? (i := 162) (by decide +kernel))) rfl
set_option maxRecDepth 20000 in
theorem kw_t163 : Cond.instantiable "DailyRelief$TextReader" 7 ∈ ab_ws := ab_w (List.mem_append_right _ (List.mem_of_getElem? (i := 163) (by decide +kernel))) rfl
set_option maxRecDepth 20000 in
theorem kw_t167 : Cond.methodLink RX5 3 objectInit ∈ ab_ws := ab_w (List.mem_append_right _ (List.mem_of_getElem? (i := 167) (by decide +kernel))) rfl
set_option maxRecDepth 20000 in
theorem kw_t191 : Cond.classLink RX7 29 "DailyRelief$Voices" ∈ ab_ws := ab_w (List.mem_append_right _ (List.mem_of_getElem? (i := 191) (by decide +kernel))) rfl
set_option maxRecDepth 20000 in
theorem kw_t192 : Cond.instantiable "DailyRelief$Voices" 6 ∈ ab_ws := ab_w (List.mem_append_right _ (List.mem_of_getElem? (i := 192) (by decide +kernel))) rfl
set_option maxRecDepth 20000 in
theorem kw_t196 : Cond.methodLink RX6 3 objectInit ∈ ab_ws := ab_w (List.mem_append_right _ (List.mem_of_getElem? (i := 196) (by decide +kernel))) rfl
set_option maxRecDepth 20000 in
theorem kw_t219 : Cond.classLink RX7 36 "DailyRelief$Sheet" ∈ ab_ws := ab_w (List.mem_append_right _ (List.mem_of_getElem? (i := 219) (by decide +kernel))) rfl
set_option maxRecDepth 20000 in
theorem kw_t221 : Cond.instantiable "DailyRelief$Sheet" 3 ∈ ab_ws := ab_w (List.mem_append_right _ (List.mem_of_getElem? (i := 221) (by decide +kernel))) rfl
set_option maxRecDepth 20000 in
theorem kw_t225 : Cond.methodLink RX1 3 objectInit ∈ ab_ws := ab_w (List.mem_append_right _ (List.mem_of_getElem? (i := 225) (by decide +kernel))) rfl
set_option maxRecDepth 20000 in
theorem kw_t275 : Cond.constant RX7 268 (-1000000000) ∈ ab_ws := ab_w (List.mem_append_right _ (List.mem_of_getElem? (i := 275) (by decide +kernel))) rfl
set_option maxRecDepth 20000 in
theorem kw_t307 : Cond.constant RJ6 265 (1431655765) ∈ ab_ws := ab_w (List.mem_append_right _ (List.mem_of_getElem? (i := 307) (by decide +kernel))) rfl
set_option maxRecDepth 20000 in
theorem kw_t308 : Cond.constant RJ6 266 (858993459) ∈ ab_ws := ab_w (List.mem_append_right _ (List.mem_of_getElem? (i := 308) (by decide +kernel))) rfl
set_option maxRecDepth 20000 in
theorem kw_t309 : Cond.constant RJ6 267 (252645135) ∈ ab_ws := ab_w (List.mem_append_right _ (List.mem_of_getElem? (i := 309) (by decide +kernel))) rfl
set_option maxRecDepth 20000 in
theorem kw_t317 : Cond.methodLink RX2 124 Lib.Math.min.name ∈ ab_ws := ab_w (List.mem_append_right _ (List.mem_of_getElem? (i := 317) (by decide +kernel))) rfl
set_option maxRecDepth 20000 in
theorem kw_t318 : Cond.static Lib.Math.min.name ∈ ab_ws := ab_w (List.mem_append_right _ (List.mem_of_getElem? (i := 318) (by decide +kernel))) rfl
set_option maxRecDepth 20000 in
theorem kw_t11 : Cond.initialized "java/lang/Math" ∈ ab_ws := ab_w (List.mem_append_right _ (List.mem_of_getElem? (i := 11) (by decide +kernel))) rfl
set_option maxRecDepth 20000 in
theorem kw_t319 : Cond.code Lib.Math.min.name Lib.Math.min.code 2 (some .int) ∈ ab_ws := ab_w (List.mem_append_right _ (List.mem_of_getElem? (i := 319) (by decide +kernel))) rfl
set_option maxRecDepth 20000 in
theorem kw_t320 : Cond.methodLink RX2 173 Lib.Math.max.name ∈ ab_ws := ab_w (List.mem_append_right _ (List.mem_of_getElem? (i := 320) (by decide +kernel))) rfl
set_option maxRecDepth 20000 in
theorem kw_t321 : Cond.static Lib.Math.max.name ∈ ab_ws := ab_w (List.mem_append_right _ (List.mem_of_getElem? (i := 321) (by decide +kernel))) rfl
set_option maxRecDepth 20000 in
theorem kw_t322 : Cond.code Lib.Math.max.name Lib.Math.max.code 2 (some .int) ∈ ab_ws := ab_w (List.mem_append_right _ (List.mem_of_getElem? (i := 322) (by decide +kernel))) rfl
set_option maxRecDepth 20000 in
theorem kw_t409 : Cond.methodLink RX5 19 Lib.Math.min.name ∈ ab_ws := ab_w (List.mem_append_right _ (List.mem_of_getElem? (i := 409) (by decide +kernel))) rfl
set_option maxRecDepth 20000 in
theorem kw_t457 : Cond.classLink RX5 48 "DailyRelief$Text" ∈ ab_ws := ab_w (List.mem_append_right _ (List.mem_of_getElem? (i := 457) (by decide +kernel))) rfl
set_option maxRecDepth 20000 in
theorem kw_t462 : Cond.methodLink RX4 1 objectInit ∈ ab_ws := ab_w (List.mem_append_right _ (List.mem_of_getElem? (i := 462) (by decide +kernel))) rfl
set_option maxRecDepth 20000 in
theorem kw_t463 : Cond.methodLink RX4 16 arraycopyName ∈ ab_ws := ab_w (List.mem_append_right _ (List.mem_of_getElem? (i := 463) (by decide +kernel))) rfl
set_option maxRecDepth 20000 in
theorem kw_t465 : Cond.native arraycopyName ∈ ab_ws := ab_w (List.mem_append_right _ (List.mem_of_getElem? (i := 465) (by decide +kernel))) rfl
set_option maxRecDepth 20000 in
theorem kw_t464 : Cond.static arraycopyName ∈ ab_ws := ab_w (List.mem_append_right _ (List.mem_of_getElem? (i := 464) (by decide +kernel))) rfl
set_option maxRecDepth 20000 in
theorem kw_t12 : Cond.initialized "java/lang/System" ∈ ab_ws := ab_w (List.mem_append_right _ (List.mem_of_getElem? (i := 12) (by decide +kernel))) rfl
set_option maxRecDepth 20000 in
theorem kw_t511 : Cond.constant RX2 144 (1103515245) ∈ ab_ws := ab_w (List.mem_append_right _ (List.mem_of_getElem? (i := 511) (by decide +kernel))) rfl
set_option maxRecDepth 20000 in
theorem kw_t516 : Cond.methodLink RX0 55 Lib.Math.min.name ∈ ab_ws := ab_w (List.mem_append_right _ (List.mem_of_getElem? (i := 516) (by decide +kernel))) rfl
set_option maxRecDepth 20000 in
theorem kw_t517 : Cond.methodLink RX0 61 Lib.Math.max.name ∈ ab_ws := ab_w (List.mem_append_right _ (List.mem_of_getElem? (i := 517) (by decide +kernel))) rfl
set_option maxRecDepth 20000 in
theorem kw_t527 : Cond.constant RX3 24 (999999) ∈ ab_ws := ab_w (List.mem_append_right _ (List.mem_of_getElem? (i := 527) (by decide +kernel))) rfl
set_option maxRecDepth 20000 in
theorem kw_t528 : Cond.methodLink RX3 25 Lib.Math.min.name ∈ ab_ws := ab_w (List.mem_append_right _ (List.mem_of_getElem? (i := 528) (by decide +kernel))) rfl
set_option maxRecDepth 20000 in
theorem kw_t561 : Cond.methodLink RX0 34 arraycopyName ∈ ab_ws := ab_w (List.mem_append_right _ (List.mem_of_getElem? (i := 561) (by decide +kernel))) rfl
set_option maxRecDepth 20000 in
theorem kw_t566 : Cond.methodLink RX2 80 arraycopyName ∈ ab_ws := ab_w (List.mem_append_right _ (List.mem_of_getElem? (i := 566) (by decide +kernel))) rfl
set_option maxRecDepth 20000 in
theorem kw_t617 : Cond.methodLink RX7 196 Lib.Math.min.name ∈ ab_ws := ab_w (List.mem_append_right _ (List.mem_of_getElem? (i := 617) (by decide +kernel))) rfl
set_option maxRecDepth 20000 in
theorem kw_t700 : Cond.methodLink RX7 243 arraycopyName ∈ ab_ws := ab_w (List.mem_append_right _ (List.mem_of_getElem? (i := 700) (by decide +kernel))) rfl
set_option maxRecDepth 20000 in
theorem kw_t737 : Cond.classLink RL 10 "DailyReliefModel" ∈ ab_ws := ab_w (List.mem_append_right _ (List.mem_of_getElem? (i := 737) (by decide +kernel))) rfl
set_option maxRecDepth 20000 in
theorem kw_t738 : Cond.instantiable "DailyReliefModel" 22 ∈ ab_ws := ab_w (List.mem_append_right _ (List.mem_of_getElem? (i := 738) (by decide +kernel))) rfl
set_option maxRecDepth 20000 in
theorem kw_t742 : Cond.methodLink RX8 1 objectInit ∈ ab_ws := ab_w (List.mem_append_right _ (List.mem_of_getElem? (i := 742) (by decide +kernel))) rfl
set_option maxRecDepth 20000 in
theorem kw_t817 : Cond.constantLong RX8 78 (69) ∈ ab_ws := ab_w (List.mem_append_right _ (List.mem_of_getElem? (i := 817) (by decide +kernel))) rfl
set_option maxRecDepth 20000 in
theorem kw_t821 : Cond.constant RX8 43 (-1000000001) ∈ ab_ws := ab_w (List.mem_append_right _ (List.mem_of_getElem? (i := 821) (by decide +kernel))) rfl
set_option maxRecDepth 20000 in
theorem kw_t826 : Cond.constant RX8 87 (-1000000004) ∈ ab_ws := ab_w (List.mem_append_right _ (List.mem_of_getElem? (i := 826) (by decide +kernel))) rfl
set_option maxRecDepth 20000 in
theorem kw_t845 : Cond.constantLong RX8 101 (23) ∈ ab_ws := ab_w (List.mem_append_right _ (List.mem_of_getElem? (i := 845) (by decide +kernel))) rfl
set_option maxRecDepth 20000 in
theorem kw_t879 : Cond.constantLong RX8 106 (6) ∈ ab_ws := ab_w (List.mem_append_right _ (List.mem_of_getElem? (i := 879) (by decide +kernel))) rfl
set_option maxRecDepth 20000 in
theorem kw_t880 : Cond.constant RX8 108 (-1000000005) ∈ ab_ws := ab_w (List.mem_append_right _ (List.mem_of_getElem? (i := 880) (by decide +kernel))) rfl
set_option maxRecDepth 20000 in
theorem kw_t885 : Cond.constantLong RX8 109 (9) ∈ ab_ws := ab_w (List.mem_append_right _ (List.mem_of_getElem? (i := 885) (by decide +kernel))) rfl
set_option maxRecDepth 20000 in
theorem kw_t886 : Cond.constantLong RX8 111 (-1) ∈ ab_ws := ab_w (List.mem_append_right _ (List.mem_of_getElem? (i := 886) (by decide +kernel))) rfl
set_option maxRecDepth 20000 in
theorem kw_t887 : Cond.constantLong RX8 48 (5) ∈ ab_ws := ab_w (List.mem_append_right _ (List.mem_of_getElem? (i := 887) (by decide +kernel))) rfl
set_option maxRecDepth 20000 in
theorem kw_t895 : Cond.constantLong RX8 116 (999) ∈ ab_ws := ab_w (List.mem_append_right _ (List.mem_of_getElem? (i := 895) (by decide +kernel))) rfl
set_option maxRecDepth 20000 in
theorem kw_t911 : Cond.constantLong RX8 50 (63) ∈ ab_ws := ab_w (List.mem_append_right _ (List.mem_of_getElem? (i := 911) (by decide +kernel))) rfl
set_option maxRecDepth 20000 in
theorem kw_t924 : Cond.constantLong RX8 134 (3) ∈ ab_ws := ab_w (List.mem_append_right _ (List.mem_of_getElem? (i := 924) (by decide +kernel))) rfl
set_option maxRecDepth 20000 in
theorem kw_t936 : Cond.constantLong RX8 142 (4) ∈ ab_ws := ab_w (List.mem_append_right _ (List.mem_of_getElem? (i := 936) (by decide +kernel))) rfl
set_option maxRecDepth 20000 in
theorem kw_t949 : Cond.constantLong RX8 147 (8) ∈ ab_ws := ab_w (List.mem_append_right _ (List.mem_of_getElem? (i := 949) (by decide +kernel))) rfl
set_option maxRecDepth 20000 in
theorem kw_t950 : Cond.constantLong RX8 149 (255) ∈ ab_ws := ab_w (List.mem_append_right _ (List.mem_of_getElem? (i := 950) (by decide +kernel))) rfl
set_option maxRecDepth 20000 in
theorem kw_t991 : Cond.constantLong RX8 163 (48) ∈ ab_ws := ab_w (List.mem_append_right _ (List.mem_of_getElem? (i := 991) (by decide +kernel))) rfl
set_option maxRecDepth 20000 in
theorem kw_t992 : Cond.constantLong RX8 165 (57) ∈ ab_ws := ab_w (List.mem_append_right _ (List.mem_of_getElem? (i := 992) (by decide +kernel))) rfl
set_option maxRecDepth 20000 in
theorem kw_t1020 : Cond.constantLong RX8 242 (90) ∈ ab_ws := ab_w (List.mem_append_right _ (List.mem_of_getElem? (i := 1020) (by decide +kernel))) rfl
set_option maxRecDepth 20000 in
theorem kw_t1021 : Cond.constant RX8 247 (-1000000003) ∈ ab_ws := ab_w (List.mem_append_right _ (List.mem_of_getElem? (i := 1021) (by decide +kernel))) rfl
set_option maxRecDepth 20000 in
theorem kw_t1054 : Cond.constant RX8 211 (1103515245) ∈ ab_ws := ab_w (List.mem_append_right _ (List.mem_of_getElem? (i := 1054) (by decide +kernel))) rfl
set_option maxRecDepth 20000 in
theorem kw_t1055 : Cond.constant RX8 237 (999999) ∈ ab_ws := ab_w (List.mem_append_right _ (List.mem_of_getElem? (i := 1055) (by decide +kernel))) rfl
set_option maxRecDepth 20000 in
theorem kw_t1064 : Cond.constantLong RX8 254 (16) ∈ ab_ws := ab_w (List.mem_append_right _ (List.mem_of_getElem? (i := 1064) (by decide +kernel))) rfl
set_option maxRecDepth 20000 in
theorem kw_t1089 : Cond.constant RX8 262 (-1000000002) ∈ ab_ws := ab_w (List.mem_append_right _ (List.mem_of_getElem? (i := 1089) (by decide +kernel))) rfl
set_option maxRecDepth 20000 in
theorem kw_t1094 : Cond.constantLong RX8 263 (30) ∈ ab_ws := ab_w (List.mem_append_right _ (List.mem_of_getElem? (i := 1094) (by decide +kernel))) rfl
set_option maxRecDepth 20000 in
theorem kw_t1158 : Cond.constant RX8 302 (-1000000006) ∈ ab_ws := ab_w (List.mem_append_right _ (List.mem_of_getElem? (i := 1158) (by decide +kernel))) rfl
set_option maxRecDepth 20000 in
theorem kw_t1222 : Cond.constantLong RL 52 (4294967295) ∈ ab_ws := ab_w (List.mem_append_right _ (List.mem_of_getElem? (i := 1222) (by decide +kernel))) rfl
set_option maxRecDepth 20000 in
theorem kw_t73 : Cond.arrayClass .int ∈ ab_ws := ab_w (List.mem_append_right _ (List.mem_of_getElem? (i := 73) (by decide +kernel))) rfl
set_option maxRecDepth 20000 in
theorem kw_t74 : Cond.arrayClass .byte ∈ ab_ws := ab_w (List.mem_append_right _ (List.mem_of_getElem? (i := 74) (by decide +kernel))) rfl
set_option maxRecDepth 20000 in
theorem kw_t642 : Cond.fieldLink RX6 39 "DailyRelief$Voices" "BODIES" "[I" ∈ ab_ws := ab_w (List.mem_append_right _ (List.mem_of_getElem? (i := 642) (by decide +kernel))) rfl
set_option maxRecDepth 20000 in
theorem ki_0 : u_ws RX0 TX0 7 = [58, 60, 62, 64, 66, 68, 70].filterMap (fun i => tables_1[i]?) := by decide +kernel
set_option maxRecDepth 20000 in
theorem kg_0 : (u_ws RX0 TX0 7).all goodWord = true := by decide +kernel
set_option maxRecDepth 20000 in
theorem kc_0 : ∀ w ∈ u_ws RX0 TX0 7, w ∈ ab_ws := ab_lays ki_0 kg_0
set_option maxRecDepth 20000 in
theorem ac_0 : ab_cls 0 RX0 TX0 7 tyX0 := ⟨by decide, rfl, kc_0, rfl, tyX0_ok, nmX0, by decide +kernel⟩
set_option maxRecDepth 20000 in
theorem ki_1 : u_ws RX1 TX1 3 = [232, 234, 236].filterMap (fun i => tables_1[i]?) := by decide +kernel
set_option maxRecDepth 20000 in
theorem kg_1 : (u_ws RX1 TX1 3).all goodWord = true := by decide +kernel
set_option maxRecDepth 20000 in
theorem kc_1 : ∀ w ∈ u_ws RX1 TX1 3, w ∈ ab_ws := ab_lays ki_1 kg_1
set_option maxRecDepth 20000 in
theorem ac_1 : ab_cls 1 RX1 TX1 3 tyX1 := ⟨by decide, rfl, kc_1, rfl, tyX1_ok, nmX1, by decide +kernel⟩
set_option maxRecDepth 20000 in
theorem ki_2 : u_ws RX2 TX2 16 = [129, 131, 133, 135, 137, 139, 141, 143, 145, 147, 149, 151, 153, 155, 157, 159].filterMap (fun i => tables_1[i]?) := by decide +kernel
set_option maxRecDepth 20000 in
theorem kg_2 : (u_ws RX2 TX2 16).all goodWord = true := by decide +kernel
set_option maxRecDepth 20000 in
theorem kc_2 : ∀ w ∈ u_ws RX2 TX2 16, w ∈ ab_ws := ab_lays ki_2 kg_2
set_option maxRecDepth 20000 in
theorem ac_2 : ab_cls 2 RX2 TX2 16 tyX2 := ⟨by decide, rfl, kc_2, rfl, tyX2_ok, nmX2, by decide +kernel⟩
set_option maxRecDepth 20000 in
theorem ki_3 : u_ws RX3 TX3 4 = [90, 92, 94, 96].filterMap (fun i => tables_1[i]?) := by decide +kernel
set_option maxRecDepth 20000 in
theorem kg_3 : (u_ws RX3 TX3 4).all goodWord = true := by decide +kernel
set_option maxRecDepth 20000 in
theorem kc_3 : ∀ w ∈ u_ws RX3 TX3 4, w ∈ ab_ws := ab_lays ki_3 kg_3
set_option maxRecDepth 20000 in
theorem ac_3 : ab_cls 3 RX3 TX3 4 tyX3 := ⟨by decide, rfl, kc_3, rfl, tyX3_ok, nmX3, by decide +kernel⟩
set_option maxRecDepth 20000 in
theorem ki_4 : u_ws RX4 TX4 2 = [468, 470].filterMap (fun i => tables_1[i]?) := by decide +kernel
set_option maxRecDepth 20000 in
theorem kg_4 : (u_ws RX4 TX4 2).all goodWord = true := by decide +kernel
set_option maxRecDepth 20000 in
theorem kc_4 : ∀ w ∈ u_ws RX4 TX4 2, w ∈ ab_ws := ab_lays ki_4 kg_4
set_option maxRecDepth 20000 in
theorem ac_4 : ab_cls 4 RX4 TX4 2 tyX4 := ⟨by decide, rfl, kc_4, rfl, tyX4_ok, nmX4, by decide +kernel⟩
set_option maxRecDepth 20000 in
theorem ki_5 : u_ws RX5 TX5 7 = [176, 178, 180, 182, 184, 186, 188].filterMap (fun i => tables_1[i]?) := by decide +kernel
set_option maxRecDepth 20000 in
theorem kg_5 : (u_ws RX5 TX5 7).all goodWord = true := by decide +kernel
set_option maxRecDepth 20000 in
theorem kc_5 : ∀ w ∈ u_ws RX5 TX5 7, w ∈ ab_ws := ab_lays ki_5 kg_5
set_option maxRecDepth 20000 in
theorem ac_5 : ab_cls 5 RX5 TX5 7 tyX5 := ⟨by decide, rfl, kc_5, rfl, tyX5_ok, nmX5, by decide +kernel⟩
set_option maxRecDepth 20000 in
theorem ki_6 : u_ws RX6 TX6 6 = [206, 208, 210, 212, 214, 216].filterMap (fun i => tables_1[i]?) := by decide +kernel
set_option maxRecDepth 20000 in
theorem kg_6 : (u_ws RX6 TX6 6).all goodWord = true := by decide +kernel
set_option maxRecDepth 20000 in
theorem kc_6 : ∀ w ∈ u_ws RX6 TX6 6, w ∈ ab_ws := ab_lays ki_6 kg_6
set_option maxRecDepth 20000 in
theorem ac_6 : ab_cls 6 RX6 TX6 6 tyX6 := ⟨by decide, rfl, kc_6, rfl, tyX6_ok, nmX6, by decide +kernel⟩
set_option maxRecDepth 20000 in
theorem ki_7 : u_ws RX7 TX7 8 = [247, 249, 251, 253, 255, 257, 259, 261].filterMap (fun i => tables_1[i]?) := by decide +kernel
set_option maxRecDepth 20000 in
theorem kg_7 : (u_ws RX7 TX7 8).all goodWord = true := by decide +kernel
set_option maxRecDepth 20000 in
theorem kc_7 : ∀ w ∈ u_ws RX7 TX7 8, w ∈ ab_ws := ab_lays ki_7 kg_7
set_option maxRecDepth 20000 in
theorem ac_7 : ab_cls 7 RX7 TX7 8 tyX7 := ⟨by decide, rfl, kc_7, rfl, tyX7_ok, nmX7, by decide +kernel⟩
set_option maxRecDepth 20000 in
theorem ki_8 : u_ws RX8 TX8 22 = [765, 767, 769, 771, 773, 775, 777, 779, 781, 783, 785, 787, 789, 791, 793, 795, 797, 799, 801, 803, 805, 807].filterMap (fun i => tables_1[i]?) := by decide +kernel
set_option maxRecDepth 20000 in
theorem kg_8 : (u_ws RX8 TX8 22).all goodWord = true := by decide +kernel
set_option maxRecDepth 20000 in
theorem kc_8 : ∀ w ∈ u_ws RX8 TX8 22, w ∈ ab_ws := ab_lays ki_8 kg_8
set_option maxRecDepth 20000 in
theorem ac_8 : ab_cls 8 RX8 TX8 22 tyX8 := ⟨by decide, rfl, kc_8, rfl, tyX8_ok, nmX8, by decide +kernel⟩
set_option maxRecDepth 20000 in
theorem fl_X0_18 : ab_fld RX0 18 0 0 .int false true := ⟨RX0, TX0, 7, tyX0, ac_0, by decide, kw_t38, rfl, rfl, (fun _ _ => rfl)⟩
set_option maxRecDepth 20000 in
theorem fl_X7_86 : ab_fld RX7 86 0 0 .int false true := ⟨RX0, TX0, 7, tyX0, ac_0, by decide, kw_t39, rfl, rfl, (fun _ h => absurd h (by decide))⟩
set_option maxRecDepth 20000 in
theorem fl_X2_155 : ab_fld RX2 155 0 0 .int false true := ⟨RX0, TX0, 7, tyX0, ac_0, by decide, kw_t40, rfl, rfl, (fun _ h => absurd h (by decide))⟩
set_option maxRecDepth 20000 in
theorem fl_X0_22 : ab_fld RX0 22 0 1 .int false true := ⟨RX0, TX0, 7, tyX0, ac_0, by decide, kw_t41, rfl, rfl, (fun _ _ => rfl)⟩
set_option maxRecDepth 20000 in
theorem fl_X7_89 : ab_fld RX7 89 0 1 .int false true := ⟨RX0, TX0, 7, tyX0, ac_0, by decide, kw_t42, rfl, rfl, (fun _ h => absurd h (by decide))⟩
set_option maxRecDepth 20000 in
theorem fl_X2_158 : ab_fld RX2 158 0 1 .int false true := ⟨RX0, TX0, 7, tyX0, ac_0, by decide, kw_t43, rfl, rfl, (fun _ h => absurd h (by decide))⟩
set_option maxRecDepth 20000 in
theorem fl_X0_25 : ab_fld RX0 25 0 2 .int false true := ⟨RX0, TX0, 7, tyX0, ac_0, by decide, kw_t44, rfl, rfl, (fun _ _ => rfl)⟩
set_option maxRecDepth 20000 in
theorem fl_X2_176 : ab_fld RX2 176 0 2 .int false true := ⟨RX0, TX0, 7, tyX0, ac_0, by decide, kw_t45, rfl, rfl, (fun _ h => absurd h (by decide))⟩
set_option maxRecDepth 20000 in
theorem fl_X7_193 : ab_fld RX7 193 0 2 .int false true := ⟨RX0, TX0, 7, tyX0, ac_0, by decide, kw_t46, rfl, rfl, (fun _ h => absurd h (by decide))⟩
set_option maxRecDepth 20000 in
theorem fl_X0_28 : ab_fld RX0 28 0 3 .int false true := ⟨RX0, TX0, 7, tyX0, ac_0, by decide, kw_t47, rfl, rfl, (fun _ _ => rfl)⟩
set_option maxRecDepth 20000 in
theorem fl_X7_79 : ab_fld RX7 79 0 3 .int false true := ⟨RX0, TX0, 7, tyX0, ac_0, by decide, kw_t48, rfl, rfl, (fun _ h => absurd h (by decide))⟩
set_option maxRecDepth 20000 in
theorem fl_X2_161 : ab_fld RX2 161 0 3 .int false true := ⟨RX0, TX0, 7, tyX0, ac_0, by decide, kw_t49, rfl, rfl, (fun _ h => absurd h (by decide))⟩
set_option maxRecDepth 20000 in
theorem fl_X0_31 : ab_fld RX0 31 0 4 .int false true := ⟨RX0, TX0, 7, tyX0, ac_0, by decide, kw_t50, rfl, rfl, (fun _ _ => rfl)⟩
set_option maxRecDepth 20000 in
theorem fl_X2_90 : ab_fld RX2 90 0 4 .int false true := ⟨RX0, TX0, 7, tyX0, ac_0, by decide, kw_t51, rfl, rfl, (fun _ h => absurd h (by decide))⟩
set_option maxRecDepth 20000 in
theorem fl_X7_92 : ab_fld RX7 92 0 4 .int false true := ⟨RX0, TX0, 7, tyX0, ac_0, by decide, kw_t52, rfl, rfl, (fun _ h => absurd h (by decide))⟩
set_option maxRecDepth 20000 in
theorem fl_X0_9 : ab_fld RX0 9 0 5 (.array .int) true true := ⟨RX0, TX0, 7, tyX0, ac_0, by decide, kw_t53, rfl, rfl, (fun _ _ => rfl)⟩
set_option maxRecDepth 20000 in
theorem fl_X7_101 : ab_fld RX7 101 0 5 (.array .int) true false := ⟨RX0, TX0, 7, tyX0, ac_0, by decide, kw_t54, rfl, rfl, (fun h => absurd h (by decide))⟩
set_option maxRecDepth 20000 in
theorem fl_X2_193 : ab_fld RX2 193 0 5 (.array .int) true false := ⟨RX0, TX0, 7, tyX0, ac_0, by decide, kw_t55, rfl, rfl, (fun h => absurd h (by decide))⟩
set_option maxRecDepth 20000 in
theorem fl_X0_15 : ab_fld RX0 15 0 6 (.array .int) true true := ⟨RX0, TX0, 7, tyX0, ac_0, by decide, kw_t56, rfl, rfl, (fun _ _ => rfl)⟩
set_option maxRecDepth 20000 in
theorem fl_X2_121 : ab_fld RX2 121 0 6 (.array .int) true false := ⟨RX0, TX0, 7, tyX0, ac_0, by decide, kw_t57, rfl, rfl, (fun h => absurd h (by decide))⟩
set_option maxRecDepth 20000 in
theorem fl_X3_9 : ab_fld RX3 9 3 0 .int false true := ⟨RX3, TX3, 4, tyX3, ac_3, by decide, kw_t80, rfl, rfl, (fun _ _ => rfl)⟩
set_option maxRecDepth 20000 in
theorem fl_X7_128 : ab_fld RX7 128 3 0 .int false true := ⟨RX3, TX3, 4, tyX3, ac_3, by decide, kw_t81, rfl, rfl, (fun _ h => absurd h (by decide))⟩
set_option maxRecDepth 20000 in
theorem fl_X2_145 : ab_fld RX2 145 3 0 .int false true := ⟨RX3, TX3, 4, tyX3, ac_3, by decide, kw_t82, rfl, rfl, (fun _ h => absurd h (by decide))⟩
set_option maxRecDepth 20000 in
theorem fl_X3_15 : ab_fld RX3 15 3 1 .int false true := ⟨RX3, TX3, 4, tyX3, ac_3, by decide, kw_t83, rfl, rfl, (fun _ _ => rfl)⟩
set_option maxRecDepth 20000 in
theorem fl_X7_133 : ab_fld RX7 133 3 1 .int false true := ⟨RX3, TX3, 4, tyX3, ac_3, by decide, kw_t84, rfl, rfl, (fun _ h => absurd h (by decide))⟩
set_option maxRecDepth 20000 in
theorem fl_X2_186 : ab_fld RX2 186 3 1 .int false true := ⟨RX3, TX3, 4, tyX3, ac_3, by decide, kw_t85, rfl, rfl, (fun _ h => absurd h (by decide))⟩
set_option maxRecDepth 20000 in
theorem fl_X3_18 : ab_fld RX3 18 3 2 .int false true := ⟨RX3, TX3, 4, tyX3, ac_3, by decide, kw_t86, rfl, rfl, (fun _ _ => rfl)⟩
set_option maxRecDepth 20000 in
theorem fl_X2_183 : ab_fld RX2 183 3 2 .int false true := ⟨RX3, TX3, 4, tyX3, ac_3, by decide, kw_t87, rfl, rfl, (fun _ h => absurd h (by decide))⟩
set_option maxRecDepth 20000 in
theorem fl_X3_21 : ab_fld RX3 21 3 3 .int false true := ⟨RX3, TX3, 4, tyX3, ac_3, by decide, kw_t88, rfl, rfl, (fun _ _ => rfl)⟩
set_option maxRecDepth 20000 in
theorem fl_X2_196 : ab_fld RX2 196 3 3 .int false true := ⟨RX3, TX3, 4, tyX3, ac_3, by decide, kw_t89, rfl, rfl, (fun _ h => absurd h (by decide))⟩
set_option maxRecDepth 20000 in
theorem fl_X2_11 : ab_fld RX2 11 2 0 (.array (.object "DailyRelief$Bunk")) true true := ⟨RX2, TX2, 16, tyX2, ac_2, by decide, kw_t99, rfl, rfl, (fun _ _ => rfl)⟩
set_option maxRecDepth 20000 in
theorem fl_X7_70 : ab_fld RX7 70 2 0 (.array (.object "DailyRelief$Bunk")) true false := ⟨RX2, TX2, 16, tyX2, ac_2, by decide, kw_t100, rfl, rfl, (fun h => absurd h (by decide))⟩
set_option maxRecDepth 20000 in
theorem fl_X2_52 : ab_fld RX2 52 2 1 .int false true := ⟨RX2, TX2, 16, tyX2, ac_2, by decide, kw_t101, rfl, rfl, (fun _ _ => rfl)⟩
set_option maxRecDepth 20000 in
theorem fl_X7_55 : ab_fld RX7 55 2 1 .int false true := ⟨RX2, TX2, 16, tyX2, ac_2, by decide, kw_t102, rfl, rfl, (fun _ h => absurd h (by decide))⟩
set_option maxRecDepth 20000 in
theorem fl_X2_17 : ab_fld RX2 17 2 2 (.array .int) true true := ⟨RX2, TX2, 16, tyX2, ac_2, by decide, kw_t103, rfl, rfl, (fun _ _ => rfl)⟩
set_option maxRecDepth 20000 in
theorem fl_X2_21 : ab_fld RX2 21 2 3 (.array .int) true true := ⟨RX2, TX2, 16, tyX2, ac_2, by decide, kw_t104, rfl, rfl, (fun _ _ => rfl)⟩
set_option maxRecDepth 20000 in
theorem fl_X2_55 : ab_fld RX2 55 2 4 .int false true := ⟨RX2, TX2, 16, tyX2, ac_2, by decide, kw_t105, rfl, rfl, (fun _ _ => rfl)⟩
set_option maxRecDepth 20000 in
theorem fl_X7_115 : ab_fld RX7 115 2 4 .int false true := ⟨RX2, TX2, 16, tyX2, ac_2, by decide, kw_t106, rfl, rfl, (fun _ h => absurd h (by decide))⟩
set_option maxRecDepth 20000 in
theorem fl_X2_58 : ab_fld RX2 58 2 5 .int false true := ⟨RX2, TX2, 16, tyX2, ac_2, by decide, kw_t107, rfl, rfl, (fun _ _ => rfl)⟩
set_option maxRecDepth 20000 in
theorem fl_X7_262 : ab_fld RX7 262 2 5 .int false true := ⟨RX2, TX2, 16, tyX2, ac_2, by decide, kw_t108, rfl, rfl, (fun _ h => absurd h (by decide))⟩
set_option maxRecDepth 20000 in
theorem fl_X2_61 : ab_fld RX2 61 2 6 .int false true := ⟨RX2, TX2, 16, tyX2, ac_2, by decide, kw_t109, rfl, rfl, (fun _ _ => rfl)⟩
set_option maxRecDepth 20000 in
theorem fl_X7_121 : ab_fld RX7 121 2 6 .int false true := ⟨RX2, TX2, 16, tyX2, ac_2, by decide, kw_t110, rfl, rfl, (fun _ h => absurd h (by decide))⟩
set_option maxRecDepth 20000 in
theorem fl_X2_26 : ab_fld RX2 26 2 7 (.array (.object "DailyRelief$Task")) true true := ⟨RX2, TX2, 16, tyX2, ac_2, by decide, kw_t111, rfl, rfl, (fun _ _ => rfl)⟩
set_option maxRecDepth 20000 in
theorem fl_X7_124 : ab_fld RX7 124 2 7 (.array (.object "DailyRelief$Task")) true false := ⟨RX2, TX2, 16, tyX2, ac_2, by decide, kw_t112, rfl, rfl, (fun h => absurd h (by decide))⟩
set_option maxRecDepth 20000 in
theorem fl_X2_64 : ab_fld RX2 64 2 8 .int false true := ⟨RX2, TX2, 16, tyX2, ac_2, by decide, kw_t113, rfl, rfl, (fun _ _ => rfl)⟩
set_option maxRecDepth 20000 in
theorem fl_X7_157 : ab_fld RX7 157 2 8 .int false true := ⟨RX2, TX2, 16, tyX2, ac_2, by decide, kw_t114, rfl, rfl, (fun _ h => absurd h (by decide))⟩
set_option maxRecDepth 20000 in
theorem fl_X2_30 : ab_fld RX2 30 2 9 .int false true := ⟨RX2, TX2, 16, tyX2, ac_2, by decide, kw_t115, rfl, rfl, (fun _ _ => rfl)⟩
set_option maxRecDepth 20000 in
theorem fl_X7_167 : ab_fld RX7 167 2 9 .int false true := ⟨RX2, TX2, 16, tyX2, ac_2, by decide, kw_t116, rfl, rfl, (fun _ h => absurd h (by decide))⟩
set_option maxRecDepth 20000 in
theorem fl_X2_34 : ab_fld RX2 34 2 10 .int false true := ⟨RX2, TX2, 16, tyX2, ac_2, by decide, kw_t117, rfl, rfl, (fun _ _ => rfl)⟩
set_option maxRecDepth 20000 in
theorem fl_X7_170 : ab_fld RX7 170 2 10 .int false true := ⟨RX2, TX2, 16, tyX2, ac_2, by decide, kw_t118, rfl, rfl, (fun _ h => absurd h (by decide))⟩
set_option maxRecDepth 20000 in
theorem fl_X2_37 : ab_fld RX2 37 2 11 (.array .byte) true true := ⟨RX2, TX2, 16, tyX2, ac_2, by decide, kw_t119, rfl, rfl, (fun _ _ => rfl)⟩
set_option maxRecDepth 20000 in
theorem fl_X7_142 : ab_fld RX7 142 2 11 (.array .byte) true false := ⟨RX2, TX2, 16, tyX2, ac_2, by decide, kw_t120, rfl, rfl, (fun h => absurd h (by decide))⟩
set_option maxRecDepth 20000 in
theorem fl_X2_67 : ab_fld RX2 67 2 12 .int false true := ⟨RX2, TX2, 16, tyX2, ac_2, by decide, kw_t121, rfl, rfl, (fun _ _ => rfl)⟩
set_option maxRecDepth 20000 in
theorem fl_X7_139 : ab_fld RX7 139 2 12 .int false true := ⟨RX2, TX2, 16, tyX2, ac_2, by decide, kw_t122, rfl, rfl, (fun _ h => absurd h (by decide))⟩
set_option maxRecDepth 20000 in
theorem fl_X2_43 : ab_fld RX2 43 2 13 (.array (.object "DailyRelief$Text")) true true := ⟨RX2, TX2, 16, tyX2, ac_2, by decide, kw_t123, rfl, rfl, (fun _ _ => rfl)⟩
set_option maxRecDepth 20000 in
theorem fl_X7_153 : ab_fld RX7 153 2 13 (.array (.object "DailyRelief$Text")) true false := ⟨RX2, TX2, 16, tyX2, ac_2, by decide, kw_t124, rfl, rfl, (fun h => absurd h (by decide))⟩
set_option maxRecDepth 20000 in
theorem fl_X2_47 : ab_fld RX2 47 2 14 (.array .int) true true := ⟨RX2, TX2, 16, tyX2, ac_2, by decide, kw_t125, rfl, rfl, (fun _ _ => rfl)⟩
set_option maxRecDepth 20000 in
theorem fl_X7_259 : ab_fld RX7 259 2 14 (.array .int) true false := ⟨RX2, TX2, 16, tyX2, ac_2, by decide, kw_t126, rfl, rfl, (fun h => absurd h (by decide))⟩
set_option maxRecDepth 20000 in
theorem fl_X2_70 : ab_fld RX2 70 2 15 .int false true := ⟨RX2, TX2, 16, tyX2, ac_2, by decide, kw_t127, rfl, rfl, (fun _ _ => rfl)⟩
set_option maxRecDepth 20000 in
theorem fl_X7_256 : ab_fld RX7 256 2 15 .int false true := ⟨RX2, TX2, 16, tyX2, ac_2, by decide, kw_t128, rfl, rfl, (fun _ h => absurd h (by decide))⟩
set_option maxRecDepth 20000 in
theorem fl_X5_15 : ab_fld RX5 15 5 0 (.array .byte) false true := ⟨RX5, TX5, 7, tyX5, ac_5, by decide, kw_t168, rfl, rfl, (fun _ _ => rfl)⟩
set_option maxRecDepth 20000 in
theorem fl_X5_25 : ab_fld RX5 25 5 1 .int false true := ⟨RX5, TX5, 7, tyX5, ac_5, by decide, kw_t169, rfl, rfl, (fun _ _ => rfl)⟩
set_option maxRecDepth 20000 in
theorem fl_X5_29 : ab_fld RX5 29 5 2 .int false true := ⟨RX5, TX5, 7, tyX5, ac_5, by decide, kw_t170, rfl, rfl, (fun _ _ => rfl)⟩
set_option maxRecDepth 20000 in
theorem fl_X5_32 : ab_fld RX5 32 5 3 .int false true := ⟨RX5, TX5, 7, tyX5, ac_5, by decide, kw_t171, rfl, rfl, (fun _ _ => rfl)⟩
set_option maxRecDepth 20000 in
theorem fl_X5_9 : ab_fld RX5 9 5 4 (.array .int) true true := ⟨RX5, TX5, 7, tyX5, ac_5, by decide, kw_t172, rfl, rfl, (fun _ _ => rfl)⟩
set_option maxRecDepth 20000 in
theorem fl_X5_35 : ab_fld RX5 35 5 5 .int false true := ⟨RX5, TX5, 7, tyX5, ac_5, by decide, kw_t173, rfl, rfl, (fun _ _ => rfl)⟩
set_option maxRecDepth 20000 in
theorem fl_X5_38 : ab_fld RX5 38 5 6 .int false true := ⟨RX5, TX5, 7, tyX5, ac_5, by decide, kw_t174, rfl, rfl, (fun _ _ => rfl)⟩
set_option maxRecDepth 20000 in
theorem fl_X7_150 : ab_fld RX7 150 5 6 .int false true := ⟨RX5, TX5, 7, tyX5, ac_5, by decide, kw_t175, rfl, rfl, (fun _ h => absurd h (by decide))⟩
set_option maxRecDepth 20000 in
theorem fl_X6_15 : ab_fld RX6 15 6 0 .int false true := ⟨RX6, TX6, 6, tyX6, ac_6, by decide, kw_t197, rfl, rfl, (fun _ _ => rfl)⟩
set_option maxRecDepth 20000 in
theorem fl_X6_19 : ab_fld RX6 19 6 1 .int false true := ⟨RX6, TX6, 6, tyX6, ac_6, by decide, kw_t198, rfl, rfl, (fun _ _ => rfl)⟩
set_option maxRecDepth 20000 in
theorem fl_X6_22 : ab_fld RX6 22 6 2 .int false true := ⟨RX6, TX6, 6, tyX6, ac_6, by decide, kw_t199, rfl, rfl, (fun _ _ => rfl)⟩
set_option maxRecDepth 20000 in
theorem fl_X6_9 : ab_fld RX6 9 6 3 (.array .int) true true := ⟨RX6, TX6, 6, tyX6, ac_6, by decide, kw_t200, rfl, rfl, (fun _ _ => rfl)⟩
set_option maxRecDepth 20000 in
theorem fl_X7_215 : ab_fld RX7 215 6 3 (.array .int) true false := ⟨RX6, TX6, 6, tyX6, ac_6, by decide, kw_t201, rfl, rfl, (fun h => absurd h (by decide))⟩
set_option maxRecDepth 20000 in
theorem fl_X6_25 : ab_fld RX6 25 6 4 .int false true := ⟨RX6, TX6, 6, tyX6, ac_6, by decide, kw_t202, rfl, rfl, (fun _ _ => rfl)⟩
set_option maxRecDepth 20000 in
theorem fl_X7_212 : ab_fld RX7 212 6 4 .int false true := ⟨RX6, TX6, 6, tyX6, ac_6, by decide, kw_t203, rfl, rfl, (fun _ h => absurd h (by decide))⟩
set_option maxRecDepth 20000 in
theorem fl_X6_28 : ab_fld RX6 28 6 5 .boolean false true := ⟨RX6, TX6, 6, tyX6, ac_6, by decide, kw_t204, rfl, rfl, (fun _ _ => rfl)⟩
set_option maxRecDepth 20000 in
theorem fl_X7_208 : ab_fld RX7 208 6 5 .boolean false true := ⟨RX6, TX6, 6, tyX6, ac_6, by decide, kw_t205, rfl, rfl, (fun _ h => absurd h (by decide))⟩
set_option maxRecDepth 20000 in
theorem fl_X1_15 : ab_fld RX1 15 1 0 .int false true := ⟨RX1, TX1, 3, tyX1, ac_1, by decide, kw_t226, rfl, rfl, (fun _ _ => rfl)⟩
set_option maxRecDepth 20000 in
theorem fl_X7_234 : ab_fld RX7 234 1 0 .int false true := ⟨RX1, TX1, 3, tyX1, ac_1, by decide, kw_t227, rfl, rfl, (fun _ h => absurd h (by decide))⟩
set_option maxRecDepth 20000 in
theorem fl_X1_19 : ab_fld RX1 19 1 1 .int false true := ⟨RX1, TX1, 3, tyX1, ac_1, by decide, kw_t228, rfl, rfl, (fun _ _ => rfl)⟩
set_option maxRecDepth 20000 in
theorem fl_X7_228 : ab_fld RX7 228 1 1 .int false true := ⟨RX1, TX1, 3, tyX1, ac_1, by decide, kw_t229, rfl, rfl, (fun _ h => absurd h (by decide))⟩
set_option maxRecDepth 20000 in
theorem fl_X1_9 : ab_fld RX1 9 1 2 (.array .int) true true := ⟨RX1, TX1, 3, tyX1, ac_1, by decide, kw_t230, rfl, rfl, (fun _ _ => rfl)⟩
set_option maxRecDepth 20000 in
theorem fl_X7_240 : ab_fld RX7 240 1 2 (.array .int) true false := ⟨RX1, TX1, 3, tyX1, ac_1, by decide, kw_t231, rfl, rfl, (fun h => absurd h (by decide))⟩
set_option maxRecDepth 20000 in
theorem fl_X7_10 : ab_fld RX7 10 7 0 (.object "DailyRelief$Ship") true true := ⟨RX7, TX7, 8, tyX7, ac_7, by decide, kw_t239, rfl, rfl, (fun _ _ => rfl)⟩
set_option maxRecDepth 20000 in
theorem fl_X7_16 : ab_fld RX7 16 7 1 (.object "DailyRelief$Ship") true true := ⟨RX7, TX7, 8, tyX7, ac_7, by decide, kw_t240, rfl, rfl, (fun _ _ => rfl)⟩
set_option maxRecDepth 20000 in
theorem fl_X7_19 : ab_fld RX7 19 7 2 (.object "DailyRelief$Ship") true true := ⟨RX7, TX7, 8, tyX7, ac_7, by decide, kw_t241, rfl, rfl, (fun _ _ => rfl)⟩
set_option maxRecDepth 20000 in
theorem fl_X7_25 : ab_fld RX7 25 7 3 (.object "DailyRelief$TextReader") true true := ⟨RX7, TX7, 8, tyX7, ac_7, by decide, kw_t242, rfl, rfl, (fun _ _ => rfl)⟩
set_option maxRecDepth 20000 in
theorem fl_X7_32 : ab_fld RX7 32 7 4 (.object "DailyRelief$Voices") true true := ⟨RX7, TX7, 8, tyX7, ac_7, by decide, kw_t243, rfl, rfl, (fun _ _ => rfl)⟩
set_option maxRecDepth 20000 in
theorem fl_X7_38 : ab_fld RX7 38 7 5 (.array (.object "DailyRelief$Sheet")) true true := ⟨RX7, TX7, 8, tyX7, ac_7, by decide, kw_t244, rfl, rfl, (fun _ _ => rfl)⟩
set_option maxRecDepth 20000 in
theorem fl_X7_42 : ab_fld RX7 42 7 6 (.array .int) true true := ⟨RX7, TX7, 8, tyX7, ac_7, by decide, kw_t245, rfl, rfl, (fun _ _ => rfl)⟩
set_option maxRecDepth 20000 in
theorem fl_X7_253 : ab_fld RX7 253 7 7 .int false true := ⟨RX7, TX7, 8, tyX7, ac_7, by decide, kw_t246, rfl, rfl, (fun _ _ => rfl)⟩
set_option maxRecDepth 20000 in
theorem fl_X4_7 : ab_fld RX4 7 4 0 (.array .int) true true := ⟨RX4, TX4, 2, tyX4, ac_4, by decide, kw_t466, rfl, rfl, (fun _ _ => rfl)⟩
set_option maxRecDepth 20000 in
theorem fl_X4_13 : ab_fld RX4 13 4 1 (.array .int) true true := ⟨RX4, TX4, 2, tyX4, ac_4, by decide, kw_t467, rfl, rfl, (fun _ _ => rfl)⟩
set_option maxRecDepth 20000 in
theorem fl_X8_7 : ab_fld RX8 7 8 0 (.array .int) true true := ⟨RX8, TX8, 22, tyX8, ac_8, by decide, kw_t743, rfl, rfl, (fun _ _ => rfl)⟩
set_option maxRecDepth 20000 in
theorem fl_X8_13 : ab_fld RX8 13 8 1 (.array .int) true true := ⟨RX8, TX8, 22, tyX8, ac_8, by decide, kw_t744, rfl, rfl, (fun _ _ => rfl)⟩
set_option maxRecDepth 20000 in
theorem fl_X8_16 : ab_fld RX8 16 8 2 (.array .int) true true := ⟨RX8, TX8, 22, tyX8, ac_8, by decide, kw_t745, rfl, rfl, (fun _ _ => rfl)⟩
set_option maxRecDepth 20000 in
theorem fl_X8_19 : ab_fld RX8 19 8 3 (.array .int) true true := ⟨RX8, TX8, 22, tyX8, ac_8, by decide, kw_t746, rfl, rfl, (fun _ _ => rfl)⟩
set_option maxRecDepth 20000 in
theorem fl_X8_312 : ab_fld RX8 312 8 4 .int false true := ⟨RX8, TX8, 22, tyX8, ac_8, by decide, kw_t747, rfl, rfl, (fun _ _ => rfl)⟩
set_option maxRecDepth 20000 in
theorem fl_X8_22 : ab_fld RX8 22 8 5 (.array .int) true true := ⟨RX8, TX8, 22, tyX8, ac_8, by decide, kw_t748, rfl, rfl, (fun _ _ => rfl)⟩
set_option maxRecDepth 20000 in
theorem fl_X8_151 : ab_fld RX8 151 8 6 .int false true := ⟨RX8, TX8, 22, tyX8, ac_8, by decide, kw_t749, rfl, rfl, (fun _ _ => rfl)⟩
set_option maxRecDepth 20000 in
theorem fl_X8_190 : ab_fld RX8 190 8 7 .int false true := ⟨RX8, TX8, 22, tyX8, ac_8, by decide, kw_t750, rfl, rfl, (fun _ _ => rfl)⟩
set_option maxRecDepth 20000 in
theorem fl_X8_167 : ab_fld RX8 167 8 8 .int false true := ⟨RX8, TX8, 22, tyX8, ac_8, by decide, kw_t751, rfl, rfl, (fun _ _ => rfl)⟩
set_option maxRecDepth 20000 in
theorem fl_X8_170 : ab_fld RX8 170 8 9 .int false true := ⟨RX8, TX8, 22, tyX8, ac_8, by decide, kw_t752, rfl, rfl, (fun _ _ => rfl)⟩
set_option maxRecDepth 20000 in
theorem fl_X8_155 : ab_fld RX8 155 8 10 .boolean false true := ⟨RX8, TX8, 22, tyX8, ac_8, by decide, kw_t753, rfl, rfl, (fun _ _ => rfl)⟩
set_option maxRecDepth 20000 in
theorem fl_X8_25 : ab_fld RX8 25 8 11 (.array .int) true true := ⟨RX8, TX8, 22, tyX8, ac_8, by decide, kw_t754, rfl, rfl, (fun _ _ => rfl)⟩
set_option maxRecDepth 20000 in
theorem fl_X8_215 : ab_fld RX8 215 8 12 .int false true := ⟨RX8, TX8, 22, tyX8, ac_8, by decide, kw_t755, rfl, rfl, (fun _ _ => rfl)⟩
set_option maxRecDepth 20000 in
theorem fl_X8_227 : ab_fld RX8 227 8 13 .int false true := ⟨RX8, TX8, 22, tyX8, ac_8, by decide, kw_t756, rfl, rfl, (fun _ _ => rfl)⟩
set_option maxRecDepth 20000 in
theorem fl_X8_28 : ab_fld RX8 28 8 14 (.array .int) true true := ⟨RX8, TX8, 22, tyX8, ac_8, by decide, kw_t757, rfl, rfl, (fun _ _ => rfl)⟩
set_option maxRecDepth 20000 in
theorem fl_X8_278 : ab_fld RX8 278 8 15 .int false true := ⟨RX8, TX8, 22, tyX8, ac_8, by decide, kw_t758, rfl, rfl, (fun _ _ => rfl)⟩
set_option maxRecDepth 20000 in
theorem fl_X8_281 : ab_fld RX8 281 8 16 .int false true := ⟨RX8, TX8, 22, tyX8, ac_8, by decide, kw_t759, rfl, rfl, (fun _ _ => rfl)⟩
set_option maxRecDepth 20000 in
theorem fl_X8_293 : ab_fld RX8 293 8 17 .boolean false true := ⟨RX8, TX8, 22, tyX8, ac_8, by decide, kw_t760, rfl, rfl, (fun _ _ => rfl)⟩
set_option maxRecDepth 20000 in
theorem fl_X8_31 : ab_fld RX8 31 8 18 (.array .int) true true := ⟨RX8, TX8, 22, tyX8, ac_8, by decide, kw_t761, rfl, rfl, (fun _ _ => rfl)⟩
set_option maxRecDepth 20000 in
theorem fl_X8_34 : ab_fld RX8 34 8 19 (.array .int) true true := ⟨RX8, TX8, 22, tyX8, ac_8, by decide, kw_t762, rfl, rfl, (fun _ _ => rfl)⟩
set_option maxRecDepth 20000 in
theorem fl_X8_37 : ab_fld RX8 37 8 20 (.array .int) true true := ⟨RX8, TX8, 22, tyX8, ac_8, by decide, kw_t763, rfl, rfl, (fun _ _ => rfl)⟩
set_option maxRecDepth 20000 in
theorem fl_X8_40 : ab_fld RX8 40 8 21 (.array .int) true true := ⟨RX8, TX8, 22, tyX8, ac_8, by decide, kw_t764, rfl, rfl, (fun _ _ => rfl)⟩
set_option maxRecDepth 20000 in
theorem cl_L_9 : ab_LI RL 9 yX7_init cX7_init 2 0 := ⟨kw_t15, kw_t16, rfl, kw_t1, kw_t17, ⟨by decide +kernel, by decide +kernel, by decide +kernel⟩⟩
set_option maxRecDepth 20000 in
theorem cl_X7_9 : ab_LI RX7 9 yX2_init cX2_init 2 0 := ⟨kw_t23, kw_t24, rfl, kw_t2, kw_t25, ⟨by decide +kernel, by decide +kernel, by decide +kernel⟩⟩
set_option maxRecDepth 20000 in
theorem cl_X2_50 : ab_LJ RX2 50 RX7 yX0_init cX0_init 1 0 := ⟨(fun _ h => h.1), kw_t35, rfl, kw_t3, kw_t36, ⟨by decide +kernel, by decide +kernel, by decide +kernel⟩⟩
set_option maxRecDepth 20000 in
theorem cl_X2_51 : ab_LJ RX2 51 RX7 yX3_init cX3_init 1 0 := ⟨(fun _ h => h.2.1), kw_t77, rfl, kw_t4, kw_t78, ⟨by decide +kernel, by decide +kernel, by decide +kernel⟩⟩
set_option maxRecDepth 20000 in
theorem cl_X7_24 : ab_LJ RX7 24 RX7 yX5_init cX5_init 1 0 := ⟨(fun _ h => h.2.2.1), kw_t165, rfl, kw_t5, kw_t166, ⟨by decide +kernel, by decide +kernel, by decide +kernel⟩⟩
set_option maxRecDepth 20000 in
theorem cl_X7_31 : ab_LJ RX7 31 RX7 yX6_init cX6_init 1 0 := ⟨(fun _ h => h.2.2.2.1), kw_t194, rfl, kw_t6, kw_t195, ⟨by decide +kernel, by decide +kernel, by decide +kernel⟩⟩
set_option maxRecDepth 20000 in
theorem cl_X7_46 : ab_LJ RX7 46 RX7 yX1_init cX1_init 1 0 := ⟨(fun _ h => h.2.2.2.2.1), kw_t223, rfl, kw_t7, kw_t224, ⟨by decide +kernel, by decide +kernel, by decide +kernel⟩⟩
set_option maxRecDepth 20000 in
theorem cl_L_13 : ab_LV RL 13 yX7_bunk cX7_bunk 2 (some .int) 1 := ⟨kw_t264, kw_t265, kw_t266, kw_t1, kw_t267, ⟨by decide +kernel, by decide +kernel, by decide +kernel⟩⟩
set_option maxRecDepth 20000 in
theorem cl_X7_47 : ab_LS RX7 47 yX7_within cX7_within 3 (some .boolean) 3 := ⟨kw_t268, kw_t269, kw_t1, kw_t270, ⟨by decide +kernel, by decide +kernel, by decide +kernel⟩⟩
set_option maxRecDepth 20000 in
theorem cl_X7_51 : ab_LV RX7 51 yX7_error cX7_error 2 (some .int) 1 := ⟨kw_t271, kw_t273, kw_p0, kw_t1, kw_t274, ⟨by decide +kernel, by decide +kernel, by decide +kernel⟩⟩
set_option maxRecDepth 20000 in
theorem cl_X7_59 : ab_LV RX7 59 yX2_addBunk cX2_addBunk 2 (some .int) 1 := ⟨kw_t276, kw_t277, kw_t278, kw_t2, kw_t279, ⟨by decide +kernel, by decide +kernel, by decide +kernel⟩⟩
set_option maxRecDepth 20000 in
theorem cl_X2_86 : ab_LV RX2 86 yX0_settle cX0_settle 4 none 2 := ⟨kw_t280, kw_t281, kw_t282, kw_t3, kw_t283, ⟨by decide +kernel, by decide +kernel, by decide +kernel⟩⟩
set_option maxRecDepth 20000 in
theorem cl_X0_40 : ab_LV RX0 40 yX0_forget cX0_forget 2 none 1 := ⟨kw_t284, kw_t285, kw_t286, kw_t3, kw_t287, ⟨by decide +kernel, by decide +kernel, by decide +kernel⟩⟩
set_option maxRecDepth 20000 in
theorem cl_L_18 : ab_LV RL 18 yX7_bunkIs cX7_bunkIs 3 (some .int) 2 := ⟨kw_t288, kw_t289, kw_t290, kw_t1, kw_t291, ⟨by decide +kernel, by decide +kernel, by decide +kernel⟩⟩
set_option maxRecDepth 20000 in
theorem cl_X7_62 : ab_LV RX7 62 yX7_isBunk cX7_isBunk 2 (some .boolean) 1 := ⟨kw_t292, kw_t294, kw_p1, kw_t1, kw_t295, ⟨by decide +kernel, by decide +kernel, by decide +kernel⟩⟩
set_option maxRecDepth 20000 in
theorem cl_X7_66 : ab_LV RX7 66 yX2_ofMan cX2_ofMan 4 (some .int) 2 := ⟨kw_t296, kw_t297, kw_t298, kw_t2, kw_t299, ⟨by decide +kernel, by decide +kernel, by decide +kernel⟩⟩
set_option maxRecDepth 20000 in
theorem cl_X2_179 : ab_LV RX2 179 yX2_pay cX2_pay 5 (some .int) 1 := ⟨kw_t300, kw_t302, kw_p2, kw_t2, kw_t303, ⟨by decide +kernel, by decide +kernel, by decide +kernel⟩⟩
set_option maxRecDepth 20000 in
theorem cl_X2_164 : ab_LS RX2 164 yJ6_bitCount_0f7a4 cJ6_bitCount_0f7a4 1 (some .int) 1 := ⟨kw_t304, kw_t305, kw_t9, kw_t306, ⟨by decide +kernel, by decide +kernel, by decide +kernel⟩⟩
set_option maxRecDepth 20000 in
theorem cl_X2_169 : ab_LV RX2 169 yX4_value cX4_value 7 (some .int) 3 := ⟨kw_t310, kw_t311, kw_t312, kw_t10, kw_t313, ⟨by decide +kernel, by decide +kernel, by decide +kernel⟩⟩
set_option maxRecDepth 20000 in
theorem cl_X4_22 : ab_LS RX4 22 yX4_joined cX4_joined 3 (some .int) 3 := ⟨kw_t314, kw_t315, kw_t10, kw_t316, ⟨by decide +kernel, by decide +kernel, by decide +kernel⟩⟩
set_option maxRecDepth 20000 in
theorem cl_X2_189 : ab_LV RX2 189 yX2_ofKnack cX2_ofKnack 4 (some .int) 3 := ⟨kw_t323, kw_t325, kw_p3, kw_t2, kw_t326, ⟨by decide +kernel, by decide +kernel, by decide +kernel⟩⟩
set_option maxRecDepth 20000 in
theorem cl_X2_130 : ab_LV RX2 130 yX2_needs cX2_needs 6 (some .int) 2 := ⟨kw_t327, kw_t329, kw_p4, kw_t2, kw_t330, ⟨by decide +kernel, by decide +kernel, by decide +kernel⟩⟩
set_option maxRecDepth 20000 in
theorem cl_L_23 : ab_LV RL 23 yX7_as cX7_as 3 (some .int) 2 := ⟨kw_t331, kw_t332, kw_t333, kw_t1, kw_t334, ⟨by decide +kernel, by decide +kernel, by decide +kernel⟩⟩
set_option maxRecDepth 20000 in
theorem cl_X7_74 : ab_LV RX7 74 yX0_isOf cX0_isOf 4 (some .boolean) 1 := ⟨kw_t335, kw_t336, kw_t337, kw_t3, kw_t338, ⟨by decide +kernel, by decide +kernel, by decide +kernel⟩⟩
set_option maxRecDepth 20000 in
theorem cl_L_27 : ab_LV RL 27 yX7_set cX7_set 6 (some .int) 3 := ⟨kw_t341, kw_t342, kw_t343, kw_t1, kw_t344, ⟨by decide +kernel, by decide +kernel, by decide +kernel⟩⟩
set_option maxRecDepth 20000 in
theorem cl_X7_82 : ab_LS RX7 82 yX7_maySet cX7_maySet 2 (some .boolean) 2 := ⟨kw_t345, kw_t346, kw_t1, kw_t347, ⟨by decide +kernel, by decide +kernel, by decide +kernel⟩⟩
set_option maxRecDepth 20000 in
theorem cl_L_32 : ab_LV RL 32 yX7_know cX7_know 6 (some .int) 3 := ⟨kw_t348, kw_t349, kw_t350, kw_t1, kw_t351, ⟨by decide +kernel, by decide +kernel, by decide +kernel⟩⟩
set_option maxRecDepth 20000 in
theorem cl_X7_95 : ab_LS RX7 95 yX7_isKnack cX7_isKnack 1 (some .boolean) 1 := ⟨kw_t352, kw_t353, kw_t1, kw_t354, ⟨by decide +kernel, by decide +kernel, by decide +kernel⟩⟩
set_option maxRecDepth 20000 in
theorem cl_X7_98 : ab_LV RX7 98 yX0_knows cX0_knows 2 (some .boolean) 1 := ⟨kw_t355, kw_t356, kw_t357, kw_t3, kw_t358, ⟨by decide +kernel, by decide +kernel, by decide +kernel⟩⟩
set_option maxRecDepth 20000 in
theorem cl_X0_48 : ab_LN RX0 48 RX7 yX7_isKnack cX7_isKnack 1 (some .boolean) 1 := ⟨(fun _ h => h.2.2.2.2.2.1), kw_t353, kw_t1, kw_t354, ⟨by decide +kernel, by decide +kernel, by decide +kernel⟩⟩
set_option maxRecDepth 20000 in
theorem cl_X7_104 : ab_LV RX7 104 yX0_forget cX0_forget 2 none 1 := ⟨kw_t360, kw_t285, kw_t286, kw_t3, kw_t287, ⟨by decide +kernel, by decide +kernel, by decide +kernel⟩⟩
set_option maxRecDepth 20000 in
theorem cl_X7_108 : ab_LV RX7 108 yX0_learn cX0_learn 3 none 2 := ⟨kw_t361, kw_t362, kw_t363, kw_t3, kw_t364, ⟨by decide +kernel, by decide +kernel, by decide +kernel⟩⟩
set_option maxRecDepth 20000 in
theorem cl_L_36 : ab_LV RL 36 yX7_roster cX7_roster 3 (some .int) 2 := ⟨kw_t365, kw_t366, kw_t367, kw_t1, kw_t368, ⟨by decide +kernel, by decide +kernel, by decide +kernel⟩⟩
set_option maxRecDepth 20000 in
theorem cl_X7_112 : ab_LS RX7 112 yX7_mayEnlist cX7_mayEnlist 2 (some .boolean) 2 := ⟨kw_t369, kw_t370, kw_t1, kw_t371, ⟨by decide +kernel, by decide +kernel, by decide +kernel⟩⟩
set_option maxRecDepth 20000 in
theorem cl_X7_118 : ab_LV RX7 118 yX2_enlist cX2_enlist 3 (some .int) 2 := ⟨kw_t372, kw_t373, kw_t374, kw_t2, kw_t375, ⟨by decide +kernel, by decide +kernel, by decide +kernel⟩⟩
set_option maxRecDepth 20000 in
theorem cl_L_40 : ab_LV RL 40 yX7_book cX7_book 3 (some .int) 1 := ⟨kw_t376, kw_t377, kw_t378, kw_t1, kw_t379, ⟨by decide +kernel, by decide +kernel, by decide +kernel⟩⟩
set_option maxRecDepth 20000 in
theorem cl_L_44 : ab_LV RL 44 yX7_task cX7_task 6 (some .int) 3 := ⟨kw_t380, kw_t381, kw_t382, kw_t1, kw_t383, ⟨by decide +kernel, by decide +kernel, by decide +kernel⟩⟩
set_option maxRecDepth 20000 in
theorem cl_L_48 : ab_LV RL 48 yX7_taskIs cX7_taskIs 3 (some .int) 2 := ⟨kw_t384, kw_t385, kw_t386, kw_t1, kw_t387, ⟨by decide +kernel, by decide +kernel, by decide +kernel⟩⟩
set_option maxRecDepth 20000 in
theorem cl_X7_136 : ab_LV RX7 136 yX2_ofTask cX2_ofTask 4 (some .int) 2 := ⟨kw_t388, kw_t389, kw_t390, kw_t2, kw_t391, ⟨by decide +kernel, by decide +kernel, by decide +kernel⟩⟩
set_option maxRecDepth 20000 in
theorem cl_X2_148 : ab_LV RX2 148 yX2_knowers cX2_knowers 4 (some .int) 1 := ⟨kw_t392, kw_t393, kw_t394, kw_t2, kw_t395, ⟨by decide +kernel, by decide +kernel, by decide +kernel⟩⟩
set_option maxRecDepth 20000 in
theorem cl_X2_115 : ab_LV RX2 115 yX0_knows cX0_knows 2 (some .boolean) 1 := ⟨kw_t396, kw_t356, kw_t357, kw_t3, kw_t358, ⟨by decide +kernel, by decide +kernel, by decide +kernel⟩⟩
set_option maxRecDepth 20000 in
theorem cl_L_54 : ab_LV RL 54 yX7_feed cX7_feed 5 (some .int) 2 := ⟨kw_t397, kw_t398, kw_t399, kw_t1, kw_t400, ⟨by decide +kernel, by decide +kernel, by decide +kernel⟩⟩
set_option maxRecDepth 20000 in
theorem cl_L_59 : ab_LV RL 59 yX7_text cX7_text 3 (some .int) 1 := ⟨kw_t401, kw_t402, kw_t403, kw_t1, kw_t404, ⟨by decide +kernel, by decide +kernel, by decide +kernel⟩⟩
set_option maxRecDepth 20000 in
theorem cl_X7_146 : ab_LV RX7 146 yX5_read cX5_read 4 (some (.object "DailyRelief$Text")) 3 := ⟨kw_t405, kw_t406, kw_t407, kw_t5, kw_t408, ⟨by decide +kernel, by decide +kernel, by decide +kernel⟩⟩
set_option maxRecDepth 20000 in
theorem cl_X5_41 : ab_LV RX5 41 yX5_readT cX5_readT 3 none 1 := ⟨kw_t410, kw_t412, kw_p5, kw_t5, kw_t413, ⟨by decide +kernel, by decide +kernel, by decide +kernel⟩⟩
set_option maxRecDepth 20000 in
theorem cl_X5_53 : ab_LV RX5 53 yX5_readA cX5_readA 3 none 1 := ⟨kw_t414, kw_t416, kw_p6, kw_t5, kw_t417, ⟨by decide +kernel, by decide +kernel, by decide +kernel⟩⟩
set_option maxRecDepth 20000 in
theorem cl_X5_63 : ab_LV RX5 63 yX5_readB cX5_readB 3 none 1 := ⟨kw_t418, kw_t420, kw_p7, kw_t5, kw_t421, ⟨by decide +kernel, by decide +kernel, by decide +kernel⟩⟩
set_option maxRecDepth 20000 in
theorem cl_X5_66 : ab_LV RX5 66 yX5_readS cX5_readS 4 none 1 := ⟨kw_t422, kw_t424, kw_p8, kw_t5, kw_t425, ⟨by decide +kernel, by decide +kernel, by decide +kernel⟩⟩
set_option maxRecDepth 20000 in
theorem cl_X5_73 : ab_LV RX5 73 yX5_readP cX5_readP 4 none 1 := ⟨kw_t426, kw_t428, kw_p9, kw_t5, kw_t429, ⟨by decide +kernel, by decide +kernel, by decide +kernel⟩⟩
set_option maxRecDepth 20000 in
theorem cl_X5_76 : ab_LV RX5 76 yX5_readQ cX5_readQ 3 none 1 := ⟨kw_t430, kw_t432, kw_p10, kw_t5, kw_t433, ⟨by decide +kernel, by decide +kernel, by decide +kernel⟩⟩
set_option maxRecDepth 20000 in
theorem cl_X5_69 : ab_LV RX5 69 yX5_ahead cX5_ahead 1 (some .int) 0 := ⟨kw_t434, kw_t436, kw_p11, kw_t5, kw_t437, ⟨by decide +kernel, by decide +kernel, by decide +kernel⟩⟩
set_option maxRecDepth 20000 in
theorem cl_X5_79 : ab_LS RX5 79 yX5_isDigit cX5_isDigit 1 (some .boolean) 1 := ⟨kw_t438, kw_t439, kw_t5, kw_t440, ⟨by decide +kernel, by decide +kernel, by decide +kernel⟩⟩
set_option maxRecDepth 20000 in
theorem cl_X5_82 : ab_LV RX5 82 yX5_readNumber cX5_readNumber 3 none 0 := ⟨kw_t441, kw_t443, kw_p12, kw_t5, kw_t444, ⟨by decide +kernel, by decide +kernel, by decide +kernel⟩⟩
set_option maxRecDepth 20000 in
theorem cl_X5_60 : ab_LV RX5 60 yX5_step cX5_step 2 none 1 := ⟨kw_t445, kw_t447, kw_p13, kw_t5, kw_t448, ⟨by decide +kernel, by decide +kernel, by decide +kernel⟩⟩
set_option maxRecDepth 20000 in
theorem cl_X5_56 : ab_LV RX5 56 yX5_takes cX5_takes 2 (some .boolean) 1 := ⟨kw_t449, kw_t451, kw_p14, kw_t5, kw_t452, ⟨by decide +kernel, by decide +kernel, by decide +kernel⟩⟩
set_option maxRecDepth 20000 in
theorem cl_X5_45 : ab_LV RX5 45 yX5_fail cX5_fail 1 none 0 := ⟨kw_t453, kw_t455, kw_p15, kw_t5, kw_t456, ⟨by decide +kernel, by decide +kernel, by decide +kernel⟩⟩
set_option maxRecDepth 20000 in
theorem cl_X5_50 : ab_LI RX5 50 yX4_init cX4_init 3 2 := ⟨kw_t459, kw_t460, rfl, kw_t10, kw_t461, ⟨by decide +kernel, by decide +kernel, by decide +kernel⟩⟩
set_option maxRecDepth 20000 in
theorem cl_L_63 : ab_LV RL 63 yX7_untell cX7_untell 3 (some .int) 1 := ⟨kw_t473, kw_t474, kw_t475, kw_t1, kw_t476, ⟨by decide +kernel, by decide +kernel, by decide +kernel⟩⟩
set_option maxRecDepth 20000 in
theorem cl_L_67 : ab_LV RL 67 yX7_days cX7_days 4 (some .int) 1 := ⟨kw_t477, kw_t478, kw_t479, kw_t1, kw_t480, ⟨by decide +kernel, by decide +kernel, by decide +kernel⟩⟩
set_option maxRecDepth 20000 in
theorem cl_X7_160 : ab_LV RX7 160 yX2_passDay cX2_passDay 2 (some .int) 0 := ⟨kw_t481, kw_t482, kw_t483, kw_t2, kw_t484, ⟨by decide +kernel, by decide +kernel, by decide +kernel⟩⟩
set_option maxRecDepth 20000 in
theorem cl_X2_93 : ab_LV RX2 93 yX2_relieve cX2_relieve 2 (some .int) 0 := ⟨kw_t485, kw_t487, kw_p16, kw_t2, kw_t488, ⟨by decide +kernel, by decide +kernel, by decide +kernel⟩⟩
set_option maxRecDepth 20000 in
theorem cl_X2_104 : ab_LV RX2 104 yX0_stays cX0_stays 2 (some .boolean) 1 := ⟨kw_t489, kw_t490, kw_t491, kw_t3, kw_t492, ⟨by decide +kernel, by decide +kernel, by decide +kernel⟩⟩
set_option maxRecDepth 20000 in
theorem cl_X2_108 : ab_LV RX2 108 yX0_learnAll cX0_learnAll 4 none 2 := ⟨kw_t493, kw_t494, kw_t495, kw_t3, kw_t496, ⟨by decide +kernel, by decide +kernel, by decide +kernel⟩⟩
set_option maxRecDepth 20000 in
theorem cl_X0_44 : ab_LV RX0 44 yX0_learn cX0_learn 3 none 2 := ⟨kw_t497, kw_t362, kw_t363, kw_t3, kw_t364, ⟨by decide +kernel, by decide +kernel, by decide +kernel⟩⟩
set_option maxRecDepth 20000 in
theorem cl_X2_97 : ab_LV RX2 97 yX2_teachAll cX2_teachAll 4 (some .int) 1 := ⟨kw_t498, kw_t500, kw_p17, kw_t2, kw_t501, ⟨by decide +kernel, by decide +kernel, by decide +kernel⟩⟩
set_option maxRecDepth 20000 in
theorem cl_X2_111 : ab_LV RX2 111 yX2_teach cX2_teach 6 (some .int) 3 := ⟨kw_t502, kw_t504, kw_p18, kw_t2, kw_t505, ⟨by decide +kernel, by decide +kernel, by decide +kernel⟩⟩
set_option maxRecDepth 20000 in
theorem cl_X2_118 : ab_LV RX2 118 yX0_isOf cX0_isOf 4 (some .boolean) 1 := ⟨kw_t506, kw_t336, kw_t337, kw_t3, kw_t338, ⟨by decide +kernel, by decide +kernel, by decide +kernel⟩⟩
set_option maxRecDepth 20000 in
theorem cl_X2_134 : ab_LV RX2 134 yX2_draw cX2_draw 1 (some .int) 0 := ⟨kw_t507, kw_t509, kw_p19, kw_t2, kw_t510, ⟨by decide +kernel, by decide +kernel, by decide +kernel⟩⟩
set_option maxRecDepth 20000 in
theorem cl_X2_137 : ab_LV RX2 137 yX0_tellsOf cX0_tellsOf 3 (some .int) 1 := ⟨kw_t512, kw_t513, kw_t514, kw_t3, kw_t515, ⟨by decide +kernel, by decide +kernel, by decide +kernel⟩⟩
set_option maxRecDepth 20000 in
theorem cl_X2_141 : ab_LV RX2 141 yX0_learn cX0_learn 3 none 2 := ⟨kw_t518, kw_t362, kw_t363, kw_t3, kw_t364, ⟨by decide +kernel, by decide +kernel, by decide +kernel⟩⟩
set_option maxRecDepth 20000 in
theorem cl_X2_101 : ab_LV RX2 101 yX2_endDay cX2_endDay 2 none 0 := ⟨kw_t519, kw_t521, kw_p20, kw_t2, kw_t522, ⟨by decide +kernel, by decide +kernel, by decide +kernel⟩⟩
set_option maxRecDepth 20000 in
theorem cl_X2_151 : ab_LV RX2 151 yX3_tryWith cX3_tryWith 2 none 1 := ⟨kw_t523, kw_t524, kw_t525, kw_t4, kw_t526, ⟨by decide +kernel, by decide +kernel, by decide +kernel⟩⟩
set_option maxRecDepth 20000 in
theorem cl_L_71 : ab_LV RL 71 yX7_draws cX7_draws 4 (some .int) 1 := ⟨kw_t529, kw_t530, kw_t531, kw_t1, kw_t532, ⟨by decide +kernel, by decide +kernel, by decide +kernel⟩⟩
set_option maxRecDepth 20000 in
theorem cl_X7_164 : ab_LV RX7 164 yX2_passDayByDraws cX2_passDayByDraws 2 (some .int) 0 := ⟨kw_t533, kw_t534, kw_t535, kw_t2, kw_t536, ⟨by decide +kernel, by decide +kernel, by decide +kernel⟩⟩
set_option maxRecDepth 20000 in
theorem cl_L_75 : ab_LV RL 75 yX7_misheard cX7_misheard 3 (some .int) 1 := ⟨kw_t537, kw_t538, kw_t539, kw_t1, kw_t540, ⟨by decide +kernel, by decide +kernel, by decide +kernel⟩⟩
set_option maxRecDepth 20000 in
theorem cl_L_79 : ab_LV RL 79 yX7_seed cX7_seed 3 (some .int) 1 := ⟨kw_t541, kw_t542, kw_t543, kw_t1, kw_t544, ⟨by decide +kernel, by decide +kernel, by decide +kernel⟩⟩
set_option maxRecDepth 20000 in
theorem cl_L_83 : ab_LV RL 83 yX7_then cX7_then 4 (some .int) 3 := ⟨kw_t545, kw_t546, kw_t547, kw_t1, kw_t548, ⟨by decide +kernel, by decide +kernel, by decide +kernel⟩⟩
set_option maxRecDepth 20000 in
theorem cl_X7_173 : ab_LV RX7 173 yX7_goAhead cX7_goAhead 3 none 1 := ⟨kw_t549, kw_t551, kw_p21, kw_t1, kw_t552, ⟨by decide +kernel, by decide +kernel, by decide +kernel⟩⟩
set_option maxRecDepth 20000 in
theorem cl_X7_249 : ab_LV RX7 249 yX2_copyFrom cX2_copyFrom 3 none 1 := ⟨kw_t553, kw_t554, kw_t555, kw_t2, kw_t556, ⟨by decide +kernel, by decide +kernel, by decide +kernel⟩⟩
set_option maxRecDepth 20000 in
theorem cl_X2_73 : ab_LV RX2 73 yX0_copyFrom cX0_copyFrom 2 none 1 := ⟨kw_t557, kw_t558, kw_t559, kw_t3, kw_t560, ⟨by decide +kernel, by decide +kernel, by decide +kernel⟩⟩
set_option maxRecDepth 20000 in
theorem cl_X2_77 : ab_LV RX2 77 yX3_copyFrom cX3_copyFrom 2 none 1 := ⟨kw_t562, kw_t563, kw_t564, kw_t4, kw_t565, ⟨by decide +kernel, by decide +kernel, by decide +kernel⟩⟩
set_option maxRecDepth 20000 in
theorem cl_L_87 : ab_LV RL 87 yX7_thenTask cX7_thenTask 4 (some .int) 3 := ⟨kw_t567, kw_t568, kw_t569, kw_t1, kw_t570, ⟨by decide +kernel, by decide +kernel, by decide +kernel⟩⟩
set_option maxRecDepth 20000 in
theorem cl_L_91 : ab_LV RL 91 yX7_lost cX7_lost 4 (some .int) 2 := ⟨kw_t571, kw_t572, kw_t573, kw_t1, kw_t574, ⟨by decide +kernel, by decide +kernel, by decide +kernel⟩⟩
set_option maxRecDepth 20000 in
theorem cl_X7_176 : ab_LV RX7 176 yX2_knowers cX2_knowers 4 (some .int) 1 := ⟨kw_t575, kw_t393, kw_t394, kw_t2, kw_t395, ⟨by decide +kernel, by decide +kernel, by decide +kernel⟩⟩
set_option maxRecDepth 20000 in
theorem cl_L_95 : ab_LV RL 95 yX7_teachers cX7_teachers 7 (some .int) 3 := ⟨kw_t576, kw_t577, kw_t578, kw_t1, kw_t579, ⟨by decide +kernel, by decide +kernel, by decide +kernel⟩⟩
set_option maxRecDepth 20000 in
theorem cl_X7_179 : ab_LS RX7 179 yJ6_bitCount_0f7a4 cJ6_bitCount_0f7a4 1 (some .int) 1 := ⟨kw_t580, kw_t305, kw_t9, kw_t306, ⟨by decide +kernel, by decide +kernel, by decide +kernel⟩⟩
set_option maxRecDepth 20000 in
theorem cl_X7_184 : ab_LV RX7 184 yX7_staysKnown cX7_staysKnown 5 (some .boolean) 3 := ⟨kw_t581, kw_t583, kw_p22, kw_t1, kw_t584, ⟨by decide +kernel, by decide +kernel, by decide +kernel⟩⟩
set_option maxRecDepth 20000 in
theorem cl_X7_269 : ab_LV RX7 269 yX2_teachOnly cX2_teachOnly 4 none 2 := ⟨kw_t585, kw_t586, kw_t587, kw_t2, kw_t588, ⟨by decide +kernel, by decide +kernel, by decide +kernel⟩⟩
set_option maxRecDepth 20000 in
theorem cl_L_99 : ab_LV RL 99 yX7_storm cX7_storm 6 (some .int) 1 := ⟨kw_t589, kw_t590, kw_t591, kw_t1, kw_t592, ⟨by decide +kernel, by decide +kernel, by decide +kernel⟩⟩
set_option maxRecDepth 20000 in
theorem cl_X7_187 : ab_LV RX7 187 yX2_canSpare cX2_canSpare 6 (some .boolean) 2 := ⟨kw_t593, kw_t594, kw_t595, kw_t2, kw_t596, ⟨by decide +kernel, by decide +kernel, by decide +kernel⟩⟩
set_option maxRecDepth 20000 in
theorem cl_L_103 : ab_LV RL 103 yX7_saves cX7_saves 4 (some .int) 2 := ⟨kw_t597, kw_t598, kw_t599, kw_t1, kw_t600, ⟨by decide +kernel, by decide +kernel, by decide +kernel⟩⟩
set_option maxRecDepth 20000 in
theorem cl_X7_190 : ab_LV RX7 190 yX7_doneWithBook cX7_doneWithBook 4 (some .int) 2 := ⟨kw_t601, kw_t603, kw_p23, kw_t1, kw_t604, ⟨by decide +kernel, by decide +kernel, by decide +kernel⟩⟩
set_option maxRecDepth 20000 in
theorem cl_X7_272 : ab_LV RX7 272 yX2_doneOfAll cX2_doneOfAll 3 (some .int) 0 := ⟨kw_t605, kw_t606, kw_t607, kw_t2, kw_t608, ⟨by decide +kernel, by decide +kernel, by decide +kernel⟩⟩
set_option maxRecDepth 20000 in
theorem cl_L_107 : ab_LV RL 107 yX7_changes cX7_changes 7 (some .int) 2 := ⟨kw_t609, kw_t610, kw_t611, kw_t1, kw_t612, ⟨by decide +kernel, by decide +kernel, by decide +kernel⟩⟩
set_option maxRecDepth 20000 in
theorem cl_L_111 : ab_LV RL 111 yX7_began cX7_began 7 (some .int) 2 := ⟨kw_t613, kw_t614, kw_t615, kw_t1, kw_t616, ⟨by decide +kernel, by decide +kernel, by decide +kernel⟩⟩
set_option maxRecDepth 20000 in
theorem cl_L_115 : ab_LV RL 115 yX7_handed cX7_handed 4 (some .int) 2 := ⟨kw_t618, kw_t619, kw_t620, kw_t1, kw_t621, ⟨by decide +kernel, by decide +kernel, by decide +kernel⟩⟩
set_option maxRecDepth 20000 in
theorem cl_L_119 : ab_LV RL 119 yX7_wages cX7_wages 4 (some .int) 1 := ⟨kw_t622, kw_t623, kw_t624, kw_t1, kw_t625, ⟨by decide +kernel, by decide +kernel, by decide +kernel⟩⟩
set_option maxRecDepth 20000 in
theorem cl_X7_201 : ab_LV RX7 201 yX2_payOfAll cX2_payOfAll 3 (some .int) 0 := ⟨kw_t626, kw_t627, kw_t628, kw_t2, kw_t629, ⟨by decide +kernel, by decide +kernel, by decide +kernel⟩⟩
set_option maxRecDepth 20000 in
theorem cl_L_123 : ab_LV RL 123 yX7_voice cX7_voice 6 (some .int) 3 := ⟨kw_t630, kw_t631, kw_t632, kw_t1, kw_t633, ⟨by decide +kernel, by decide +kernel, by decide +kernel⟩⟩
set_option maxRecDepth 20000 in
theorem cl_X7_204 : ab_LV RX7 204 yX6_speak cX6_speak 6 (some .int) 5 := ⟨kw_t634, kw_t635, kw_t636, kw_t6, kw_t637, ⟨by decide +kernel, by decide +kernel, by decide +kernel⟩⟩
set_option maxRecDepth 20000 in
theorem cl_X6_32 : ab_LV RX6 32 yX6_speakFrom cX6_speakFrom 8 (some .int) 4 := ⟨kw_t638, kw_t640, kw_p24, kw_t6, kw_t641, ⟨by decide +kernel, by decide +kernel, by decide +kernel⟩⟩
set_option maxRecDepth 20000 in
theorem cl_X6_42 : ab_LV RX6 42 yX6_run cX6_run 4 (some .int) 3 := ⟨kw_t644, kw_t646, kw_p25, kw_t6, kw_t647, ⟨by decide +kernel, by decide +kernel, by decide +kernel⟩⟩
set_option maxRecDepth 20000 in
theorem cl_X6_46 : ab_LV RX6 46 yX6_begin cX6_begin 2 none 1 := ⟨kw_t648, kw_t650, kw_p26, kw_t6, kw_t651, ⟨by decide +kernel, by decide +kernel, by decide +kernel⟩⟩
set_option maxRecDepth 20000 in
theorem cl_X6_50 : ab_LV RX6 50 yX6_own cX6_own 4 (some .int) 3 := ⟨kw_t652, kw_t654, kw_p27, kw_t6, kw_t655, ⟨by decide +kernel, by decide +kernel, by decide +kernel⟩⟩
set_option maxRecDepth 20000 in
theorem cl_X6_53 : ab_LV RX6 53 yX6_part cX6_part 3 (some .int) 2 := ⟨kw_t656, kw_t658, kw_p28, kw_t6, kw_t659, ⟨by decide +kernel, by decide +kernel, by decide +kernel⟩⟩
set_option maxRecDepth 20000 in
theorem cl_X6_57 : ab_LV RX6 57 yX6_above cX6_above 5 (some .int) 4 := ⟨kw_t660, kw_t662, kw_p29, kw_t6, kw_t663, ⟨by decide +kernel, by decide +kernel, by decide +kernel⟩⟩
set_option maxRecDepth 20000 in
theorem cl_L_127 : ab_LV RL 127 yX7_body cX7_body 2 (some .int) 1 := ⟨kw_t665, kw_t666, kw_t667, kw_t1, kw_t668, ⟨by decide +kernel, by decide +kernel, by decide +kernel⟩⟩
set_option maxRecDepth 20000 in
theorem cl_L_131 : ab_LV RL 131 yX7_sheet cX7_sheet 4 (some .int) 3 := ⟨kw_t669, kw_t670, kw_t671, kw_t1, kw_t672, ⟨by decide +kernel, by decide +kernel, by decide +kernel⟩⟩
set_option maxRecDepth 20000 in
theorem cl_X7_218 : ab_LS RX7 218 yX7_isSheet cX7_isSheet 1 (some .boolean) 1 := ⟨kw_t673, kw_t674, kw_t1, kw_t675, ⟨by decide +kernel, by decide +kernel, by decide +kernel⟩⟩
set_option maxRecDepth 20000 in
theorem cl_X7_221 : ab_LV RX7 221 yX1_lay cX1_lay 4 none 2 := ⟨kw_t676, kw_t677, kw_t678, kw_t7, kw_t679, ⟨by decide +kernel, by decide +kernel, by decide +kernel⟩⟩
set_option maxRecDepth 20000 in
theorem cl_L_135 : ab_LV RL 135 yX7_put cX7_put 5 (some .int) 3 := ⟨kw_t680, kw_t681, kw_t682, kw_t1, kw_t683, ⟨by decide +kernel, by decide +kernel, by decide +kernel⟩⟩
set_option maxRecDepth 20000 in
theorem cl_X7_224 : ab_LV RX7 224 yX1_isMissing cX1_isMissing 1 (some .boolean) 0 := ⟨kw_t684, kw_t685, kw_t686, kw_t7, kw_t687, ⟨by decide +kernel, by decide +kernel, by decide +kernel⟩⟩
set_option maxRecDepth 20000 in
theorem cl_X7_231 : ab_LV RX7 231 yX1_write cX1_write 3 none 2 := ⟨kw_t688, kw_t689, kw_t690, kw_t7, kw_t691, ⟨by decide +kernel, by decide +kernel, by decide +kernel⟩⟩
set_option maxRecDepth 20000 in
theorem cl_L_139 : ab_LV RL 139 yX7_move cX7_move 8 (some .int) 5 := ⟨kw_t692, kw_t693, kw_t694, kw_t1, kw_t695, ⟨by decide +kernel, by decide +kernel, by decide +kernel⟩⟩
set_option maxRecDepth 20000 in
theorem cl_X7_237 : ab_LV RX7 237 yX1_holds cX1_holds 3 (some .boolean) 2 := ⟨kw_t696, kw_t697, kw_t698, kw_t7, kw_t699, ⟨by decide +kernel, by decide +kernel, by decide +kernel⟩⟩
set_option maxRecDepth 20000 in
theorem cl_L_144 : ab_LV RL 144 yX7_rosters cX7_rosters 7 (some .int) 1 := ⟨kw_t701, kw_t702, kw_t703, kw_t1, kw_t704, ⟨by decide +kernel, by decide +kernel, by decide +kernel⟩⟩
set_option maxRecDepth 20000 in
theorem cl_L_148 : ab_LV RL 148 yX7_judge cX7_judge 5 (some .int) 1 := ⟨kw_t705, kw_t706, kw_t707, kw_t1, kw_t708, ⟨by decide +kernel, by decide +kernel, by decide +kernel⟩⟩
set_option maxRecDepth 20000 in
theorem cl_L_152 : ab_LV RL 152 yX7_image cX7_image 1 (some .int) 0 := ⟨kw_t709, kw_t710, kw_t711, kw_t1, kw_t712, ⟨by decide +kernel, by decide +kernel, by decide +kernel⟩⟩
set_option maxRecDepth 20000 in
theorem cl_L_157 : ab_LV RL 157 yX7_restore cX7_restore 1 (some .int) 0 := ⟨kw_t713, kw_t714, kw_t715, kw_t1, kw_t716, ⟨by decide +kernel, by decide +kernel, by decide +kernel⟩⟩
set_option maxRecDepth 20000 in
theorem cl_L_161 : ab_LV RL 161 yX7_tell cX7_tell 2 (some .int) 1 := ⟨kw_t717, kw_t718, kw_t719, kw_t1, kw_t720, ⟨by decide +kernel, by decide +kernel, by decide +kernel⟩⟩
set_option maxRecDepth 20000 in
theorem cl_L_165 : ab_LV RL 165 yX7_check cX7_check 4 (some .int) 1 := ⟨kw_t721, kw_t722, kw_t723, kw_t1, kw_t724, ⟨by decide +kernel, by decide +kernel, by decide +kernel⟩⟩
set_option maxRecDepth 20000 in
theorem cl_L_169 : ab_LV RL 169 yX7_count cX7_count 2 (some .int) 1 := ⟨kw_t725, kw_t726, kw_t727, kw_t1, kw_t728, ⟨by decide +kernel, by decide +kernel, by decide +kernel⟩⟩
set_option maxRecDepth 20000 in
theorem cl_X7_265 : ab_LV RX7 265 yX2_knownByAny cX2_knownByAny 3 (some .int) 0 := ⟨kw_t729, kw_t730, kw_t731, kw_t2, kw_t732, ⟨by decide +kernel, by decide +kernel, by decide +kernel⟩⟩
set_option maxRecDepth 20000 in
theorem cl_L_173 : ab_LV RL 173 yX7_told cX7_told 2 (some .int) 1 := ⟨kw_t733, kw_t734, kw_t735, kw_t1, kw_t736, ⟨by decide +kernel, by decide +kernel, by decide +kernel⟩⟩
set_option maxRecDepth 20000 in
theorem cl_L_12 : ab_LI RL 12 yX8_init cX8_init 1 0 := ⟨kw_t739, kw_t740, rfl, kw_t8, kw_t741, ⟨by decide +kernel, by decide +kernel, by decide +kernel⟩⟩
set_option maxRecDepth 20000 in
theorem cl_L_17 : ab_LV RL 17 yX8_bunk cX8_bunk 3 (some .int) 1 := ⟨kw_t810, kw_t811, kw_t812, kw_t8, kw_t813, ⟨by decide +kernel, by decide +kernel, by decide +kernel⟩⟩
set_option maxRecDepth 20000 in
theorem cl_X8_80 : ab_LS RX8 80 yX8_isMan cX8_isMan 1 (some .boolean) 1 := ⟨kw_t814, kw_t815, kw_t8, kw_t816, ⟨by decide +kernel, by decide +kernel, by decide +kernel⟩⟩
set_option maxRecDepth 20000 in
theorem cl_X8_44 : ab_LS RX8 44 yX8_in cX8_in 6 (some .boolean) 3 := ⟨kw_t818, kw_t819, kw_t8, kw_t820, ⟨by decide +kernel, by decide +kernel, by decide +kernel⟩⟩
set_option maxRecDepth 20000 in
theorem cl_X8_84 : ab_LV RX8 84 yX8_errs cX8_errs 2 (some .int) 1 := ⟨kw_t822, kw_t824, kw_p30, kw_t8, kw_t825, ⟨by decide +kernel, by decide +kernel, by decide +kernel⟩⟩
set_option maxRecDepth 20000 in
theorem cl_X8_88 : ab_LV RX8 88 yX8_comes cX8_comes 7 none 5 := ⟨kw_t827, kw_t829, kw_p31, kw_t8, kw_t830, ⟨by decide +kernel, by decide +kernel, by decide +kernel⟩⟩
set_option maxRecDepth 20000 in
theorem cl_X8_56 : ab_LS RX8 56 yX8_at cX8_at 2 (some .int) 2 := ⟨kw_t831, kw_t832, kw_t8, kw_t833, ⟨by decide +kernel, by decide +kernel, by decide +kernel⟩⟩
set_option maxRecDepth 20000 in
theorem cl_X8_63 : ab_LS RX8 63 yX8_has cX8_has 2 (some .boolean) 2 := ⟨kw_t834, kw_t835, kw_t8, kw_t836, ⟨by decide +kernel, by decide +kernel, by decide +kernel⟩⟩
set_option maxRecDepth 20000 in
theorem cl_L_22 : ab_LV RL 22 yX8_bunkIs cX8_bunkIs 3 (some .int) 2 := ⟨kw_t837, kw_t838, kw_t839, kw_t8, kw_t840, ⟨by decide +kernel, by decide +kernel, by decide +kernel⟩⟩
set_option maxRecDepth 20000 in
theorem cl_X8_98 : ab_LV RX8 98 yX8_isBunk cX8_isBunk 2 (some .boolean) 1 := ⟨kw_t841, kw_t843, kw_p32, kw_t8, kw_t844, ⟨by decide +kernel, by decide +kernel, by decide +kernel⟩⟩
set_option maxRecDepth 20000 in
theorem cl_X8_103 : ab_LV RX8 103 yX8_ofMan cX8_ofMan 3 (some .int) 2 := ⟨kw_t846, kw_t848, kw_p33, kw_t8, kw_t849, ⟨by decide +kernel, by decide +kernel, by decide +kernel⟩⟩
set_option maxRecDepth 20000 in
theorem cl_X8_60 : ab_LV RX8 60 yX8_its cX8_its 3 (some .int) 2 := ⟨kw_t850, kw_t852, kw_p34, kw_t8, kw_t853, ⟨by decide +kernel, by decide +kernel, by decide +kernel⟩⟩
set_option maxRecDepth 20000 in
theorem cl_X8_92 : ab_LV RX8 92 yX8_wagesOf cX8_wagesOf 4 (some .int) 1 := ⟨kw_t854, kw_t856, kw_p35, kw_t8, kw_t857, ⟨by decide +kernel, by decide +kernel, by decide +kernel⟩⟩
set_option maxRecDepth 20000 in
theorem cl_X8_67 : ab_LS RX8 67 yX8_ones cX8_ones 3 (some .int) 1 := ⟨kw_t858, kw_t859, kw_t8, kw_t860, ⟨by decide +kernel, by decide +kernel, by decide +kernel⟩⟩
set_option maxRecDepth 20000 in
theorem cl_X8_71 : ab_LV RX8 71 yX8_worked cX8_worked 9 (some .int) 5 := ⟨kw_t861, kw_t863, kw_p36, kw_t8, kw_t864, ⟨by decide +kernel, by decide +kernel, by decide +kernel⟩⟩
set_option maxRecDepth 20000 in
theorem cl_X8_52 : ab_LS RX8 52 yX8_by cX8_by 3 (some .int) 3 := ⟨kw_t865, kw_t866, kw_t8, kw_t867, ⟨by decide +kernel, by decide +kernel, by decide +kernel⟩⟩
set_option maxRecDepth 20000 in
theorem cl_X8_75 : ab_LS RX8 75 yX8_held cX8_held 3 (some .int) 3 := ⟨kw_t868, kw_t869, kw_t8, kw_t870, ⟨by decide +kernel, by decide +kernel, by decide +kernel⟩⟩
set_option maxRecDepth 20000 in
theorem cl_X8_95 : ab_LV RX8 95 yX8_needs cX8_needs 5 (some .int) 2 := ⟨kw_t871, kw_t873, kw_p37, kw_t8, kw_t874, ⟨by decide +kernel, by decide +kernel, by decide +kernel⟩⟩
set_option maxRecDepth 20000 in
theorem cl_L_26 : ab_LV RL 26 yX8_as cX8_as 5 (some .int) 2 := ⟨kw_t875, kw_t876, kw_t877, kw_t8, kw_t878, ⟨by decide +kernel, by decide +kernel, by decide +kernel⟩⟩
set_option maxRecDepth 20000 in
theorem cl_L_31 : ab_LV RL 31 yX8_set cX8_set 6 (some .int) 3 := ⟨kw_t881, kw_t882, kw_t883, kw_t8, kw_t884, ⟨by decide +kernel, by decide +kernel, by decide +kernel⟩⟩
set_option maxRecDepth 20000 in
theorem cl_L_35 : ab_LV RL 35 yX8_know cX8_know 5 (some .int) 3 := ⟨kw_t888, kw_t889, kw_t890, kw_t8, kw_t891, ⟨by decide +kernel, by decide +kernel, by decide +kernel⟩⟩
set_option maxRecDepth 20000 in
theorem cl_X8_113 : ab_LS RX8 113 yX8_isKnack cX8_isKnack 1 (some .boolean) 1 := ⟨kw_t892, kw_t893, kw_t8, kw_t894, ⟨by decide +kernel, by decide +kernel, by decide +kernel⟩⟩
set_option maxRecDepth 20000 in
theorem cl_X8_118 : ab_LV RX8 118 yX8_isKnowing cX8_isKnowing 3 (some .boolean) 2 := ⟨kw_t896, kw_t898, kw_p38, kw_t8, kw_t899, ⟨by decide +kernel, by decide +kernel, by decide +kernel⟩⟩
set_option maxRecDepth 20000 in
theorem cl_L_39 : ab_LV RL 39 yX8_roster cX8_roster 4 (some .int) 2 := ⟨kw_t900, kw_t901, kw_t902, kw_t8, kw_t903, ⟨by decide +kernel, by decide +kernel, by decide +kernel⟩⟩
set_option maxRecDepth 20000 in
theorem cl_X8_124 : ab_LV RX8 124 yX8_rosterWrong cX8_rosterWrong 3 (some .int) 2 := ⟨kw_t904, kw_t906, kw_p39, kw_t8, kw_t907, ⟨by decide +kernel, by decide +kernel, by decide +kernel⟩⟩
set_option maxRecDepth 20000 in
theorem cl_X8_121 : ab_LS RX8 121 yX8_isBits cX8_isBits 1 (some .boolean) 1 := ⟨kw_t908, kw_t909, kw_t8, kw_t910, ⟨by decide +kernel, by decide +kernel, by decide +kernel⟩⟩
set_option maxRecDepth 20000 in
theorem cl_X8_127 : ab_LV RX8 127 yX8_rostered cX8_rostered 3 none 2 := ⟨kw_t912, kw_t914, kw_p40, kw_t8, kw_t915, ⟨by decide +kernel, by decide +kernel, by decide +kernel⟩⟩
set_option maxRecDepth 20000 in
theorem cl_L_43 : ab_LV RL 43 yX8_book cX8_book 3 (some .int) 1 := ⟨kw_t916, kw_t917, kw_t918, kw_t8, kw_t919, ⟨by decide +kernel, by decide +kernel, by decide +kernel⟩⟩
set_option maxRecDepth 20000 in
theorem cl_L_47 : ab_LV RL 47 yX8_task cX8_task 5 (some .int) 3 := ⟨kw_t920, kw_t921, kw_t922, kw_t8, kw_t923, ⟨by decide +kernel, by decide +kernel, by decide +kernel⟩⟩
set_option maxRecDepth 20000 in
theorem cl_X8_136 : ab_LV RX8 136 yX8_ofTask cX8_ofTask 3 (some .int) 2 := ⟨kw_t925, kw_t927, kw_p41, kw_t8, kw_t928, ⟨by decide +kernel, by decide +kernel, by decide +kernel⟩⟩
set_option maxRecDepth 20000 in
theorem cl_X8_131 : ab_LS RX8 131 yX8_where cX8_where 2 (some .int) 2 := ⟨kw_t929, kw_t930, kw_t8, kw_t931, ⟨by decide +kernel, by decide +kernel, by decide +kernel⟩⟩
set_option maxRecDepth 20000 in
theorem cl_L_51 : ab_LV RL 51 yX8_taskIs cX8_taskIs 3 (some .int) 2 := ⟨kw_t932, kw_t933, kw_t934, kw_t8, kw_t935, ⟨by decide +kernel, by decide +kernel, by decide +kernel⟩⟩
set_option maxRecDepth 20000 in
theorem cl_X8_144 : ab_LV RX8 144 yX8_toldTask cX8_toldTask 3 (some .int) 2 := ⟨kw_t937, kw_t939, kw_p42, kw_t8, kw_t940, ⟨by decide +kernel, by decide +kernel, by decide +kernel⟩⟩
set_option maxRecDepth 20000 in
theorem cl_X8_139 : ab_LV RX8 139 yX8_knowers cX8_knowers 4 (some .int) 1 := ⟨kw_t941, kw_t943, kw_p43, kw_t8, kw_t944, ⟨by decide +kernel, by decide +kernel, by decide +kernel⟩⟩
set_option maxRecDepth 20000 in
theorem cl_L_58 : ab_LV RL 58 yX8_feed cX8_feed 5 (some .int) 2 := ⟨kw_t945, kw_t946, kw_t947, kw_t8, kw_t948, ⟨by decide +kernel, by decide +kernel, by decide +kernel⟩⟩
set_option maxRecDepth 20000 in
theorem cl_L_62 : ab_LV RL 62 yX8_text cX8_text 4 (some .int) 1 := ⟨kw_t951, kw_t952, kw_t953, kw_t8, kw_t954, ⟨by decide +kernel, by decide +kernel, by decide +kernel⟩⟩
set_option maxRecDepth 20000 in
theorem cl_X8_196 : ab_LV RX8 196 yX8_readsText cX8_readsText 1 none 0 := ⟨kw_t955, kw_t957, kw_p44, kw_t8, kw_t958, ⟨by decide +kernel, by decide +kernel, by decide +kernel⟩⟩
set_option maxRecDepth 20000 in
theorem cl_X8_208 : ab_LV RX8 208 yX8_readsAll cX8_readsAll 1 none 0 := ⟨kw_t959, kw_t961, kw_p45, kw_t8, kw_t962, ⟨by decide +kernel, by decide +kernel, by decide +kernel⟩⟩
set_option maxRecDepth 20000 in
theorem cl_X8_205 : ab_LV RX8 205 yX8_readsComparison cX8_readsComparison 2 none 0 := ⟨kw_t963, kw_t965, kw_p46, kw_t8, kw_t966, ⟨by decide +kernel, by decide +kernel, by decide +kernel⟩⟩
set_option maxRecDepth 20000 in
theorem cl_X8_202 : ab_LV RX8 202 yX8_readsSum cX8_readsSum 2 none 0 := ⟨kw_t967, kw_t969, kw_p47, kw_t8, kw_t970, ⟨by decide +kernel, by decide +kernel, by decide +kernel⟩⟩
set_option maxRecDepth 20000 in
theorem cl_X8_199 : ab_LV RX8 199 yX8_readsProduct cX8_readsProduct 2 none 0 := ⟨kw_t971, kw_t973, kw_p48, kw_t8, kw_t974, ⟨by decide +kernel, by decide +kernel, by decide +kernel⟩⟩
set_option maxRecDepth 20000 in
theorem cl_X8_193 : ab_LV RX8 193 yX8_readsOne cX8_readsOne 3 none 0 := ⟨kw_t975, kw_t977, kw_p49, kw_t8, kw_t978, ⟨by decide +kernel, by decide +kernel, by decide +kernel⟩⟩
set_option maxRecDepth 20000 in
theorem cl_X8_181 : ab_LV RX8 181 yX8_nameHere cX8_nameHere 2 (some .int) 0 := ⟨kw_t979, kw_t981, kw_p50, kw_t8, kw_t982, ⟨by decide +kernel, by decide +kernel, by decide +kernel⟩⟩
set_option maxRecDepth 20000 in
theorem cl_X8_159 : ab_LV RX8 159 yX8_byteHere cX8_byteHere 1 (some .int) 0 := ⟨kw_t983, kw_t985, kw_p51, kw_t8, kw_t986, ⟨by decide +kernel, by decide +kernel, by decide +kernel⟩⟩
set_option maxRecDepth 20000 in
theorem cl_X8_173 : ab_LV RX8 173 yX8_isDigitHere cX8_isDigitHere 1 (some .boolean) 0 := ⟨kw_t987, kw_t989, kw_p52, kw_t8, kw_t990, ⟨by decide +kernel, by decide +kernel, by decide +kernel⟩⟩
set_option maxRecDepth 20000 in
theorem cl_X8_184 : ab_LV RX8 184 yX8_readsNumber cX8_readsNumber 3 none 0 := ⟨kw_t993, kw_t995, kw_p53, kw_t8, kw_t996, ⟨by decide +kernel, by decide +kernel, by decide +kernel⟩⟩
set_option maxRecDepth 20000 in
theorem cl_X8_177 : ab_LV RX8 177 yX8_writes cX8_writes 2 none 1 := ⟨kw_t997, kw_t999, kw_p54, kw_t8, kw_t1000, ⟨by decide +kernel, by decide +kernel, by decide +kernel⟩⟩
set_option maxRecDepth 20000 in
theorem cl_X8_187 : ab_LV RX8 187 yX8_isHere cX8_isHere 2 (some .boolean) 1 := ⟨kw_t1001, kw_t1003, kw_p55, kw_t8, kw_t1004, ⟨by decide +kernel, by decide +kernel, by decide +kernel⟩⟩
set_option maxRecDepth 20000 in
theorem cl_L_66 : ab_LV RL 66 yX8_untell cX8_untell 3 (some .int) 1 := ⟨kw_t1005, kw_t1006, kw_t1007, kw_t8, kw_t1008, ⟨by decide +kernel, by decide +kernel, by decide +kernel⟩⟩
set_option maxRecDepth 20000 in
theorem cl_L_70 : ab_LV RL 70 yX8_days cX8_days 3 (some .int) 1 := ⟨kw_t1009, kw_t1010, kw_t1011, kw_t8, kw_t1012, ⟨by decide +kernel, by decide +kernel, by decide +kernel⟩⟩
set_option maxRecDepth 20000 in
theorem cl_X8_248 : ab_LV RX8 248 yX8_daysWrong cX8_daysWrong 2 (some .int) 1 := ⟨kw_t1013, kw_t1015, kw_p56, kw_t8, kw_t1016, ⟨by decide +kernel, by decide +kernel, by decide +kernel⟩⟩
set_option maxRecDepth 20000 in
theorem cl_X8_244 : ab_LS RX8 244 yX8_isSpan cX8_isSpan 1 (some .boolean) 1 := ⟨kw_t1017, kw_t1018, kw_t8, kw_t1019, ⟨by decide +kernel, by decide +kernel, by decide +kernel⟩⟩
set_option maxRecDepth 20000 in
theorem cl_X8_251 : ab_LV RX8 251 yX8_daysGo cX8_daysGo 4 none 2 := ⟨kw_t1022, kw_t1024, kw_p57, kw_t8, kw_t1025, ⟨by decide +kernel, by decide +kernel, by decide +kernel⟩⟩
set_option maxRecDepth 20000 in
theorem cl_X8_238 : ab_LV RX8 238 yX8_day cX8_day 4 none 1 := ⟨kw_t1026, kw_t1028, kw_p58, kw_t8, kw_t1029, ⟨by decide +kernel, by decide +kernel, by decide +kernel⟩⟩
set_option maxRecDepth 20000 in
theorem cl_X8_230 : ab_LV RX8 230 yX8_relieves cX8_relieves 2 none 0 := ⟨kw_t1030, kw_t1032, kw_p59, kw_t8, kw_t1033, ⟨by decide +kernel, by decide +kernel, by decide +kernel⟩⟩
set_option maxRecDepth 20000 in
theorem cl_X8_212 : ab_LV RX8 212 yX8_isStaying cX8_isStaying 2 (some .boolean) 1 := ⟨kw_t1034, kw_t1036, kw_p60, kw_t8, kw_t1037, ⟨by decide +kernel, by decide +kernel, by decide +kernel⟩⟩
set_option maxRecDepth 20000 in
theorem cl_X8_233 : ab_LV RX8 233 yX8_lesson cX8_lesson 6 none 2 := ⟨kw_t1038, kw_t1040, kw_p61, kw_t8, kw_t1041, ⟨by decide +kernel, by decide +kernel, by decide +kernel⟩⟩
set_option maxRecDepth 20000 in
theorem cl_X8_218 : ab_LV RX8 218 yX8_isMute cX8_isMute 2 (some .boolean) 1 := ⟨kw_t1042, kw_t1044, kw_p62, kw_t8, kw_t1045, ⟨by decide +kernel, by decide +kernel, by decide +kernel⟩⟩
set_option maxRecDepth 20000 in
theorem cl_X8_221 : ab_LV RX8 221 yX8_tells cX8_tells 5 (some .int) 2 := ⟨kw_t1046, kw_t1048, kw_p63, kw_t8, kw_t1049, ⟨by decide +kernel, by decide +kernel, by decide +kernel⟩⟩
set_option maxRecDepth 20000 in
theorem cl_X8_224 : ab_LV RX8 224 yX8_draw cX8_draw 1 (some .int) 0 := ⟨kw_t1050, kw_t1052, kw_p64, kw_t8, kw_t1053, ⟨by decide +kernel, by decide +kernel, by decide +kernel⟩⟩
set_option maxRecDepth 20000 in
theorem cl_L_74 : ab_LV RL 74 yX8_draws cX8_draws 3 (some .int) 1 := ⟨kw_t1056, kw_t1057, kw_t1058, kw_t8, kw_t1059, ⟨by decide +kernel, by decide +kernel, by decide +kernel⟩⟩
set_option maxRecDepth 20000 in
theorem cl_L_78 : ab_LV RL 78 yX8_misheard cX8_misheard 3 (some .int) 1 := ⟨kw_t1060, kw_t1061, kw_t1062, kw_t8, kw_t1063, ⟨by decide +kernel, by decide +kernel, by decide +kernel⟩⟩
set_option maxRecDepth 20000 in
theorem cl_L_82 : ab_LV RL 82 yX8_seed cX8_seed 3 (some .int) 1 := ⟨kw_t1065, kw_t1066, kw_t1067, kw_t8, kw_t1068, ⟨by decide +kernel, by decide +kernel, by decide +kernel⟩⟩
set_option maxRecDepth 20000 in
theorem cl_L_86 : ab_LV RL 86 yX8_then cX8_then 5 (some .int) 3 := ⟨kw_t1069, kw_t1070, kw_t1071, kw_t8, kw_t1072, ⟨by decide +kernel, by decide +kernel, by decide +kernel⟩⟩
set_option maxRecDepth 20000 in
theorem cl_X8_256 : ab_LV RX8 256 yX8_keepsAside cX8_keepsAside 2 none 0 := ⟨kw_t1073, kw_t1075, kw_p65, kw_t8, kw_t1076, ⟨by decide +kernel, by decide +kernel, by decide +kernel⟩⟩
set_option maxRecDepth 20000 in
theorem cl_X8_259 : ab_LV RX8 259 yX8_putsBack cX8_putsBack 2 none 0 := ⟨kw_t1077, kw_t1079, kw_p66, kw_t8, kw_t1080, ⟨by decide +kernel, by decide +kernel, by decide +kernel⟩⟩
set_option maxRecDepth 20000 in
theorem cl_L_90 : ab_LV RL 90 yX8_thenTask cX8_thenTask 5 (some .int) 3 := ⟨kw_t1081, kw_t1082, kw_t1083, kw_t8, kw_t1084, ⟨by decide +kernel, by decide +kernel, by decide +kernel⟩⟩
set_option maxRecDepth 20000 in
theorem cl_L_94 : ab_LV RL 94 yX8_lost cX8_lost 4 (some .int) 2 := ⟨kw_t1085, kw_t1086, kw_t1087, kw_t8, kw_t1088, ⟨by decide +kernel, by decide +kernel, by decide +kernel⟩⟩
set_option maxRecDepth 20000 in
theorem cl_L_98 : ab_LV RL 98 yX8_teachers cX8_teachers 6 (some .int) 3 := ⟨kw_t1090, kw_t1091, kw_t1092, kw_t8, kw_t1093, ⟨by decide +kernel, by decide +kernel, by decide +kernel⟩⟩
set_option maxRecDepth 20000 in
theorem cl_X8_265 : ab_LV RX8 265 yX8_isKept cX8_isKept 6 (some .boolean) 3 := ⟨kw_t1095, kw_t1097, kw_p67, kw_t8, kw_t1098, ⟨by decide +kernel, by decide +kernel, by decide +kernel⟩⟩
set_option maxRecDepth 20000 in
theorem cl_L_102 : ab_LV RL 102 yX8_storm cX8_storm 6 (some .int) 1 := ⟨kw_t1099, kw_t1100, kw_t1101, kw_t8, kw_t1102, ⟨by decide +kernel, by decide +kernel, by decide +kernel⟩⟩
set_option maxRecDepth 20000 in
theorem cl_X8_269 : ab_LV RX8 269 yX8_isDoneWithout cX8_isDoneWithout 7 (some .boolean) 2 := ⟨kw_t1103, kw_t1105, kw_p68, kw_t8, kw_t1106, ⟨by decide +kernel, by decide +kernel, by decide +kernel⟩⟩
set_option maxRecDepth 20000 in
theorem cl_L_106 : ab_LV RL 106 yX8_saves cX8_saves 4 (some .int) 2 := ⟨kw_t1107, kw_t1108, kw_t1109, kw_t8, kw_t1110, ⟨by decide +kernel, by decide +kernel, by decide +kernel⟩⟩
set_option maxRecDepth 20000 in
theorem cl_X8_272 : ab_LV RX8 272 yX8_doneIn cX8_doneIn 5 (some .int) 2 := ⟨kw_t1111, kw_t1113, kw_p69, kw_t8, kw_t1114, ⟨by decide +kernel, by decide +kernel, by decide +kernel⟩⟩
set_option maxRecDepth 20000 in
theorem cl_L_110 : ab_LV RL 110 yX8_changes cX8_changes 6 (some .int) 2 := ⟨kw_t1115, kw_t1116, kw_t1117, kw_t8, kw_t1118, ⟨by decide +kernel, by decide +kernel, by decide +kernel⟩⟩
set_option maxRecDepth 20000 in
theorem cl_X8_275 : ab_LS RX8 275 yX8_isVersion cX8_isVersion 1 (some .boolean) 1 := ⟨kw_t1119, kw_t1120, kw_t8, kw_t1121, ⟨by decide +kernel, by decide +kernel, by decide +kernel⟩⟩
set_option maxRecDepth 20000 in
theorem cl_L_114 : ab_LV RL 114 yX8_began cX8_began 7 (some .int) 2 := ⟨kw_t1122, kw_t1123, kw_t1124, kw_t8, kw_t1125, ⟨by decide +kernel, by decide +kernel, by decide +kernel⟩⟩
set_option maxRecDepth 20000 in
theorem cl_L_118 : ab_LV RL 118 yX8_handed cX8_handed 4 (some .int) 2 := ⟨kw_t1126, kw_t1127, kw_t1128, kw_t8, kw_t1129, ⟨by decide +kernel, by decide +kernel, by decide +kernel⟩⟩
set_option maxRecDepth 20000 in
theorem cl_L_122 : ab_LV RL 122 yX8_wages cX8_wages 5 (some .int) 1 := ⟨kw_t1130, kw_t1131, kw_t1132, kw_t8, kw_t1133, ⟨by decide +kernel, by decide +kernel, by decide +kernel⟩⟩
set_option maxRecDepth 20000 in
theorem cl_L_126 : ab_LV RL 126 yX8_voice cX8_voice 5 (some .int) 3 := ⟨kw_t1134, kw_t1135, kw_t1136, kw_t8, kw_t1137, ⟨by decide +kernel, by decide +kernel, by decide +kernel⟩⟩
set_option maxRecDepth 20000 in
theorem cl_X8_287 : ab_LV RX8 287 yX8_hearing cX8_hearing 4 (some .int) 1 := ⟨kw_t1138, kw_t1140, kw_p70, kw_t8, kw_t1141, ⟨by decide +kernel, by decide +kernel, by decide +kernel⟩⟩
set_option maxRecDepth 20000 in
theorem cl_X8_284 : ab_LV RX8 284 yX8_runs cX8_runs 2 none 1 := ⟨kw_t1142, kw_t1144, kw_p71, kw_t8, kw_t1145, ⟨by decide +kernel, by decide +kernel, by decide +kernel⟩⟩
set_option maxRecDepth 20000 in
theorem cl_X8_290 : ab_LV RX8 290 yX8_telling cX8_telling 4 (some .int) 1 := ⟨kw_t1146, kw_t1148, kw_p72, kw_t8, kw_t1149, ⟨by decide +kernel, by decide +kernel, by decide +kernel⟩⟩
set_option maxRecDepth 20000 in
theorem cl_X8_296 : ab_LV RX8 296 yX8_bunking cX8_bunking 4 (some .int) 1 := ⟨kw_t1150, kw_t1152, kw_p73, kw_t8, kw_t1153, ⟨by decide +kernel, by decide +kernel, by decide +kernel⟩⟩
set_option maxRecDepth 20000 in
theorem cl_X8_299 : ab_LV RX8 299 yX8_parting cX8_parting 5 (some .int) 1 := ⟨kw_t1154, kw_t1156, kw_p74, kw_t8, kw_t1157, ⟨by decide +kernel, by decide +kernel, by decide +kernel⟩⟩
set_option maxRecDepth 20000 in
theorem cl_L_130 : ab_LV RL 130 yX8_body cX8_body 2 (some .int) 1 := ⟨kw_t1159, kw_t1160, kw_t1161, kw_t8, kw_t1162, ⟨by decide +kernel, by decide +kernel, by decide +kernel⟩⟩
set_option maxRecDepth 20000 in
theorem cl_L_134 : ab_LV RL 134 yX8_sheet cX8_sheet 6 (some .int) 3 := ⟨kw_t1163, kw_t1164, kw_t1165, kw_t8, kw_t1166, ⟨by decide +kernel, by decide +kernel, by decide +kernel⟩⟩
set_option maxRecDepth 20000 in
theorem cl_X8_303 : ab_LS RX8 303 yX8_isSheet cX8_isSheet 1 (some .boolean) 1 := ⟨kw_t1167, kw_t1168, kw_t8, kw_t1169, ⟨by decide +kernel, by decide +kernel, by decide +kernel⟩⟩
set_option maxRecDepth 20000 in
theorem cl_L_138 : ab_LV RL 138 yX8_put cX8_put 5 (some .int) 3 := ⟨kw_t1170, kw_t1171, kw_t1172, kw_t8, kw_t1173, ⟨by decide +kernel, by decide +kernel, by decide +kernel⟩⟩
set_option maxRecDepth 20000 in
theorem cl_X8_306 : ab_LV RX8 306 yX8_wrong cX8_wrong 2 (some .int) 1 := ⟨kw_t1174, kw_t1176, kw_p75, kw_t8, kw_t1177, ⟨by decide +kernel, by decide +kernel, by decide +kernel⟩⟩
set_option maxRecDepth 20000 in
theorem cl_L_143 : ab_LV RL 143 yX8_move cX8_move 7 (some .int) 5 := ⟨kw_t1178, kw_t1179, kw_t1180, kw_t8, kw_t1181, ⟨by decide +kernel, by decide +kernel, by decide +kernel⟩⟩
set_option maxRecDepth 20000 in
theorem cl_X8_309 : ab_LV RX8 309 yX8_isStanding cX8_isStanding 4 (some .boolean) 3 := ⟨kw_t1182, kw_t1184, kw_p76, kw_t8, kw_t1185, ⟨by decide +kernel, by decide +kernel, by decide +kernel⟩⟩
set_option maxRecDepth 20000 in
theorem cl_L_147 : ab_LV RL 147 yX8_rosters cX8_rosters 4 (some .int) 1 := ⟨kw_t1186, kw_t1187, kw_t1188, kw_t8, kw_t1189, ⟨by decide +kernel, by decide +kernel, by decide +kernel⟩⟩
set_option maxRecDepth 20000 in
theorem cl_L_151 : ab_LV RL 151 yX8_judge cX8_judge 4 (some .int) 1 := ⟨kw_t1190, kw_t1191, kw_t1192, kw_t8, kw_t1193, ⟨by decide +kernel, by decide +kernel, by decide +kernel⟩⟩
set_option maxRecDepth 20000 in
theorem cl_L_156 : ab_LV RL 156 yX8_image cX8_image 2 (some .int) 0 := ⟨kw_t1194, kw_t1195, kw_t1196, kw_t8, kw_t1197, ⟨by decide +kernel, by decide +kernel, by decide +kernel⟩⟩
set_option maxRecDepth 20000 in
theorem cl_L_160 : ab_LV RL 160 yX8_restore cX8_restore 2 (some .int) 0 := ⟨kw_t1198, kw_t1199, kw_t1200, kw_t8, kw_t1201, ⟨by decide +kernel, by decide +kernel, by decide +kernel⟩⟩
set_option maxRecDepth 20000 in
theorem cl_L_164 : ab_LV RL 164 yX8_tell cX8_tell 2 (some .int) 1 := ⟨kw_t1202, kw_t1203, kw_t1204, kw_t8, kw_t1205, ⟨by decide +kernel, by decide +kernel, by decide +kernel⟩⟩
set_option maxRecDepth 20000 in
theorem cl_L_168 : ab_LV RL 168 yX8_check cX8_check 5 (some .int) 1 := ⟨kw_t1206, kw_t1207, kw_t1208, kw_t8, kw_t1209, ⟨by decide +kernel, by decide +kernel, by decide +kernel⟩⟩
set_option maxRecDepth 20000 in
theorem cl_L_172 : ab_LV RL 172 yX8_count cX8_count 2 (some .int) 1 := ⟨kw_t1210, kw_t1211, kw_t1212, kw_t8, kw_t1213, ⟨by decide +kernel, by decide +kernel, by decide +kernel⟩⟩
set_option maxRecDepth 20000 in
theorem cl_X8_315 : ab_LV RX8 315 yX8_knownByAny cX8_knownByAny 3 (some .int) 0 := ⟨kw_t1214, kw_t1216, kw_p77, kw_t8, kw_t1217, ⟨by decide +kernel, by decide +kernel, by decide +kernel⟩⟩
set_option maxRecDepth 20000 in
theorem cl_L_176 : ab_LV RL 176 yX8_told cX8_told 2 (some .int) 1 := ⟨kw_t1218, kw_t1219, kw_t1220, kw_t8, kw_t1221, ⟨by decide +kernel, by decide +kernel, by decide +kernel⟩⟩
set_option maxRecDepth 20000 in
theorem cn_L_7 : Cond.classLink RL 7 RX7 ∈ ab_ws ∧ Cond.instantiable RX7 8 ∈ ab_ws ∧ Cond.initialized RX7 ∈ ab_ws := ⟨kw_t13, kw_t14, kw_t1⟩
set_option maxRecDepth 20000 in
theorem co_X7 : Cond.methodLink RX7 1 objectInit ∈ ab_ws ∧ Cond.instanceMethod objectInit ∈ ab_ws ∧ Cond.code objectInit ⟨#[0xb1]⟩ 1 none ∈ ab_ws := ⟨kw_t18, kw_t19, kw_t20⟩
set_option maxRecDepth 20000 in
theorem cn_X7_7 : Cond.classLink RX7 7 RX2 ∈ ab_ws ∧ Cond.instantiable RX2 16 ∈ ab_ws ∧ Cond.initialized RX2 ∈ ab_ws := ⟨kw_t21, kw_t22, kw_t2⟩
set_option maxRecDepth 20000 in
theorem co_X2 : Cond.methodLink RX2 3 objectInit ∈ ab_ws ∧ Cond.instanceMethod objectInit ∈ ab_ws ∧ Cond.code objectInit ⟨#[0xb1]⟩ 1 none ∈ ab_ws := ⟨kw_t26, kw_t19, kw_t20⟩
set_option maxRecDepth 20000 in
theorem cn_X2_9 : Cond.classLink RX2 9 RX0 ∈ ab_ws ∧ Cond.instantiable RX0 7 ∈ ab_ws ∧ Cond.initialized RX0 ∈ ab_ws := ⟨kw_t27, kw_t33, kw_t3⟩
set_option maxRecDepth 20000 in
theorem cn_X2_24 : Cond.classLink RX2 24 RX3 ∈ ab_ws ∧ Cond.instantiable RX3 4 ∈ ab_ws ∧ Cond.initialized RX3 ∈ ab_ws := ⟨kw_t29, kw_t75, kw_t4⟩
set_option maxRecDepth 20000 in
theorem cn_X2_41 : Cond.classLink RX2 41 RX4 ∈ ab_ws ∧ Cond.instantiable RX4 2 ∈ ab_ws ∧ Cond.initialized RX4 ∈ ab_ws := ⟨kw_t31, kw_t458, kw_t10⟩
set_option maxRecDepth 20000 in
theorem co_X0 : Cond.methodLink RX0 3 objectInit ∈ ab_ws ∧ Cond.instanceMethod objectInit ∈ ab_ws ∧ Cond.code objectInit ⟨#[0xb1]⟩ 1 none ∈ ab_ws := ⟨kw_t37, kw_t19, kw_t20⟩
set_option maxRecDepth 20000 in
theorem co_X3 : Cond.methodLink RX3 3 objectInit ∈ ab_ws ∧ Cond.instanceMethod objectInit ∈ ab_ws ∧ Cond.code objectInit ⟨#[0xb1]⟩ 1 none ∈ ab_ws := ⟨kw_t79, kw_t19, kw_t20⟩
set_option maxRecDepth 20000 in
theorem cn_X7_22 : Cond.classLink RX7 22 RX5 ∈ ab_ws ∧ Cond.instantiable RX5 7 ∈ ab_ws ∧ Cond.initialized RX5 ∈ ab_ws := ⟨kw_t162, kw_t163, kw_t5⟩
set_option maxRecDepth 20000 in
theorem co_X5 : Cond.methodLink RX5 3 objectInit ∈ ab_ws ∧ Cond.instanceMethod objectInit ∈ ab_ws ∧ Cond.code objectInit ⟨#[0xb1]⟩ 1 none ∈ ab_ws := ⟨kw_t167, kw_t19, kw_t20⟩
set_option maxRecDepth 20000 in
theorem cn_X7_29 : Cond.classLink RX7 29 RX6 ∈ ab_ws ∧ Cond.instantiable RX6 6 ∈ ab_ws ∧ Cond.initialized RX6 ∈ ab_ws := ⟨kw_t191, kw_t192, kw_t6⟩
set_option maxRecDepth 20000 in
theorem co_X6 : Cond.methodLink RX6 3 objectInit ∈ ab_ws ∧ Cond.instanceMethod objectInit ∈ ab_ws ∧ Cond.code objectInit ⟨#[0xb1]⟩ 1 none ∈ ab_ws := ⟨kw_t196, kw_t19, kw_t20⟩
set_option maxRecDepth 20000 in
theorem cn_X7_36 : Cond.classLink RX7 36 RX1 ∈ ab_ws ∧ Cond.instantiable RX1 3 ∈ ab_ws ∧ Cond.initialized RX1 ∈ ab_ws := ⟨kw_t219, kw_t221, kw_t7⟩
set_option maxRecDepth 20000 in
theorem co_X1 : Cond.methodLink RX1 3 objectInit ∈ ab_ws ∧ Cond.instanceMethod objectInit ∈ ab_ws ∧ Cond.code objectInit ⟨#[0xb1]⟩ 1 none ∈ ab_ws := ⟨kw_t225, kw_t19, kw_t20⟩
set_option maxRecDepth 20000 in
theorem cm_X2_124 : Cond.methodLink RX2 124 Lib.Math.min.name ∈ ab_ws ∧ Cond.static Lib.Math.min.name ∈ ab_ws ∧ Cond.initialized "java/lang/Math" ∈ ab_ws ∧ Cond.code Lib.Math.min.name Lib.Math.min.code 2 (some .int) ∈ ab_ws := ⟨kw_t317, kw_t318, kw_t11, kw_t319⟩
set_option maxRecDepth 20000 in
theorem cm_X2_173 : Cond.methodLink RX2 173 Lib.Math.max.name ∈ ab_ws ∧ Cond.static Lib.Math.max.name ∈ ab_ws ∧ Cond.initialized "java/lang/Math" ∈ ab_ws ∧ Cond.code Lib.Math.max.name Lib.Math.max.code 2 (some .int) ∈ ab_ws := ⟨kw_t320, kw_t321, kw_t11, kw_t322⟩
set_option maxRecDepth 20000 in
theorem cm_X5_19 : Cond.methodLink RX5 19 Lib.Math.min.name ∈ ab_ws ∧ Cond.static Lib.Math.min.name ∈ ab_ws ∧ Cond.initialized "java/lang/Math" ∈ ab_ws ∧ Cond.code Lib.Math.min.name Lib.Math.min.code 2 (some .int) ∈ ab_ws := ⟨kw_t409, kw_t318, kw_t11, kw_t319⟩
set_option maxRecDepth 20000 in
theorem cn_X5_48 : Cond.classLink RX5 48 RX4 ∈ ab_ws ∧ Cond.instantiable RX4 2 ∈ ab_ws ∧ Cond.initialized RX4 ∈ ab_ws := ⟨kw_t457, kw_t458, kw_t10⟩
set_option maxRecDepth 20000 in
theorem co_X4 : Cond.methodLink RX4 1 objectInit ∈ ab_ws ∧ Cond.instanceMethod objectInit ∈ ab_ws ∧ Cond.code objectInit ⟨#[0xb1]⟩ 1 none ∈ ab_ws := ⟨kw_t462, kw_t19, kw_t20⟩
set_option maxRecDepth 20000 in
theorem cs_X4_16 : Cond.methodLink RX4 16 arraycopyName ∈ ab_ws ∧ Cond.native arraycopyName ∈ ab_ws ∧ Cond.static arraycopyName ∈ ab_ws ∧ Cond.initialized "java/lang/System" ∈ ab_ws := ⟨kw_t463, kw_t465, kw_t464, kw_t12⟩
set_option maxRecDepth 20000 in
theorem cm_X0_55 : Cond.methodLink RX0 55 Lib.Math.min.name ∈ ab_ws ∧ Cond.static Lib.Math.min.name ∈ ab_ws ∧ Cond.initialized "java/lang/Math" ∈ ab_ws ∧ Cond.code Lib.Math.min.name Lib.Math.min.code 2 (some .int) ∈ ab_ws := ⟨kw_t516, kw_t318, kw_t11, kw_t319⟩
set_option maxRecDepth 20000 in
theorem cm_X0_61 : Cond.methodLink RX0 61 Lib.Math.max.name ∈ ab_ws ∧ Cond.static Lib.Math.max.name ∈ ab_ws ∧ Cond.initialized "java/lang/Math" ∈ ab_ws ∧ Cond.code Lib.Math.max.name Lib.Math.max.code 2 (some .int) ∈ ab_ws := ⟨kw_t517, kw_t321, kw_t11, kw_t322⟩
set_option maxRecDepth 20000 in
theorem cm_X3_25 : Cond.methodLink RX3 25 Lib.Math.min.name ∈ ab_ws ∧ Cond.static Lib.Math.min.name ∈ ab_ws ∧ Cond.initialized "java/lang/Math" ∈ ab_ws ∧ Cond.code Lib.Math.min.name Lib.Math.min.code 2 (some .int) ∈ ab_ws := ⟨kw_t528, kw_t318, kw_t11, kw_t319⟩
set_option maxRecDepth 20000 in
theorem cs_X0_34 : Cond.methodLink RX0 34 arraycopyName ∈ ab_ws ∧ Cond.native arraycopyName ∈ ab_ws ∧ Cond.static arraycopyName ∈ ab_ws ∧ Cond.initialized "java/lang/System" ∈ ab_ws := ⟨kw_t561, kw_t465, kw_t464, kw_t12⟩
set_option maxRecDepth 20000 in
theorem cs_X2_80 : Cond.methodLink RX2 80 arraycopyName ∈ ab_ws ∧ Cond.native arraycopyName ∈ ab_ws ∧ Cond.static arraycopyName ∈ ab_ws ∧ Cond.initialized "java/lang/System" ∈ ab_ws := ⟨kw_t566, kw_t465, kw_t464, kw_t12⟩
set_option maxRecDepth 20000 in
theorem cm_X7_196 : Cond.methodLink RX7 196 Lib.Math.min.name ∈ ab_ws ∧ Cond.static Lib.Math.min.name ∈ ab_ws ∧ Cond.initialized "java/lang/Math" ∈ ab_ws ∧ Cond.code Lib.Math.min.name Lib.Math.min.code 2 (some .int) ∈ ab_ws := ⟨kw_t617, kw_t318, kw_t11, kw_t319⟩
set_option maxRecDepth 20000 in
theorem cs_X7_243 : Cond.methodLink RX7 243 arraycopyName ∈ ab_ws ∧ Cond.native arraycopyName ∈ ab_ws ∧ Cond.static arraycopyName ∈ ab_ws ∧ Cond.initialized "java/lang/System" ∈ ab_ws := ⟨kw_t700, kw_t465, kw_t464, kw_t12⟩
set_option maxRecDepth 20000 in
theorem cn_L_10 : Cond.classLink RL 10 RX8 ∈ ab_ws ∧ Cond.instantiable RX8 22 ∈ ab_ws ∧ Cond.initialized RX8 ∈ ab_ws := ⟨kw_t737, kw_t738, kw_t8⟩
set_option maxRecDepth 20000 in
theorem co_X8 : Cond.methodLink RX8 1 objectInit ∈ ab_ws ∧ Cond.instanceMethod objectInit ∈ ab_ws ∧ Cond.code objectInit ⟨#[0xb1]⟩ 1 none ∈ ab_ws := ⟨kw_t742, kw_t19, kw_t20⟩
