def F_X3_joined (a1 : Int32) (a2 : Int64) (a3 : Int64) (D : Dt) : Option (Int64 × Dt) := (if a1 = (7 : Int32) then (some ((a2 + a3), D)) else if a1 = (8 : Int32) then (some ((a2 - a3), D)) else if a1 = (9 : Int32) then (some ((a2 * a3), D)) else if a1 = (10 : Int32) then (if (lg_cmp a3 (0 : Int64)) = 0 then (some ((0 : Int64), D)) else (grd (¬ a3 = 0) (some ((a2 / a3), D)))) else if a1 = (11 : Int32) then (if (lg_cmp a3 (0 : Int64)) = 0 then (some ((0 : Int64), D)) else (grd (¬ a3 = 0) (some ((a2 - a2 / a3 * a3), D)))) else if a1 = (12 : Int32) then (if 0 ≤ (lg_cmp a2 a3) then (some ((0 : Int64), D)) else (some ((1 : Int64), D))) else if a1 = (13 : Int32) then (if (lg_cmp a2 a3) = 0 then (some ((1 : Int64), D)) else (some ((0 : Int64), D))) else if a1 = (14 : Int32) then (if (lg_cmp a2 a3) ≤ 0 then (some ((0 : Int64), D)) else (some ((1 : Int64), D))) else if a1 = (15 : Int32) then (if 0 < (lg_cmp a2 a3) then (some ((0 : Int64), D)) else (some ((1 : Int64), D))) else if a1 = (16 : Int32) then (if (lg_cmp a2 a3) < 0 then (some ((0 : Int64), D)) else (some ((1 : Int64), D))) else if a1 = (36 : Int32) then (some ((a2 &&& a3), D)) else if a1 = (37 : Int32) then (some ((a2 ||| a3), D)) else (some ((0 : Int64), D)))
set_option maxRecDepth 100000 in
set_option maxHeartbeats 4000000 in
theorem M_X3_joined {l : Launch} {G : Gt} {A : Nat → Prop} {lv : Nat} {a1 : Int32} {a2 : Int64} {a3 : Int64} {D : Dt} {r : Int64} {D' : Dt} (hG : Gok G A) (hlv : 1 ≤ lv)  (h : F_X3_joined a1 a2 a3 D = some (r, D')) : MD l G A lv yX3_joined cX3_joined 5 (some .long) [.int a1, .long a2, .long a3] D (some (.long r)) D' := by
  unfold F_X3_joined at h
  refine md_start RX3 hG (by decide +kernel) rfl (Nat.le_of_ble_eq_true rfl) (L := [(0, .int a1), (1, .long a2), (3, .long a3)]) rfl (fun X C => ?_)
  refine j_iload_n C 0 dX3_joined_0 rfl rfl ?_
  by_cases c1 : a1 = (7 : Int32)
  · have h := ite_t c1 h
    refine j_tabIn C (off := 139) (7 : Int32) 140 dX3_joined_1 c1 ⟨by decide, by decide⟩ (by decide +kernel) (by decide) ?_
    refine j_lload_n C 1 dX3_joined_140 rfl rfl ?_
    refine j_lload_n C 2 dX3_joined_141 rfl rfl ?_
    refine j_ladd C dX3_joined_142 ?_
    obtain ⟨rfl, rfl⟩ := pr_x h
    exact j_lret C dX3_joined_143
  have h := ite_f c1 h
  by_cases c2 : a1 = (8 : Int32)
  · have h := ite_t c2 h
    refine j_tabIn C (off := 143) (8 : Int32) 144 dX3_joined_1 c2 ⟨by decide, by decide⟩ (by decide +kernel) (by decide) ?_
    refine j_lload_n C 1 dX3_joined_144 rfl rfl ?_
    refine j_lload_n C 2 dX3_joined_145 rfl rfl ?_
    refine j_lsub C dX3_joined_146 ?_
    obtain ⟨rfl, rfl⟩ := pr_x h
    exact j_lret C dX3_joined_147
  have h := ite_f c2 h
  by_cases c3 : a1 = (9 : Int32)
  · have h := ite_t c3 h
    refine j_tabIn C (off := 147) (9 : Int32) 148 dX3_joined_1 c3 ⟨by decide, by decide⟩ (by decide +kernel) (by decide) ?_
    refine j_lload_n C 1 dX3_joined_148 rfl rfl ?_
    refine j_lload_n C 2 dX3_joined_149 rfl rfl ?_
    refine j_lmul C dX3_joined_150 ?_
    obtain ⟨rfl, rfl⟩ := pr_x h
    exact j_lret C dX3_joined_151
  have h := ite_f c3 h
  by_cases c4 : a1 = (10 : Int32)
  · have h := ite_t c4 h
    refine j_tabIn C (off := 151) (10 : Int32) 152 dX3_joined_1 c4 ⟨by decide, by decide⟩ (by decide +kernel) (by decide) ?_
    refine j_lload_n C 2 dX3_joined_152 rfl rfl ?_
    refine j_lconst C (0 : Int64) (by decide) dX3_joined_153 ?_
    refine j_lcmp C dX3_joined_154 ?_
    refine j_if_ne C 162 dX3_joined_155 (by decide) (fun c5 => ?_) (fun c5 => ?_)
    · have h := ite_f c5 h
      refine j_lload_n C 1 dX3_joined_162 rfl rfl ?_
      refine j_lload_n C 2 dX3_joined_163 rfl rfl ?_
      obtain ⟨g6, h⟩ := grd_x h
      refine j_ldiv C g6 dX3_joined_164 ?_
      obtain ⟨rfl, rfl⟩ := pr_x h
      exact j_lret C dX3_joined_165
    · have h := ite_t c5 h
      refine j_lconst C (0 : Int64) (by decide) dX3_joined_158 ?_
      refine j_goto C 165 dX3_joined_159 (by decide) ?_
      obtain ⟨rfl, rfl⟩ := pr_x h
      exact j_lret C dX3_joined_165
  have h := ite_f c4 h
  by_cases c7 : a1 = (11 : Int32)
  · have h := ite_t c7 h
    refine j_tabIn C (off := 165) (11 : Int32) 166 dX3_joined_1 c7 ⟨by decide, by decide⟩ (by decide +kernel) (by decide) ?_
    refine j_lload_n C 2 dX3_joined_166 rfl rfl ?_
    refine j_lconst C (0 : Int64) (by decide) dX3_joined_167 ?_
    refine j_lcmp C dX3_joined_168 ?_
    refine j_if_ne C 176 dX3_joined_169 (by decide) (fun c8 => ?_) (fun c8 => ?_)
    · have h := ite_f c8 h
      refine j_lload_n C 1 dX3_joined_176 rfl rfl ?_
      refine j_lload_n C 2 dX3_joined_177 rfl rfl ?_
      obtain ⟨g9, h⟩ := grd_x h
      refine j_lrem C g9 dX3_joined_178 ?_
      obtain ⟨rfl, rfl⟩ := pr_x h
      exact j_lret C dX3_joined_179
    · have h := ite_t c8 h
      refine j_lconst C (0 : Int64) (by decide) dX3_joined_172 ?_
      refine j_goto C 179 dX3_joined_173 (by decide) ?_
      obtain ⟨rfl, rfl⟩ := pr_x h
      exact j_lret C dX3_joined_179
  have h := ite_f c7 h
  by_cases c10 : a1 = (12 : Int32)
  · have h := ite_t c10 h
    refine j_tabIn C (off := 179) (12 : Int32) 180 dX3_joined_1 c10 ⟨by decide, by decide⟩ (by decide +kernel) (by decide) ?_
    refine j_lload_n C 1 dX3_joined_180 rfl rfl ?_
    refine j_lload_n C 2 dX3_joined_181 rfl rfl ?_
    refine j_lcmp C dX3_joined_182 ?_
    refine j_if_ge C 190 dX3_joined_183 (by decide) (fun c11 => ?_) (fun c11 => ?_)
    · have h := ite_t c11 h
      refine j_lconst C (0 : Int64) (by decide) dX3_joined_190 ?_
      obtain ⟨rfl, rfl⟩ := pr_x h
      exact j_lret C dX3_joined_191
    · have h := ite_f c11 h
      refine j_lconst C (1 : Int64) (by decide) dX3_joined_186 ?_
      refine j_goto C 191 dX3_joined_187 (by decide) ?_
      obtain ⟨rfl, rfl⟩ := pr_x h
      exact j_lret C dX3_joined_191
  have h := ite_f c10 h
  by_cases c12 : a1 = (13 : Int32)
  · have h := ite_t c12 h
    refine j_tabIn C (off := 203) (13 : Int32) 204 dX3_joined_1 c12 ⟨by decide, by decide⟩ (by decide +kernel) (by decide) ?_
    refine j_lload_n C 1 dX3_joined_204 rfl rfl ?_
    refine j_lload_n C 2 dX3_joined_205 rfl rfl ?_
    refine j_lcmp C dX3_joined_206 ?_
    refine j_if_ne C 214 dX3_joined_207 (by decide) (fun c13 => ?_) (fun c13 => ?_)
    · have h := ite_f c13 h
      refine j_lconst C (0 : Int64) (by decide) dX3_joined_214 ?_
      obtain ⟨rfl, rfl⟩ := pr_x h
      exact j_lret C dX3_joined_215
    · have h := ite_t c13 h
      refine j_lconst C (1 : Int64) (by decide) dX3_joined_210 ?_
      refine j_goto C 215 dX3_joined_211 (by decide) ?_
      obtain ⟨rfl, rfl⟩ := pr_x h
      exact j_lret C dX3_joined_215
  have h := ite_f c12 h
  by_cases c14 : a1 = (14 : Int32)
  · have h := ite_t c14 h
    refine j_tabIn C (off := 227) (14 : Int32) 228 dX3_joined_1 c14 ⟨by decide, by decide⟩ (by decide +kernel) (by decide) ?_
    refine j_lload_n C 1 dX3_joined_228 rfl rfl ?_
    refine j_lload_n C 2 dX3_joined_229 rfl rfl ?_
    refine j_lcmp C dX3_joined_230 ?_
    refine j_if_le C 238 dX3_joined_231 (by decide) (fun c15 => ?_) (fun c15 => ?_)
    · have h := ite_t c15 h
      refine j_lconst C (0 : Int64) (by decide) dX3_joined_238 ?_
      obtain ⟨rfl, rfl⟩ := pr_x h
      exact j_lret C dX3_joined_239
    · have h := ite_f c15 h
      refine j_lconst C (1 : Int64) (by decide) dX3_joined_234 ?_
      refine j_goto C 239 dX3_joined_235 (by decide) ?_
      obtain ⟨rfl, rfl⟩ := pr_x h
      exact j_lret C dX3_joined_239
  have h := ite_f c14 h
  by_cases c16 : a1 = (15 : Int32)
  · have h := ite_t c16 h
    refine j_tabIn C (off := 191) (15 : Int32) 192 dX3_joined_1 c16 ⟨by decide, by decide⟩ (by decide +kernel) (by decide) ?_
    refine j_lload_n C 1 dX3_joined_192 rfl rfl ?_
    refine j_lload_n C 2 dX3_joined_193 rfl rfl ?_
    refine j_lcmp C dX3_joined_194 ?_
    refine j_if_gt C 202 dX3_joined_195 (by decide) (fun c17 => ?_) (fun c17 => ?_)
    · have h := ite_t c17 h
      refine j_lconst C (0 : Int64) (by decide) dX3_joined_202 ?_
      obtain ⟨rfl, rfl⟩ := pr_x h
      exact j_lret C dX3_joined_203
    · have h := ite_f c17 h
      refine j_lconst C (1 : Int64) (by decide) dX3_joined_198 ?_
      refine j_goto C 203 dX3_joined_199 (by decide) ?_
      obtain ⟨rfl, rfl⟩ := pr_x h
      exact j_lret C dX3_joined_203
  have h := ite_f c16 h
  by_cases c18 : a1 = (16 : Int32)
  · have h := ite_t c18 h
    refine j_tabIn C (off := 215) (16 : Int32) 216 dX3_joined_1 c18 ⟨by decide, by decide⟩ (by decide +kernel) (by decide) ?_
    refine j_lload_n C 1 dX3_joined_216 rfl rfl ?_
    refine j_lload_n C 2 dX3_joined_217 rfl rfl ?_
    refine j_lcmp C dX3_joined_218 ?_
    refine j_if_lt C 226 dX3_joined_219 (by decide) (fun c19 => ?_) (fun c19 => ?_)
    · have h := ite_t c19 h
      refine j_lconst C (0 : Int64) (by decide) dX3_joined_226 ?_
      obtain ⟨rfl, rfl⟩ := pr_x h
      exact j_lret C dX3_joined_227
    · have h := ite_f c19 h
      refine j_lconst C (1 : Int64) (by decide) dX3_joined_222 ?_
      refine j_goto C 227 dX3_joined_223 (by decide) ?_
      obtain ⟨rfl, rfl⟩ := pr_x h
      exact j_lret C dX3_joined_227
  have h := ite_f c18 h
  by_cases c20 : a1 = (36 : Int32)
  · have h := ite_t c20 h
    refine j_tabIn C (off := 239) (36 : Int32) 240 dX3_joined_1 c20 ⟨by decide, by decide⟩ (by decide +kernel) (by decide) ?_
    refine j_lload_n C 1 dX3_joined_240 rfl rfl ?_
    refine j_lload_n C 2 dX3_joined_241 rfl rfl ?_
    refine j_land C dX3_joined_242 ?_
    obtain ⟨rfl, rfl⟩ := pr_x h
    exact j_lret C dX3_joined_243
  have h := ite_f c20 h
  by_cases c21 : a1 = (37 : Int32)
  · have h := ite_t c21 h
    refine j_tabIn C (off := 243) (37 : Int32) 244 dX3_joined_1 c21 ⟨by decide, by decide⟩ (by decide +kernel) (by decide) ?_
    refine j_lload_n C 1 dX3_joined_244 rfl rfl ?_
    refine j_lload_n C 2 dX3_joined_245 rfl rfl ?_
    refine j_lor C dX3_joined_246 ?_
    obtain ⟨rfl, rfl⟩ := pr_x h
    exact j_lret C dX3_joined_247
  have h := ite_f c21 h
  by_cases c22 : a1 = (17 : Int32)
  · refine j_tabIn C (off := 247) (17 : Int32) 248 dX3_joined_1 c22 ⟨by decide, by decide⟩ (by decide +kernel) (by decide) ?_
    refine j_lconst C (0 : Int64) (by decide) dX3_joined_248 ?_
    obtain ⟨rfl, rfl⟩ := pr_x h
    exact j_lret C dX3_joined_249
  by_cases c23 : a1 = (18 : Int32)
  · refine j_tabIn C (off := 247) (18 : Int32) 248 dX3_joined_1 c23 ⟨by decide, by decide⟩ (by decide +kernel) (by decide) ?_
    refine j_lconst C (0 : Int64) (by decide) dX3_joined_248 ?_
    obtain ⟨rfl, rfl⟩ := pr_x h
    exact j_lret C dX3_joined_249
  by_cases c24 : a1 = (19 : Int32)
  · refine j_tabIn C (off := 247) (19 : Int32) 248 dX3_joined_1 c24 ⟨by decide, by decide⟩ (by decide +kernel) (by decide) ?_
    refine j_lconst C (0 : Int64) (by decide) dX3_joined_248 ?_
    obtain ⟨rfl, rfl⟩ := pr_x h
    exact j_lret C dX3_joined_249
  by_cases c25 : a1 = (20 : Int32)
  · refine j_tabIn C (off := 247) (20 : Int32) 248 dX3_joined_1 c25 ⟨by decide, by decide⟩ (by decide +kernel) (by decide) ?_
    refine j_lconst C (0 : Int64) (by decide) dX3_joined_248 ?_
    obtain ⟨rfl, rfl⟩ := pr_x h
    exact j_lret C dX3_joined_249
  by_cases c26 : a1 = (21 : Int32)
  · refine j_tabIn C (off := 247) (21 : Int32) 248 dX3_joined_1 c26 ⟨by decide, by decide⟩ (by decide +kernel) (by decide) ?_
    refine j_lconst C (0 : Int64) (by decide) dX3_joined_248 ?_
    obtain ⟨rfl, rfl⟩ := pr_x h
    exact j_lret C dX3_joined_249
  by_cases c27 : a1 = (22 : Int32)
  · refine j_tabIn C (off := 247) (22 : Int32) 248 dX3_joined_1 c27 ⟨by decide, by decide⟩ (by decide +kernel) (by decide) ?_
    refine j_lconst C (0 : Int64) (by decide) dX3_joined_248 ?_
    obtain ⟨rfl, rfl⟩ := pr_x h
    exact j_lret C dX3_joined_249
  by_cases c28 : a1 = (23 : Int32)
  · refine j_tabIn C (off := 247) (23 : Int32) 248 dX3_joined_1 c28 ⟨by decide, by decide⟩ (by decide +kernel) (by decide) ?_
    refine j_lconst C (0 : Int64) (by decide) dX3_joined_248 ?_
    obtain ⟨rfl, rfl⟩ := pr_x h
    exact j_lret C dX3_joined_249
  by_cases c29 : a1 = (24 : Int32)
  · refine j_tabIn C (off := 247) (24 : Int32) 248 dX3_joined_1 c29 ⟨by decide, by decide⟩ (by decide +kernel) (by decide) ?_
    refine j_lconst C (0 : Int64) (by decide) dX3_joined_248 ?_
    obtain ⟨rfl, rfl⟩ := pr_x h
    exact j_lret C dX3_joined_249
  by_cases c30 : a1 = (25 : Int32)
  · refine j_tabIn C (off := 247) (25 : Int32) 248 dX3_joined_1 c30 ⟨by decide, by decide⟩ (by decide +kernel) (by decide) ?_
    refine j_lconst C (0 : Int64) (by decide) dX3_joined_248 ?_
    obtain ⟨rfl, rfl⟩ := pr_x h
    exact j_lret C dX3_joined_249
  by_cases c31 : a1 = (26 : Int32)
  · refine j_tabIn C (off := 247) (26 : Int32) 248 dX3_joined_1 c31 ⟨by decide, by decide⟩ (by decide +kernel) (by decide) ?_
    refine j_lconst C (0 : Int64) (by decide) dX3_joined_248 ?_
    obtain ⟨rfl, rfl⟩ := pr_x h
    exact j_lret C dX3_joined_249
  by_cases c32 : a1 = (27 : Int32)
  · refine j_tabIn C (off := 247) (27 : Int32) 248 dX3_joined_1 c32 ⟨by decide, by decide⟩ (by decide +kernel) (by decide) ?_
    refine j_lconst C (0 : Int64) (by decide) dX3_joined_248 ?_
    obtain ⟨rfl, rfl⟩ := pr_x h
    exact j_lret C dX3_joined_249
  by_cases c33 : a1 = (28 : Int32)
  · refine j_tabIn C (off := 247) (28 : Int32) 248 dX3_joined_1 c33 ⟨by decide, by decide⟩ (by decide +kernel) (by decide) ?_
    refine j_lconst C (0 : Int64) (by decide) dX3_joined_248 ?_
    obtain ⟨rfl, rfl⟩ := pr_x h
    exact j_lret C dX3_joined_249
  by_cases c34 : a1 = (29 : Int32)
  · refine j_tabIn C (off := 247) (29 : Int32) 248 dX3_joined_1 c34 ⟨by decide, by decide⟩ (by decide +kernel) (by decide) ?_
    refine j_lconst C (0 : Int64) (by decide) dX3_joined_248 ?_
    obtain ⟨rfl, rfl⟩ := pr_x h
    exact j_lret C dX3_joined_249
  by_cases c35 : a1 = (30 : Int32)
  · refine j_tabIn C (off := 247) (30 : Int32) 248 dX3_joined_1 c35 ⟨by decide, by decide⟩ (by decide +kernel) (by decide) ?_
    refine j_lconst C (0 : Int64) (by decide) dX3_joined_248 ?_
    obtain ⟨rfl, rfl⟩ := pr_x h
    exact j_lret C dX3_joined_249
  by_cases c36 : a1 = (31 : Int32)
  · refine j_tabIn C (off := 247) (31 : Int32) 248 dX3_joined_1 c36 ⟨by decide, by decide⟩ (by decide +kernel) (by decide) ?_
    refine j_lconst C (0 : Int64) (by decide) dX3_joined_248 ?_
    obtain ⟨rfl, rfl⟩ := pr_x h
    exact j_lret C dX3_joined_249
  by_cases c37 : a1 = (32 : Int32)
  · refine j_tabIn C (off := 247) (32 : Int32) 248 dX3_joined_1 c37 ⟨by decide, by decide⟩ (by decide +kernel) (by decide) ?_
    refine j_lconst C (0 : Int64) (by decide) dX3_joined_248 ?_
    obtain ⟨rfl, rfl⟩ := pr_x h
    exact j_lret C dX3_joined_249
  by_cases c38 : a1 = (33 : Int32)
  · refine j_tabIn C (off := 247) (33 : Int32) 248 dX3_joined_1 c38 ⟨by decide, by decide⟩ (by decide +kernel) (by decide) ?_
    refine j_lconst C (0 : Int64) (by decide) dX3_joined_248 ?_
    obtain ⟨rfl, rfl⟩ := pr_x h
    exact j_lret C dX3_joined_249
  by_cases c39 : a1 = (34 : Int32)
  · refine j_tabIn C (off := 247) (34 : Int32) 248 dX3_joined_1 c39 ⟨by decide, by decide⟩ (by decide +kernel) (by decide) ?_
    refine j_lconst C (0 : Int64) (by decide) dX3_joined_248 ?_
    obtain ⟨rfl, rfl⟩ := pr_x h
    exact j_lret C dX3_joined_249
  by_cases c40 : a1 = (35 : Int32)
  · refine j_tabIn C (off := 247) (35 : Int32) 248 dX3_joined_1 c40 ⟨by decide, by decide⟩ (by decide +kernel) (by decide) ?_
    refine j_lconst C (0 : Int64) (by decide) dX3_joined_248 ?_
    obtain ⟨rfl, rfl⟩ := pr_x h
    exact j_lret C dX3_joined_249
  refine j_tabOut C 248 dX3_joined_1 (by have z0 : a1.toInt ≠ 7 := ne_toInt c1; have z1 : a1.toInt ≠ 8 := ne_toInt c2; have z2 : a1.toInt ≠ 9 := ne_toInt c3; have z3 : a1.toInt ≠ 10 := ne_toInt c4; have z4 : a1.toInt ≠ 11 := ne_toInt c7; have z5 : a1.toInt ≠ 12 := ne_toInt c10; have z6 : a1.toInt ≠ 13 := ne_toInt c12; have z7 : a1.toInt ≠ 14 := ne_toInt c14; have z8 : a1.toInt ≠ 15 := ne_toInt c16; have z9 : a1.toInt ≠ 16 := ne_toInt c18; have z10 : a1.toInt ≠ 36 := ne_toInt c20; have z11 : a1.toInt ≠ 37 := ne_toInt c21; have z12 : a1.toInt ≠ 17 := ne_toInt c22; have z13 : a1.toInt ≠ 18 := ne_toInt c23; have z14 : a1.toInt ≠ 19 := ne_toInt c24; have z15 : a1.toInt ≠ 20 := ne_toInt c25; have z16 : a1.toInt ≠ 21 := ne_toInt c26; have z17 : a1.toInt ≠ 22 := ne_toInt c27; have z18 : a1.toInt ≠ 23 := ne_toInt c28; have z19 : a1.toInt ≠ 24 := ne_toInt c29; have z20 : a1.toInt ≠ 25 := ne_toInt c30; have z21 : a1.toInt ≠ 26 := ne_toInt c31; have z22 : a1.toInt ≠ 27 := ne_toInt c32; have z23 : a1.toInt ≠ 28 := ne_toInt c33; have z24 : a1.toInt ≠ 29 := ne_toInt c34; have z25 : a1.toInt ≠ 30 := ne_toInt c35; have z26 : a1.toInt ≠ 31 := ne_toInt c36; have z27 : a1.toInt ≠ 32 := ne_toInt c37; have z28 : a1.toInt ≠ 33 := ne_toInt c38; have z29 : a1.toInt ≠ 34 := ne_toInt c39; have z30 : a1.toInt ≠ 35 := ne_toInt c40; omega) (by decide) ?_
  refine j_lconst C (0 : Int64) (by decide) dX3_joined_248 ?_
  obtain ⟨rfl, rfl⟩ := pr_x h
  exact j_lret C dX3_joined_249
def F_X3_valueOf_b177 (i0 : Nat) (a1 : Int32) (a2 : Int32) (a3 : LA) (k6 : Int32 → Int32 → Int32 → Dt → Option (Int64 × Dt)) (l2 : Int32) (l4 : Int32) (l5 : Int32) (D : Dt) : Option (Int64 × Dt) := (bnd (l5 + (1 : Int32)) (fun v8 => (k6 l2 l4 v8 D)))
set_option maxRecDepth 100000 in
set_option maxHeartbeats 4000000 in
theorem T_X3_valueOf_b177 {r : Int64} {D' : Dt} {X : Ctx} {l : Launch} {G : Gt} {A : Nat → Prop} {lv : Nat} {i0 : Nat} {a1 : Int32} {a2 : Int32} {a3 : LA}  {k6 : Int32 → Int32 → Int32 → Dt → Option (Int64 × Dt)} (hG : Gok G A) (hlv : 2 ≤ lv) (hv0 : V (3, i0, 0, 0) = true) (hv3 : V a3 = true ∧ sh a3 = .inr (1, lenOf a3))  (C : Cx X cX3_valueOf RX3 G l A lv 7 (some .long) (some (.long r)) D') (hk6 : ∀ (l2 : Int32) (l4 : Int32) (l5 : Int32) (D : Dt), k6 l2 l4 l5 D = some (r, D') → J X (Rep G D) 6 [(0, .ref (ad G (3, i0, 0, 0))), (2, .int l2), (3, .ref (ad G a3)), (4, .int l4), (5, .int l5)] []) : ∀ (l2 : Int32) (l4 : Int32) (l5 : Int32) (D : Dt), F_X3_valueOf_b177 i0 a1 a2 a3 k6 l2 l4 l5 D = some (r, D') → J X (Rep G D) 177 [(0, .ref (ad G (3, i0, 0, 0))), (2, .int l2), (3, .ref (ad G a3)), (4, .int l4), (5, .int l5)] [] := by
  intro l2 l4 l5 D h
  unfold F_X3_valueOf_b177 at h
  obtain ⟨v8, ev8, h⟩ := bnd_x h
  refine j_iinc C 4 [(5, .int v8), (0, .ref (ad G (3, i0, 0, 0))), (2, .int l2), (3, .ref (ad G a3)), (4, .int l4)] dX3_valueOf_177 rfl (Nat.le_of_ble_eq_true rfl) (ev8.trans (congrArg (l5 + ·) (by decide))) rfl ?_
  refine j_goto C 6 dX3_valueOf_180 (by decide) ?_
  refine j_sub [1, 2, 3, 4, 0] [(0, .ref (ad G (3, i0, 0, 0))), (2, .int l2), (3, .ref (ad G a3)), (4, .int l4), (5, .int v8)] rfl ?_
  exact hk6 l2 l4 v8 D h
def F_X3_valueOf_b138 (i0 : Nat) (a1 : Int32) (a2 : Int32) (a3 : LA) (k6 : Int32 → Int32 → Int32 → Dt → Option (Int64 × Dt)) (l2 : Int32) (l4 : Int32) (l5 : Int32) (l6 : Int32) (D : Dt) : Option (Int64 × Dt) := (if l4 ≤ (1 : Int32) then (F_X3_valueOf_b177 i0 a1 a2 a3 (fun l2_9 l4_10 l5_11 D12 => (k6 l2_9 l4_10 l5_11 D12)) l2 l4 l5 D) else (bnd (l4 + (-1 : Int32)) (fun v13 => (grd (inB (v13 - (1 : Int32)) 64 = true) (grd (inB v13 64 = true) (cbd (F_X3_joined l6 (D.2.1 (3, i0, 8, 0) ((v13 - (1 : Int32)).toNatClampNeg)) (D.2.1 (3, i0, 8, 0) (v13.toNatClampNeg)) D) (fun r17 D18 => (bnd (setL D18 (3, i0, 8, 0) ((v13 - (1 : Int32)).toNatClampNeg) r17) (fun D19 => (F_X3_valueOf_b177 i0 a1 a2 a3 (fun l2_20 l4_21 l5_22 D23 => (k6 l2_20 l4_21 l5_22 D23)) l2 v13 l5 D19))))))))))
set_option maxRecDepth 100000 in
set_option maxHeartbeats 4000000 in
theorem T_X3_valueOf_b138 {r : Int64} {D' : Dt} {X : Ctx} {l : Launch} {G : Gt} {A : Nat → Prop} {lv : Nat} {i0 : Nat} {a1 : Int32} {a2 : Int32} {a3 : LA}  {k6 : Int32 → Int32 → Int32 → Dt → Option (Int64 × Dt)} (hG : Gok G A) (hlv : 2 ≤ lv) (hv0 : V (3, i0, 0, 0) = true) (hv3 : V a3 = true ∧ sh a3 = .inr (1, lenOf a3))  (C : Cx X cX3_valueOf RX3 G l A lv 7 (some .long) (some (.long r)) D') (hk6 : ∀ (l2 : Int32) (l4 : Int32) (l5 : Int32) (D : Dt), k6 l2 l4 l5 D = some (r, D') → J X (Rep G D) 6 [(0, .ref (ad G (3, i0, 0, 0))), (2, .int l2), (3, .ref (ad G a3)), (4, .int l4), (5, .int l5)] []) : ∀ (l2 : Int32) (l4 : Int32) (l5 : Int32) (l6 : Int32) (D : Dt), F_X3_valueOf_b138 i0 a1 a2 a3 k6 l2 l4 l5 l6 D = some (r, D') → J X (Rep G D) 138 [(0, .ref (ad G (3, i0, 0, 0))), (2, .int l2), (3, .ref (ad G a3)), (4, .int l4), (5, .int l5), (6, .int l6)] [] := by
  intro l2 l4 l5 l6 D h
  unfold F_X3_valueOf_b138 at h
  refine j_iload C 3 dX3_valueOf_138 rfl ?_
  refine j_iconst C (1 : Int32) (by decide) dX3_valueOf_140 ?_
  refine j_icmp_le C 177 dX3_valueOf_141 (by decide) (fun c7 => ?_) (fun c7 => ?_)
  · have h := ite_t c7 h
    refine j_sub [0, 1, 2, 3, 4] [(0, .ref (ad G (3, i0, 0, 0))), (2, .int l2), (3, .ref (ad G a3)), (4, .int l4), (5, .int l5)] rfl ?_
    refine T_X3_valueOf_b177 hG hlv hv0 hv3 C (fun l2_9 l4_10 l5_11 D12 h => ?_) l2 l4 l5 D h
    · exact hk6 l2_9 l4_10 l5_11 D12 h
  · have h := ite_f c7 h
    obtain ⟨v13, ev13, h⟩ := bnd_x h
    refine j_iinc C 3 [(4, .int v13), (0, .ref (ad G (3, i0, 0, 0))), (2, .int l2), (3, .ref (ad G a3)), (5, .int l5), (6, .int l6)] dX3_valueOf_144 rfl (Nat.le_of_ble_eq_true rfl) (ev13.trans (congrArg (l4 + ·) (by decide))) rfl ?_
    refine j_aload_n C 1 dX3_valueOf_147 rfl rfl ?_
    refine j_getS C (3, i0, 8, 0) fl_X3_27 dX3_valueOf_148 hv0 ⟨rfl, rfl⟩ rfl rfl ?_
    refine j_iload C 0 dX3_valueOf_151 rfl ?_
    refine j_iconst C (1 : Int32) (by decide) dX3_valueOf_153 ?_
    refine j_isub C dX3_valueOf_154 ?_
    refine j_iload C 5 dX3_valueOf_155 rfl ?_
    refine j_aload_n C 1 dX3_valueOf_157 rfl rfl ?_
    refine j_getS C (3, i0, 8, 0) fl_X3_27 dX3_valueOf_158 hv0 ⟨rfl, rfl⟩ rfl rfl ?_
    refine j_iload C 0 dX3_valueOf_161 rfl ?_
    refine j_iconst C (1 : Int32) (by decide) dX3_valueOf_163 ?_
    refine j_isub C dX3_valueOf_164 ?_
    obtain ⟨g14, h⟩ := grd_x h
    refine j_laldK C 64 ((v13 - (1 : Int32)).toNatClampNeg) dX3_valueOf_165 (V_f 7 hv0 (by decide)) rfl g14 rfl ?_
    refine j_aload_n C 1 dX3_valueOf_166 rfl rfl ?_
    refine j_getS C (3, i0, 8, 0) fl_X3_27 dX3_valueOf_167 hv0 ⟨rfl, rfl⟩ rfl rfl ?_
    refine j_iload C 0 dX3_valueOf_170 rfl ?_
    obtain ⟨g15, h⟩ := grd_x h
    refine j_laldK C 64 (v13.toNatClampNeg) dX3_valueOf_172 (V_f 7 hv0 (by decide)) rfl g15 rfl ?_
    obtain ⟨r17, D18, h16, h⟩ := cbd_x h
    refine j_callS C [.int l6, .long (D.2.1 (3, i0, 8, 0) ((v13 - (1 : Int32)).toNatClampNeg)), .long (D.2.1 (3, i0, 8, 0) (v13.toNatClampNeg))] [.int (v13 - (1 : Int32)), .ref (ad G (3, i0, 8, 0))] cl_X3_42 (M_X3_joined (lv := lv - 1) hG (by omega) h16) (by omega) dX3_valueOf_173 rfl rfl (Nat.le_of_ble_eq_true rfl) ?_
    refine j_st (st' := [.long r17, .int (v13 - (1 : Int32)), .ref (ad G (3, i0, 8, 0))]) rfl ?_
    obtain ⟨D19, eD19, h⟩ := bnd_x h
    refine j_lastK C 64 ((v13 - (1 : Int32)).toNatClampNeg) dX3_valueOf_176 (V_f 7 hv0 (by decide)) rfl g14 rfl ?_
    refine j_rep eD19 ?_
    refine j_sub [1, 2, 3, 0, 4] [(0, .ref (ad G (3, i0, 0, 0))), (2, .int l2), (3, .ref (ad G a3)), (4, .int v13), (5, .int l5)] rfl ?_
    refine T_X3_valueOf_b177 hG hlv hv0 hv3 C (fun l2_20 l4_21 l5_22 D23 h => ?_) l2 v13 l5 D19 h
    · exact hk6 l2_20 l4_21 l5_22 D23 h
def F_X3_valueOf_b103 (i0 : Nat) (a1 : Int32) (a2 : Int32) (a3 : LA) (k6 : Int32 → Int32 → Int32 → Dt → Option (Int64 × Dt)) (l2 : Int32) (l4 : Int32) (l5 : Int32) (l6 : Int32) (D : Dt) : Option (Int64 × Dt) := (if l6 = (35 : Int32) then (if l4 ≤ 0 then (F_X3_valueOf_b138 i0 a1 a2 a3 (fun l2_29 l4_30 l5_31 D32 => (k6 l2_29 l4_30 l5_31 D32)) l2 l4 l5 l6 D) else (grd (inB (l4 - (1 : Int32)) 64 = true) (bnd (setL D (3, i0, 8, 0) ((l4 - (1 : Int32)).toNatClampNeg) ((1 : Int64) - (D.2.1 (3, i0, 8, 0) ((l4 - (1 : Int32)).toNatClampNeg)))) (fun D34 => (F_X3_valueOf_b177 i0 a1 a2 a3 (fun l2_35 l4_36 l5_37 D38 => (k6 l2_35 l4_36 l5_37 D38)) l2 l4 l5 D34))))) else (F_X3_valueOf_b138 i0 a1 a2 a3 (fun l2_24 l4_25 l5_26 D27 => (k6 l2_24 l4_25 l5_26 D27)) l2 l4 l5 l6 D))
set_option maxRecDepth 100000 in
set_option maxHeartbeats 4000000 in
theorem T_X3_valueOf_b103 {r : Int64} {D' : Dt} {X : Ctx} {l : Launch} {G : Gt} {A : Nat → Prop} {lv : Nat} {i0 : Nat} {a1 : Int32} {a2 : Int32} {a3 : LA}  {k6 : Int32 → Int32 → Int32 → Dt → Option (Int64 × Dt)} (hG : Gok G A) (hlv : 2 ≤ lv) (hv0 : V (3, i0, 0, 0) = true) (hv3 : V a3 = true ∧ sh a3 = .inr (1, lenOf a3))  (C : Cx X cX3_valueOf RX3 G l A lv 7 (some .long) (some (.long r)) D') (hk6 : ∀ (l2 : Int32) (l4 : Int32) (l5 : Int32) (D : Dt), k6 l2 l4 l5 D = some (r, D') → J X (Rep G D) 6 [(0, .ref (ad G (3, i0, 0, 0))), (2, .int l2), (3, .ref (ad G a3)), (4, .int l4), (5, .int l5)] []) : ∀ (l2 : Int32) (l4 : Int32) (l5 : Int32) (l6 : Int32) (D : Dt), F_X3_valueOf_b103 i0 a1 a2 a3 k6 l2 l4 l5 l6 D = some (r, D') → J X (Rep G D) 103 [(0, .ref (ad G (3, i0, 0, 0))), (2, .int l2), (3, .ref (ad G a3)), (4, .int l4), (5, .int l5), (6, .int l6)] [] := by
  intro l2 l4 l5 l6 D h
  unfold F_X3_valueOf_b103 at h
  refine j_iload C 5 dX3_valueOf_103 rfl ?_
  refine j_bipush C (35 : Int32) (by decide) dX3_valueOf_105 ?_
  refine j_icmp_ne C 138 dX3_valueOf_107 (by decide) (fun c6 => ?_) (fun c6 => ?_)
  · have h := ite_f c6 h
    refine T_X3_valueOf_b138 hG hlv hv0 hv3 C (fun l2_24 l4_25 l5_26 D27 h => ?_) l2 l4 l5 l6 D h
    · exact hk6 l2_24 l4_25 l5_26 D27 h
  · have h := ite_t c6 h
    refine j_iload C 3 dX3_valueOf_110 rfl ?_
    refine j_if_le C 138 dX3_valueOf_112 (by decide) (fun c28 => ?_) (fun c28 => ?_)
    · have h := ite_t c28 h
      refine T_X3_valueOf_b138 hG hlv hv0 hv3 C (fun l2_29 l4_30 l5_31 D32 h => ?_) l2 l4 l5 l6 D h
      · exact hk6 l2_29 l4_30 l5_31 D32 h
    · have h := ite_f c28 h
      refine j_aload_n C 0 dX3_valueOf_115 rfl rfl ?_
      refine j_getS C (3, i0, 8, 0) fl_X3_27 dX3_valueOf_116 hv0 ⟨rfl, rfl⟩ rfl rfl ?_
      refine j_iload C 3 dX3_valueOf_119 rfl ?_
      refine j_iconst C (1 : Int32) (by decide) dX3_valueOf_121 ?_
      refine j_isub C dX3_valueOf_122 ?_
      refine j_lconst C (1 : Int64) (by decide) dX3_valueOf_123 ?_
      refine j_aload_n C 0 dX3_valueOf_124 rfl rfl ?_
      refine j_getS C (3, i0, 8, 0) fl_X3_27 dX3_valueOf_125 hv0 ⟨rfl, rfl⟩ rfl rfl ?_
      refine j_iload C 3 dX3_valueOf_128 rfl ?_
      refine j_iconst C (1 : Int32) (by decide) dX3_valueOf_130 ?_
      refine j_isub C dX3_valueOf_131 ?_
      obtain ⟨g33, h⟩ := grd_x h
      refine j_laldK C 64 ((l4 - (1 : Int32)).toNatClampNeg) dX3_valueOf_132 (V_f 7 hv0 (by decide)) rfl g33 rfl ?_
      refine j_lsub C dX3_valueOf_133 ?_
      obtain ⟨D34, eD34, h⟩ := bnd_x h
      refine j_lastK C 64 ((l4 - (1 : Int32)).toNatClampNeg) dX3_valueOf_134 (V_f 7 hv0 (by decide)) rfl g33 rfl ?_
      refine j_rep eD34 ?_
      refine j_goto C 177 dX3_valueOf_135 (by decide) ?_
      refine j_sub [0, 1, 2, 3, 4] [(0, .ref (ad G (3, i0, 0, 0))), (2, .int l2), (3, .ref (ad G a3)), (4, .int l4), (5, .int l5)] rfl ?_
      refine T_X3_valueOf_b177 hG hlv hv0 hv3 C (fun l2_35 l4_36 l5_37 D38 h => ?_) l2 l4 l5 D34 h
      · exact hk6 l2_35 l4_36 l5_37 D38 h
def F_X3_valueOf_b55 (i0 : Nat) (a1 : Int32) (a2 : Int32) (a3 : LA) (k6 : Int32 → Int32 → Int32 → Dt → Option (Int64 × Dt)) (l2 : Int32) (l4 : Int32) (l5 : Int32) (l6 : Int32) (D : Dt) : Option (Int64 × Dt) := (if l6 = (20 : Int32) then (if (64 : Int32) ≤ l4 then (F_X3_valueOf_b103 i0 a1 a2 a3 (fun l2_44 l4_45 l5_46 D47 => (k6 l2_44 l4_45 l5_46 D47)) l2 l4 l5 l6 D) else (grd (inB l5 400 = true) (if (Int32.ofNat (lenOf a3)) ≤ (D.1 (3, i0, 2, 0) (l5.toNatClampNeg)) then (F_X3_valueOf_b103 i0 a1 a2 a3 (fun l2_50 l4_51 l5_52 D53 => (k6 l2_50 l4_51 l5_52 D53)) l2 l4 l5 l6 D) else (grd (inB (D.1 (3, i0, 2, 0) (l5.toNatClampNeg)) (lenOf a3) = true) (grd (inB l4 64 = true) (bnd (setL D (3, i0, 8, 0) (l4.toNatClampNeg) (D.2.1 a3 ((D.1 (3, i0, 2, 0) (l5.toNatClampNeg)).toNatClampNeg))) (fun D56 => (bnd (l4 + (1 : Int32)) (fun v57 => (F_X3_valueOf_b177 i0 a1 a2 a3 (fun l2_58 l4_59 l5_60 D61 => (k6 l2_58 l4_59 l5_60 D61)) l2 v57 l5 D56)))))))))) else (F_X3_valueOf_b103 i0 a1 a2 a3 (fun l2_39 l4_40 l5_41 D42 => (k6 l2_39 l4_40 l5_41 D42)) l2 l4 l5 l6 D))
set_option maxRecDepth 100000 in
set_option maxHeartbeats 4000000 in
theorem T_X3_valueOf_b55 {r : Int64} {D' : Dt} {X : Ctx} {l : Launch} {G : Gt} {A : Nat → Prop} {lv : Nat} {i0 : Nat} {a1 : Int32} {a2 : Int32} {a3 : LA}  {k6 : Int32 → Int32 → Int32 → Dt → Option (Int64 × Dt)} (hG : Gok G A) (hlv : 2 ≤ lv) (hv0 : V (3, i0, 0, 0) = true) (hv3 : V a3 = true ∧ sh a3 = .inr (1, lenOf a3))  (C : Cx X cX3_valueOf RX3 G l A lv 7 (some .long) (some (.long r)) D') (hk6 : ∀ (l2 : Int32) (l4 : Int32) (l5 : Int32) (D : Dt), k6 l2 l4 l5 D = some (r, D') → J X (Rep G D) 6 [(0, .ref (ad G (3, i0, 0, 0))), (2, .int l2), (3, .ref (ad G a3)), (4, .int l4), (5, .int l5)] []) : ∀ (l2 : Int32) (l4 : Int32) (l5 : Int32) (l6 : Int32) (D : Dt), F_X3_valueOf_b55 i0 a1 a2 a3 k6 l2 l4 l5 l6 D = some (r, D') → J X (Rep G D) 55 [(0, .ref (ad G (3, i0, 0, 0))), (2, .int l2), (3, .ref (ad G a3)), (4, .int l4), (5, .int l5), (6, .int l6)] [] := by
  intro l2 l4 l5 l6 D h
  unfold F_X3_valueOf_b55 at h
  refine j_iload C 5 dX3_valueOf_55 rfl ?_
  refine j_bipush C (20 : Int32) (by decide) dX3_valueOf_57 ?_
  refine j_icmp_ne C 103 dX3_valueOf_59 (by decide) (fun c5 => ?_) (fun c5 => ?_)
  · have h := ite_f c5 h
    refine T_X3_valueOf_b103 hG hlv hv0 hv3 C (fun l2_39 l4_40 l5_41 D42 h => ?_) l2 l4 l5 l6 D h
    · exact hk6 l2_39 l4_40 l5_41 D42 h
  · have h := ite_t c5 h
    refine j_iload C 3 dX3_valueOf_62 rfl ?_
    refine j_bipush C (64 : Int32) (by decide) dX3_valueOf_64 ?_
    refine j_icmp_ge C 103 dX3_valueOf_66 (by decide) (fun c43 => ?_) (fun c43 => ?_)
    · have h := ite_t c43 h
      refine T_X3_valueOf_b103 hG hlv hv0 hv3 C (fun l2_44 l4_45 l5_46 D47 h => ?_) l2 l4 l5 l6 D h
      · exact hk6 l2_44 l4_45 l5_46 D47 h
    · have h := ite_f c43 h
      refine j_aload_n C 0 dX3_valueOf_69 rfl rfl ?_
      refine j_getS C (3, i0, 2, 0) fl_X3_15 dX3_valueOf_70 hv0 ⟨rfl, rfl⟩ rfl rfl ?_
      refine j_iload C 4 dX3_valueOf_73 rfl ?_
      obtain ⟨g48, h⟩ := grd_x h
      refine j_ialdK C 400 (l5.toNatClampNeg) dX3_valueOf_75 (V_f 1 hv0 (by decide)) rfl g48 rfl ?_
      refine j_aload_n C 2 dX3_valueOf_76 rfl rfl ?_
      refine j_alen C (Int32.ofNat (lenOf a3)) dX3_valueOf_77 hv3.1 hv3.2 (by decide) rfl ?_
      refine j_icmp_ge C 103 dX3_valueOf_78 (by decide) (fun c49 => ?_) (fun c49 => ?_)
      · have h := ite_t c49 h
        refine T_X3_valueOf_b103 hG hlv hv0 hv3 C (fun l2_50 l4_51 l5_52 D53 h => ?_) l2 l4 l5 l6 D h
        · exact hk6 l2_50 l4_51 l5_52 D53 h
      · have h := ite_f c49 h
        refine j_aload_n C 0 dX3_valueOf_81 rfl rfl ?_
        refine j_getS C (3, i0, 8, 0) fl_X3_27 dX3_valueOf_82 hv0 ⟨rfl, rfl⟩ rfl rfl ?_
        refine j_iload C 3 dX3_valueOf_85 rfl ?_
        refine j_aload_n C 2 dX3_valueOf_87 rfl rfl ?_
        refine j_aload_n C 0 dX3_valueOf_88 rfl rfl ?_
        refine j_getS C (3, i0, 2, 0) fl_X3_15 dX3_valueOf_89 hv0 ⟨rfl, rfl⟩ rfl rfl ?_
        refine j_iload C 4 dX3_valueOf_92 rfl ?_
        refine j_ialdK C 400 (l5.toNatClampNeg) dX3_valueOf_94 (V_f 1 hv0 (by decide)) rfl g48 rfl ?_
        obtain ⟨g54, h⟩ := grd_x h
        refine j_laldK C (lenOf a3) ((D.1 (3, i0, 2, 0) (l5.toNatClampNeg)).toNatClampNeg) dX3_valueOf_95 hv3.1 hv3.2 g54 rfl ?_
        obtain ⟨g55, h⟩ := grd_x h
        obtain ⟨D56, eD56, h⟩ := bnd_x h
        refine j_lastK C 64 (l4.toNatClampNeg) dX3_valueOf_96 (V_f 7 hv0 (by decide)) rfl g55 rfl ?_
        refine j_rep eD56 ?_
        obtain ⟨v57, ev57, h⟩ := bnd_x h
        refine j_iinc C 3 [(4, .int v57), (0, .ref (ad G (3, i0, 0, 0))), (2, .int l2), (3, .ref (ad G a3)), (5, .int l5), (6, .int l6)] dX3_valueOf_97 rfl (Nat.le_of_ble_eq_true rfl) (ev57.trans (congrArg (l4 + ·) (by decide))) rfl ?_
        refine j_goto C 177 dX3_valueOf_100 (by decide) ?_
        refine j_sub [1, 2, 3, 0, 4] [(0, .ref (ad G (3, i0, 0, 0))), (2, .int l2), (3, .ref (ad G a3)), (4, .int v57), (5, .int l5)] rfl ?_
        refine T_X3_valueOf_b177 hG hlv hv0 hv3 C (fun l2_58 l4_59 l5_60 D61 h => ?_) l2 v57 l5 D56 h
        · exact hk6 l2_58 l4_59 l5_60 D61 h
def F_X3_valueOf_b6 (i0 : Nat) (a1 : Int32) (a2 : Int32) (a3 : LA) (k183 : Int32 → Dt → Option (Int64 × Dt)) : Nat → Int32 → Int32 → Int32 → Dt → Option (Int64 × Dt)
  | 0, _, _, _, _ => none
  | f + 1, l2, l4, l5, D => (if l2 ≤ l5 then (k183 l4 D) else (grd (inB l5 400 = true) (bnd (D.1 (3, i0, 1, 0) (l5.toNatClampNeg)) (fun v3 => (if v3 = (1 : Int32) then (if (64 : Int32) ≤ l4 then (F_X3_valueOf_b55 i0 a1 a2 a3 (fun l2_67 l4_68 l5_69 D70 => (F_X3_valueOf_b6 i0 a1 a2 a3 k183 f l2_67 l4_68 l5_69 D70)) l2 l4 l5 v3 D) else (grd (inB l4 64 = true) (bnd (setL D (3, i0, 8, 0) (l4.toNatClampNeg) ((D.1 (3, i0, 2, 0) (l5.toNatClampNeg)).toInt64)) (fun D72 => (bnd (l4 + (1 : Int32)) (fun v73 => (F_X3_valueOf_b177 i0 a1 a2 a3 (fun l2_74 l4_75 l5_76 D77 => (F_X3_valueOf_b6 i0 a1 a2 a3 k183 f l2_74 l4_75 l5_76 D77)) l2 v73 l5 D72))))))) else (F_X3_valueOf_b55 i0 a1 a2 a3 (fun l2_62 l4_63 l5_64 D65 => (F_X3_valueOf_b6 i0 a1 a2 a3 k183 f l2_62 l4_63 l5_64 D65)) l2 l4 l5 v3 D))))))
set_option maxRecDepth 100000 in
set_option maxHeartbeats 4000000 in
theorem T_X3_valueOf_b6 {r : Int64} {D' : Dt} {X : Ctx} {l : Launch} {G : Gt} {A : Nat → Prop} {lv : Nat} {i0 : Nat} {a1 : Int32} {a2 : Int32} {a3 : LA}  {k183 : Int32 → Dt → Option (Int64 × Dt)} (hG : Gok G A) (hlv : 2 ≤ lv) (hv0 : V (3, i0, 0, 0) = true) (hv3 : V a3 = true ∧ sh a3 = .inr (1, lenOf a3))  (C : Cx X cX3_valueOf RX3 G l A lv 7 (some .long) (some (.long r)) D') (hk183 : ∀ (l4 : Int32) (D : Dt), k183 l4 D = some (r, D') → J X (Rep G D) 183 [(0, .ref (ad G (3, i0, 0, 0))), (4, .int l4)] []) : ∀ (f : Nat) (l2 : Int32) (l4 : Int32) (l5 : Int32) (D : Dt), F_X3_valueOf_b6 i0 a1 a2 a3 k183 f l2 l4 l5 D = some (r, D') → J X (Rep G D) 6 [(0, .ref (ad G (3, i0, 0, 0))), (2, .int l2), (3, .ref (ad G a3)), (4, .int l4), (5, .int l5)] [] := by
  intro f
  induction f with
  | zero =>
    intro l2 l4 l5 D h
    exact nomatch h
  | succ f ih =>
    intro l2 l4 l5 D h
    rw [F_X3_valueOf_b6] at h
    refine j_iload C 4 dX3_valueOf_6 rfl ?_
    refine j_iload_n C 1 dX3_valueOf_8 rfl rfl ?_
    refine j_icmp_ge C 183 dX3_valueOf_9 (by decide) (fun c1 => ?_) (fun c1 => ?_)
    · have h := ite_t c1 h
      refine j_sub [0, 3] [(0, .ref (ad G (3, i0, 0, 0))), (4, .int l4)] rfl ?_
      exact hk183 l4 D h
    · have h := ite_f c1 h
      refine j_aload_n C 0 dX3_valueOf_12 rfl rfl ?_
      refine j_getS C (3, i0, 1, 0) fl_X3_9 dX3_valueOf_13 hv0 ⟨rfl, rfl⟩ rfl rfl ?_
      refine j_iload C 4 dX3_valueOf_16 rfl ?_
      obtain ⟨g2, h⟩ := grd_x h
      refine j_ialdK C 400 (l5.toNatClampNeg) dX3_valueOf_18 (V_f 0 hv0 (by decide)) rfl g2 rfl ?_
      obtain ⟨v3, ev3, h⟩ := bnd_x h
      refine j_istore C [(6, .int v3), (0, .ref (ad G (3, i0, 0, 0))), (2, .int l2), (3, .ref (ad G a3)), (4, .int l4), (5, .int l5)] dX3_valueOf_19 (Nat.le_of_ble_eq_true rfl) ev3 rfl ?_
      refine j_iload C 0 dX3_valueOf_21 rfl ?_
      refine j_iconst C (1 : Int32) (by decide) dX3_valueOf_23 ?_
      refine j_icmp_ne C 55 dX3_valueOf_24 (by decide) (fun c4 => ?_) (fun c4 => ?_)
      · have h := ite_f c4 h
        refine j_sub [1, 2, 3, 4, 5, 0] [(0, .ref (ad G (3, i0, 0, 0))), (2, .int l2), (3, .ref (ad G a3)), (4, .int l4), (5, .int l5), (6, .int v3)] rfl ?_
        refine T_X3_valueOf_b55 hG hlv hv0 hv3 C (fun l2_62 l4_63 l5_64 D65 h => ?_) l2 l4 l5 v3 D h
        · exact ih l2_62 l4_63 l5_64 D65 h
      · have h := ite_t c4 h
        refine j_iload C 4 dX3_valueOf_27 rfl ?_
        refine j_bipush C (64 : Int32) (by decide) dX3_valueOf_29 ?_
        refine j_icmp_ge C 55 dX3_valueOf_31 (by decide) (fun c66 => ?_) (fun c66 => ?_)
        · have h := ite_t c66 h
          refine j_sub [1, 2, 3, 4, 5, 0] [(0, .ref (ad G (3, i0, 0, 0))), (2, .int l2), (3, .ref (ad G a3)), (4, .int l4), (5, .int l5), (6, .int v3)] rfl ?_
          refine T_X3_valueOf_b55 hG hlv hv0 hv3 C (fun l2_67 l4_68 l5_69 D70 h => ?_) l2 l4 l5 v3 D h
          · exact ih l2_67 l4_68 l5_69 D70 h
        · have h := ite_f c66 h
          refine j_aload_n C 1 dX3_valueOf_34 rfl rfl ?_
          refine j_getS C (3, i0, 8, 0) fl_X3_27 dX3_valueOf_35 hv0 ⟨rfl, rfl⟩ rfl rfl ?_
          refine j_iload C 4 dX3_valueOf_38 rfl ?_
          refine j_aload_n C 1 dX3_valueOf_40 rfl rfl ?_
          refine j_getS C (3, i0, 2, 0) fl_X3_15 dX3_valueOf_41 hv0 ⟨rfl, rfl⟩ rfl rfl ?_
          refine j_iload C 5 dX3_valueOf_44 rfl ?_
          refine j_ialdK C 400 (l5.toNatClampNeg) dX3_valueOf_46 (V_f 1 hv0 (by decide)) rfl g2 rfl ?_
          refine j_i2l C dX3_valueOf_47 ?_
          obtain ⟨g71, h⟩ := grd_x h
          obtain ⟨D72, eD72, h⟩ := bnd_x h
          refine j_lastK C 64 (l4.toNatClampNeg) dX3_valueOf_48 (V_f 7 hv0 (by decide)) rfl g71 rfl ?_
          refine j_rep eD72 ?_
          obtain ⟨v73, ev73, h⟩ := bnd_x h
          refine j_iinc C 4 [(4, .int v73), (6, .int v3), (0, .ref (ad G (3, i0, 0, 0))), (2, .int l2), (3, .ref (ad G a3)), (5, .int l5)] dX3_valueOf_49 rfl (Nat.le_of_ble_eq_true rfl) (ev73.trans (congrArg (l4 + ·) (by decide))) rfl ?_
          refine j_goto C 177 dX3_valueOf_52 (by decide) ?_
          refine j_sub [2, 3, 4, 0, 5] [(0, .ref (ad G (3, i0, 0, 0))), (2, .int l2), (3, .ref (ad G a3)), (4, .int v73), (5, .int l5)] rfl ?_
          refine T_X3_valueOf_b177 hG hlv hv0 hv3 C (fun l2_74 l4_75 l5_76 D77 h => ?_) l2 v73 l5 D72 h
          · exact ih l2_74 l4_75 l5_76 D77 h
def F_X3_valueOf (i0 : Nat) (a1 : Int32) (a2 : Int32) (a3 : LA) (D : Dt) : Option (Int64 × Dt) := (grd (V (3, i0, 0, 0) = true) (grd (V a3 = true ∧ sh a3 = .inr (1, lenOf a3)) (F_X3_valueOf_b6 i0 a1 a2 a3 (fun l4_78 D79 => (if l4_78 ≤ 0 then (some ((0 : Int64), D79)) else (grd (inB (l4_78 - (1 : Int32)) 64 = true) (some ((D79.2.1 (3, i0, 8, 0) ((l4_78 - (1 : Int32)).toNatClampNeg)), D79))))) 2000 a2 (0 : Int32) a1 D)))
set_option maxRecDepth 100000 in
set_option maxHeartbeats 4000000 in
theorem M_X3_valueOf {l : Launch} {G : Gt} {A : Nat → Prop} {lv : Nat} {i0 : Nat} {a1 : Int32} {a2 : Int32} {a3 : LA} {D : Dt} {r : Int64} {D' : Dt} (hG : Gok G A) (hlv : 2 ≤ lv)  (h : F_X3_valueOf i0 a1 a2 a3 D = some (r, D')) : MD l G A lv yX3_valueOf cX3_valueOf 7 (some .long) [.ref (ad G (3, i0, 0, 0)), .int a1, .int a2, .ref (ad G a3)] D (some (.long r)) D' := by
  unfold F_X3_valueOf at h
  obtain ⟨hv0, h⟩ := grd_x h
  obtain ⟨hv3, h⟩ := grd_x h
  refine md_start RX3 hG (by decide +kernel) rfl (Nat.le_of_ble_eq_true rfl) (L := [(0, .ref (ad G (3, i0, 0, 0))), (1, .int a1), (2, .int a2), (3, .ref (ad G a3))]) rfl (fun X C => ?_)
  refine j_iconst C (0 : Int32) (by decide) dX3_valueOf_0 ?_
  refine j_istore C [(4, .int (0 : Int32)), (0, .ref (ad G (3, i0, 0, 0))), (1, .int a1), (2, .int a2), (3, .ref (ad G a3))] dX3_valueOf_1 (Nat.le_of_ble_eq_true rfl) rfl rfl ?_
  refine j_iload_n C 2 dX3_valueOf_3 rfl rfl ?_
  refine j_istore C [(5, .int a1), (4, .int (0 : Int32)), (0, .ref (ad G (3, i0, 0, 0))), (1, .int a1), (2, .int a2), (3, .ref (ad G a3))] dX3_valueOf_4 (Nat.le_of_ble_eq_true rfl) rfl rfl ?_
  refine j_sub [2, 4, 5, 1, 0] [(0, .ref (ad G (3, i0, 0, 0))), (2, .int a2), (3, .ref (ad G a3)), (4, .int (0 : Int32)), (5, .int a1)] rfl ?_
  refine T_X3_valueOf_b6 hG hlv hv0 hv3 C (fun l4_78 D79 h => ?_) 2000 a2 (0 : Int32) a1 D h
  · refine j_iload C 1 dX3_valueOf_183 rfl ?_
    refine j_if_le C 200 dX3_valueOf_185 (by decide) (fun c80 => ?_) (fun c80 => ?_)
    · have h := ite_t c80 h
      refine j_lconst C (0 : Int64) (by decide) dX3_valueOf_200 ?_
      obtain ⟨rfl, rfl⟩ := pr_x h
      exact j_lret C dX3_valueOf_201
    · have h := ite_f c80 h
      refine j_aload_n C 0 dX3_valueOf_188 rfl rfl ?_
      refine j_getS C (3, i0, 8, 0) fl_X3_27 dX3_valueOf_189 hv0 ⟨rfl, rfl⟩ rfl rfl ?_
      refine j_iload C 1 dX3_valueOf_192 rfl ?_
      refine j_iconst C (1 : Int32) (by decide) dX3_valueOf_194 ?_
      refine j_isub C dX3_valueOf_195 ?_
      obtain ⟨g81, h⟩ := grd_x h
      refine j_laldK C 64 ((l4_78 - (1 : Int32)).toNatClampNeg) dX3_valueOf_196 (V_f 7 hv0 (by decide)) rfl g81 rfl ?_
      refine j_goto C 201 dX3_valueOf_197 (by decide) ?_
      obtain ⟨rfl, rfl⟩ := pr_x h
      exact j_lret C dX3_valueOf_201
def F_X3_sumFor_b2 (i0 : Nat) (a1 : LA) (k47 : Int32 → Dt → Option (Int64 × Dt)) : Nat → Int32 → Dt → Option (Int64 × Dt)
  | 0, _, _ => none
  | f + 1, l2, D => (if (D.1 (3, i0, 0, 0) 6) ≤ l2 then (some ((0 : Int64), D)) else (grd (inB l2 12 = true) (if (D.1 (3, i0, 5, 0) (l2.toNatClampNeg)) = (D.1 (3, i0, 6, 0) (l2.toNatClampNeg)) then (k47 l2 D) else (cbd (F_X3_valueOf i0 (D.1 (3, i0, 5, 0) (l2.toNatClampNeg)) (D.1 (3, i0, 6, 0) (l2.toNatClampNeg)) a1 D) (fun r5 D6 => (if (lg_cmp r5 (0 : Int64)) = 0 then (bnd (l2 + (1 : Int32)) (fun v8 => (F_X3_sumFor_b2 i0 a1 k47 f v8 D6))) else (k47 l2 D6)))))))
set_option maxRecDepth 100000 in
set_option maxHeartbeats 4000000 in
theorem T_X3_sumFor_b2 {r : Int64} {D' : Dt} {X : Ctx} {l : Launch} {G : Gt} {A : Nat → Prop} {lv : Nat} {i0 : Nat} {a1 : LA}  {k47 : Int32 → Dt → Option (Int64 × Dt)} (hG : Gok G A) (hlv : 3 ≤ lv) (hv0 : V (3, i0, 0, 0) = true) (hv1 : V a1 = true ∧ sh a1 = .inr (1, lenOf a1))  (C : Cx X cX3_sumFor RX3 G l A lv 3 (some .long) (some (.long r)) D') (hk47 : ∀ (l2 : Int32) (D : Dt), k47 l2 D = some (r, D') → J X (Rep G D) 47 [(0, .ref (ad G (3, i0, 0, 0))), (1, .ref (ad G a1)), (2, .int l2)] []) : ∀ (f : Nat) (l2 : Int32) (D : Dt), F_X3_sumFor_b2 i0 a1 k47 f l2 D = some (r, D') → J X (Rep G D) 2 [(0, .ref (ad G (3, i0, 0, 0))), (1, .ref (ad G a1)), (2, .int l2)] [] := by
  intro f
  induction f with
  | zero =>
    intro l2 D h
    exact nomatch h
  | succ f ih =>
    intro l2 D h
    rw [F_X3_sumFor_b2] at h
    refine j_iload_n C 2 dX3_sumFor_2 rfl rfl ?_
    refine j_aload_n C 0 dX3_sumFor_3 rfl rfl ?_
    refine j_getI C fl_X3_35 dX3_sumFor_4 hv0 ⟨rfl, rfl⟩ rfl ?_
    refine j_icmp_ge C 71 dX3_sumFor_7 (by decide) (fun c1 => ?_) (fun c1 => ?_)
    · have h := ite_t c1 h
      refine j_lconst C (0 : Int64) (by decide) dX3_sumFor_71 ?_
      obtain ⟨rfl, rfl⟩ := pr_x h
      exact j_lret C dX3_sumFor_72
    · have h := ite_f c1 h
      refine j_aload_n C 0 dX3_sumFor_10 rfl rfl ?_
      refine j_getS C (3, i0, 5, 0) fl_X3_21 dX3_sumFor_11 hv0 ⟨rfl, rfl⟩ rfl rfl ?_
      refine j_iload_n C 2 dX3_sumFor_14 rfl rfl ?_
      obtain ⟨g2, h⟩ := grd_x h
      refine j_ialdK C 12 (l2.toNatClampNeg) dX3_sumFor_15 (V_f 4 hv0 (by decide)) rfl g2 rfl ?_
      refine j_aload_n C 0 dX3_sumFor_16 rfl rfl ?_
      refine j_getS C (3, i0, 6, 0) fl_X3_24 dX3_sumFor_17 hv0 ⟨rfl, rfl⟩ rfl rfl ?_
      refine j_iload_n C 2 dX3_sumFor_20 rfl rfl ?_
      refine j_ialdK C 12 (l2.toNatClampNeg) dX3_sumFor_21 (V_f 5 hv0 (by decide)) rfl g2 rfl ?_
      refine j_icmp_eq C 47 dX3_sumFor_22 (by decide) (fun c3 => ?_) (fun c3 => ?_)
      · have h := ite_t c3 h
        exact hk47 l2 D h
      · have h := ite_f c3 h
        refine j_aload_n C 0 dX3_sumFor_25 rfl rfl ?_
        refine j_aload_n C 0 dX3_sumFor_26 rfl rfl ?_
        refine j_getS C (3, i0, 5, 0) fl_X3_21 dX3_sumFor_27 hv0 ⟨rfl, rfl⟩ rfl rfl ?_
        refine j_iload_n C 2 dX3_sumFor_30 rfl rfl ?_
        refine j_ialdK C 12 (l2.toNatClampNeg) dX3_sumFor_31 (V_f 4 hv0 (by decide)) rfl g2 rfl ?_
        refine j_aload_n C 0 dX3_sumFor_32 rfl rfl ?_
        refine j_getS C (3, i0, 6, 0) fl_X3_24 dX3_sumFor_33 hv0 ⟨rfl, rfl⟩ rfl rfl ?_
        refine j_iload_n C 2 dX3_sumFor_36 rfl rfl ?_
        refine j_ialdK C 12 (l2.toNatClampNeg) dX3_sumFor_37 (V_f 5 hv0 (by decide)) rfl g2 rfl ?_
        refine j_aload_n C 1 dX3_sumFor_38 rfl rfl ?_
        obtain ⟨r5, D6, h4, h⟩ := cbd_x h
        refine j_callV C [.int (D.1 (3, i0, 5, 0) (l2.toNatClampNeg)), .int (D.1 (3, i0, 6, 0) (l2.toNatClampNeg)), .ref (ad G a1)] [] cl_X3_38 (M_X3_valueOf (lv := lv - 1) hG (by omega) h4) (by omega) dX3_sumFor_39 hv0 ⟨rfl, rfl⟩ rfl rfl (Nat.le_of_ble_eq_true rfl) ?_
        refine j_st (st' := [.long r5]) rfl ?_
        refine j_lconst C (0 : Int64) (by decide) dX3_sumFor_42 ?_
        refine j_lcmp C dX3_sumFor_43 ?_
        refine j_if_eq C 65 dX3_sumFor_44 (by decide) (fun c7 => ?_) (fun c7 => ?_)
        · have h := ite_t c7 h
          obtain ⟨v8, ev8, h⟩ := bnd_x h
          refine j_iinc C 2 [(2, .int v8), (0, .ref (ad G (3, i0, 0, 0))), (1, .ref (ad G a1))] dX3_sumFor_65 rfl (Nat.le_of_ble_eq_true rfl) (ev8.trans (congrArg (l2 + ·) (by decide))) rfl ?_
          refine j_goto C 2 dX3_sumFor_68 (by decide) ?_
          refine j_sub [1, 2, 0] [(0, .ref (ad G (3, i0, 0, 0))), (1, .ref (ad G a1)), (2, .int v8)] rfl ?_
          exact ih v8 D6 h
        · have h := ite_f c7 h
          exact hk47 l2 D6 h
def F_X3_sumFor (i0 : Nat) (a1 : LA) (D : Dt) : Option (Int64 × Dt) := (grd (V (3, i0, 0, 0) = true) (grd (V a1 = true ∧ sh a1 = .inr (1, lenOf a1)) (F_X3_sumFor_b2 i0 a1 (fun l2_9 D10 => (grd (inB l2_9 12 = true) (cbd (F_X3_valueOf i0 (D10.1 (3, i0, 4, 0) (l2_9.toNatClampNeg)) (D10.1 (3, i0, 5, 0) (l2_9.toNatClampNeg)) a1 D10) (fun r13 D14 => (some (r13, D14)))))) 2000 (0 : Int32) D)))
set_option maxRecDepth 100000 in
set_option maxHeartbeats 4000000 in
theorem M_X3_sumFor {l : Launch} {G : Gt} {A : Nat → Prop} {lv : Nat} {i0 : Nat} {a1 : LA} {D : Dt} {r : Int64} {D' : Dt} (hG : Gok G A) (hlv : 3 ≤ lv)  (h : F_X3_sumFor i0 a1 D = some (r, D')) : MD l G A lv yX3_sumFor cX3_sumFor 3 (some .long) [.ref (ad G (3, i0, 0, 0)), .ref (ad G a1)] D (some (.long r)) D' := by
  unfold F_X3_sumFor at h
  obtain ⟨hv0, h⟩ := grd_x h
  obtain ⟨hv1, h⟩ := grd_x h
  refine md_start RX3 hG (by decide +kernel) rfl (Nat.le_of_ble_eq_true rfl) (L := [(0, .ref (ad G (3, i0, 0, 0))), (1, .ref (ad G a1))]) rfl (fun X C => ?_)
  refine j_iconst C (0 : Int32) (by decide) dX3_sumFor_0 ?_
  refine j_istore_n C [(2, .int (0 : Int32)), (0, .ref (ad G (3, i0, 0, 0))), (1, .ref (ad G a1))] dX3_sumFor_1 rfl (Nat.le_of_ble_eq_true rfl) rfl rfl ?_
  refine j_sub [1, 2, 0] [(0, .ref (ad G (3, i0, 0, 0))), (1, .ref (ad G a1)), (2, .int (0 : Int32))] rfl ?_
  refine T_X3_sumFor_b2 hG hlv hv0 hv1 C (fun l2_9 D10 h => ?_) 2000 (0 : Int32) D h
  · refine j_aload_n C 0 dX3_sumFor_47 rfl rfl ?_
    refine j_aload_n C 0 dX3_sumFor_48 rfl rfl ?_
    refine j_getS C (3, i0, 4, 0) fl_X3_18 dX3_sumFor_49 hv0 ⟨rfl, rfl⟩ rfl rfl ?_
    refine j_iload_n C 2 dX3_sumFor_52 rfl rfl ?_
    obtain ⟨g11, h⟩ := grd_x h
    refine j_ialdK C 12 (l2_9.toNatClampNeg) dX3_sumFor_53 (V_f 3 hv0 (by decide)) rfl g11 rfl ?_
    refine j_aload_n C 0 dX3_sumFor_54 rfl rfl ?_
    refine j_getS C (3, i0, 5, 0) fl_X3_21 dX3_sumFor_55 hv0 ⟨rfl, rfl⟩ rfl rfl ?_
    refine j_iload_n C 2 dX3_sumFor_58 rfl rfl ?_
    refine j_ialdK C 12 (l2_9.toNatClampNeg) dX3_sumFor_59 (V_f 4 hv0 (by decide)) rfl g11 rfl ?_
    refine j_aload_n C 1 dX3_sumFor_60 rfl rfl ?_
    obtain ⟨r13, D14, h12, h⟩ := cbd_x h
    refine j_callV C [.int (D10.1 (3, i0, 4, 0) (l2_9.toNatClampNeg)), .int (D10.1 (3, i0, 5, 0) (l2_9.toNatClampNeg)), .ref (ad G a1)] [] cl_X3_38 (M_X3_valueOf (lv := lv - 1) hG (by omega) h12) (by omega) dX3_sumFor_61 hv0 ⟨rfl, rfl⟩ rfl rfl (Nat.le_of_ble_eq_true rfl) ?_
    refine j_st (st' := [.long r13]) rfl ?_
    obtain ⟨rfl, rfl⟩ := pr_x h
    exact j_lret C dX3_sumFor_64
def F_X6_mayBuy (i0 : Nat) (a1 : Int32) (a2 : Int32) (D : Dt) : Option (Int32 × Dt) := (grd (V (6, i0, 0, 0) = true) (if a1 = a2 then (some ((0 : Int32), D)) else (grd (inB a1 5 = true) (if (D.1 (6, i0, 1, 0) (a1.toNatClampNeg)) < (D.1 (6, i0, 0, 0) 5) then (some ((0 : Int32), D)) else (grd (inB a2 5 = true) (if (D.1 (6, i0, 2, 0) (a2.toNatClampNeg)) ≤ 0 then (some ((0 : Int32), D)) else (some ((1 : Int32), D))))))))
set_option maxRecDepth 100000 in
set_option maxHeartbeats 4000000 in
theorem M_X6_mayBuy {l : Launch} {G : Gt} {A : Nat → Prop} {lv : Nat} {i0 : Nat} {a1 : Int32} {a2 : Int32} {D : Dt} {r : Int32} {D' : Dt} (hG : Gok G A) (hlv : 1 ≤ lv)  (h : F_X6_mayBuy i0 a1 a2 D = some (r, D')) : MD l G A lv yX6_mayBuy cX6_mayBuy 3 (some .boolean) [.ref (ad G (6, i0, 0, 0)), .int a1, .int a2] D (some (.int r)) D' := by
  unfold F_X6_mayBuy at h
  obtain ⟨hv0, h⟩ := grd_x h
  refine md_start RX6 hG (by decide +kernel) rfl (Nat.le_of_ble_eq_true rfl) (L := [(0, .ref (ad G (6, i0, 0, 0))), (1, .int a1), (2, .int a2)]) rfl (fun X C => ?_)
  refine j_iload_n C 1 dX6_mayBuy_0 rfl rfl ?_
  refine j_iload_n C 2 dX6_mayBuy_1 rfl rfl ?_
  refine j_icmp_eq C 31 dX6_mayBuy_2 (by decide) (fun c1 => ?_) (fun c1 => ?_)
  · have h := ite_t c1 h
    refine j_iconst C (0 : Int32) (by decide) dX6_mayBuy_31 ?_
    obtain ⟨rfl, rfl⟩ := pr_x h
    exact j_zret C (Or.inl rfl) dX6_mayBuy_32
  · have h := ite_f c1 h
    refine j_aload_n C 0 dX6_mayBuy_5 rfl rfl ?_
    refine j_getS C (6, i0, 1, 0) fl_X6_9 dX6_mayBuy_6 hv0 ⟨rfl, rfl⟩ rfl rfl ?_
    refine j_iload_n C 1 dX6_mayBuy_9 rfl rfl ?_
    obtain ⟨g2, h⟩ := grd_x h
    refine j_ialdK C 5 (a1.toNatClampNeg) dX6_mayBuy_10 (V_f 0 hv0 (by decide)) rfl g2 rfl ?_
    refine j_aload_n C 0 dX6_mayBuy_11 rfl rfl ?_
    refine j_getI C fl_X6_40 dX6_mayBuy_12 hv0 ⟨rfl, rfl⟩ rfl ?_
    refine j_icmp_lt C 31 dX6_mayBuy_15 (by decide) (fun c3 => ?_) (fun c3 => ?_)
    · have h := ite_t c3 h
      refine j_iconst C (0 : Int32) (by decide) dX6_mayBuy_31 ?_
      obtain ⟨rfl, rfl⟩ := pr_x h
      exact j_zret C (Or.inl rfl) dX6_mayBuy_32
    · have h := ite_f c3 h
      refine j_aload_n C 0 dX6_mayBuy_18 rfl rfl ?_
      refine j_getS C (6, i0, 2, 0) fl_X6_15 dX6_mayBuy_19 hv0 ⟨rfl, rfl⟩ rfl rfl ?_
      refine j_iload_n C 2 dX6_mayBuy_22 rfl rfl ?_
      obtain ⟨g4, h⟩ := grd_x h
      refine j_ialdK C 5 (a2.toNatClampNeg) dX6_mayBuy_23 (V_f 1 hv0 (by decide)) rfl g4 rfl ?_
      refine j_if_le C 31 dX6_mayBuy_24 (by decide) (fun c5 => ?_) (fun c5 => ?_)
      · have h := ite_t c5 h
        refine j_iconst C (0 : Int32) (by decide) dX6_mayBuy_31 ?_
        obtain ⟨rfl, rfl⟩ := pr_x h
        exact j_zret C (Or.inl rfl) dX6_mayBuy_32
      · have h := ite_f c5 h
        refine j_iconst C (1 : Int32) (by decide) dX6_mayBuy_27 ?_
        refine j_goto C 32 dX6_mayBuy_28 (by decide) ?_
        obtain ⟨rfl, rfl⟩ := pr_x h
        exact j_zret C (Or.inr rfl) dX6_mayBuy_32
def F_X8_has (a1 : Int32) (a2 : Int32) (D : Dt) : Option (Int32 × Dt) := (if ((a1 >>> (a2 &&& 31)) &&& (1 : Int32)) = 0 then (some ((0 : Int32), D)) else (some ((1 : Int32), D)))
set_option maxRecDepth 100000 in
set_option maxHeartbeats 4000000 in
theorem M_X8_has {l : Launch} {G : Gt} {A : Nat → Prop} {lv : Nat} {a1 : Int32} {a2 : Int32} {D : Dt} {r : Int32} {D' : Dt} (hG : Gok G A) (hlv : 1 ≤ lv)  (h : F_X8_has a1 a2 D = some (r, D')) : MD l G A lv yX8_has cX8_has 2 (some .boolean) [.int a1, .int a2] D (some (.int r)) D' := by
  unfold F_X8_has at h
  refine md_start RX8 hG (by decide +kernel) rfl (Nat.le_of_ble_eq_true rfl) (L := [(0, .int a1), (1, .int a2)]) rfl (fun X C => ?_)
  refine j_iload_n C 0 dX8_has_0 rfl rfl ?_
  refine j_iload_n C 1 dX8_has_1 rfl rfl ?_
  refine j_ishr C dX8_has_2 ?_
  refine j_iconst C (1 : Int32) (by decide) dX8_has_3 ?_
  refine j_iand C dX8_has_4 ?_
  refine j_if_eq C 12 dX8_has_5 (by decide) (fun c1 => ?_) (fun c1 => ?_)
  · have h := ite_t c1 h
    refine j_iconst C (0 : Int32) (by decide) dX8_has_12 ?_
    obtain ⟨rfl, rfl⟩ := pr_x h
    exact j_zret C (Or.inl rfl) dX8_has_13
  · have h := ite_f c1 h
    refine j_iconst C (1 : Int32) (by decide) dX8_has_8 ?_
    refine j_goto C 13 dX8_has_9 (by decide) ?_
    obtain ⟨rfl, rfl⟩ := pr_x h
    exact j_zret C (Or.inr rfl) dX8_has_13
def F_X8_pickChosen_b37 (i0 : Nat) (a1 : Nat) (a2 : Int32)  (s1 : Int32) (D : Dt) : Option (Int32 × Dt) := (grd (s1 = 0 ∨ s1 = 1) (bnd (setI D (8, i0, 0, 0) 6 s1) (fun D10 => (if (D10.1 (8, i0, 0, 0) 6) = 0 then (some ((D10.1 (8, i0, 0, 0) 5), D10)) else (some ((-1 : Int32), D10))))))
set_option maxRecDepth 100000 in
set_option maxHeartbeats 4000000 in
theorem T_X8_pickChosen_b37 {r : Int32} {D' : Dt} {X : Ctx} {l : Launch} {G : Gt} {A : Nat → Prop} {lv : Nat} {i0 : Nat} {a1 : Nat} {a2 : Int32}   (hG : Gok G A) (hlv : 2 ≤ lv) (hv0 : V (8, i0, 0, 0) = true) (hv1 : V (6, a1, 0, 0) = true)  (C : Cx X cX8_pickChosen RX8 G l A lv 3 (some .int) (some (.int r)) D')  : ∀ (s1 : Int32) (D : Dt), F_X8_pickChosen_b37 i0 a1 a2 s1 D = some (r, D') → J X (Rep G D) 37 [(0, .ref (ad G (8, i0, 0, 0)))] [.int s1, .ref (ad G (8, i0, 0, 0))] := by
  intro s1 D h
  unfold F_X8_pickChosen_b37 at h
  obtain ⟨g9, h⟩ := grd_x h
  obtain ⟨D10, eD10, h⟩ := bnd_x h
  refine j_putZ C fl_X8_36 dX8_pickChosen_37 hv0 ⟨rfl, rfl⟩ rfl rfl rfl g9 ?_
  refine j_rep eD10 ?_
  refine j_aload_n C 0 dX8_pickChosen_40 rfl rfl ?_
  refine j_getI C fl_X8_36 dX8_pickChosen_41 hv0 ⟨rfl, rfl⟩ rfl ?_
  refine j_if_eq C 51 dX8_pickChosen_44 (by decide) (fun c11 => ?_) (fun c11 => ?_)
  · have h := ite_t c11 h
    refine j_aload_n C 0 dX8_pickChosen_51 rfl rfl ?_
    refine j_getI C fl_X8_33 dX8_pickChosen_52 hv0 ⟨rfl, rfl⟩ rfl ?_
    obtain ⟨rfl, rfl⟩ := pr_x h
    exact j_iret C dX8_pickChosen_55
  · have h := ite_f c11 h
    refine j_iconst C (-1 : Int32) (by decide) dX8_pickChosen_47 ?_
    refine j_goto C 55 dX8_pickChosen_48 (by decide) ?_
    obtain ⟨rfl, rfl⟩ := pr_x h
    exact j_iret C dX8_pickChosen_55
def F_X8_pickChosen (i0 : Nat) (a1 : Nat) (a2 : Int32) (D : Dt) : Option (Int32 × Dt) := (grd (V (8, i0, 0, 0) = true) (grd (V (6, a1, 0, 0) = true) (cbd (F_X10_within (D.1 (8, i0, 0, 0) 5) (0 : Int32) (a2 - (1 : Int32)) D) (fun r2 D3 => (if r2 = 0 then (some ((-1 : Int32), D3)) else (cbd (F_X6_mayBuy a1 (D3.1 (8, i0, 0, 0) 4) (D3.1 (8, i0, 0, 0) 5) D3) (fun r6 D7 => (if r6 = 0 then (F_X8_pickChosen_b37 i0 a1 a2 (1 : Int32) D7) else (F_X8_pickChosen_b37 i0 a1 a2 (0 : Int32) D7)))))))))
set_option maxRecDepth 100000 in
set_option maxHeartbeats 4000000 in
theorem M_X8_pickChosen {l : Launch} {G : Gt} {A : Nat → Prop} {lv : Nat} {i0 : Nat} {a1 : Nat} {a2 : Int32} {D : Dt} {r : Int32} {D' : Dt} (hG : Gok G A) (hlv : 2 ≤ lv)  (h : F_X8_pickChosen i0 a1 a2 D = some (r, D')) : MD l G A lv yX8_pickChosen cX8_pickChosen 3 (some .int) [.ref (ad G (8, i0, 0, 0)), .ref (ad G (6, a1, 0, 0)), .int a2] D (some (.int r)) D' := by
  unfold F_X8_pickChosen at h
  obtain ⟨hv0, h⟩ := grd_x h
  obtain ⟨hv1, h⟩ := grd_x h
  refine md_start RX8 hG (by decide +kernel) rfl (Nat.le_of_ble_eq_true rfl) (L := [(0, .ref (ad G (8, i0, 0, 0))), (1, .ref (ad G (6, a1, 0, 0))), (2, .int a2)]) rfl (fun X C => ?_)
  refine j_aload_n C 0 dX8_pickChosen_0 rfl rfl ?_
  refine j_getI C fl_X8_33 dX8_pickChosen_1 hv0 ⟨rfl, rfl⟩ rfl ?_
  refine j_iconst C (0 : Int32) (by decide) dX8_pickChosen_4 ?_
  refine j_iload_n C 2 dX8_pickChosen_5 rfl rfl ?_
  refine j_iconst C (1 : Int32) (by decide) dX8_pickChosen_6 ?_
  refine j_isub C dX8_pickChosen_7 ?_
  obtain ⟨r2, D3, h1, h⟩ := cbd_x h
  refine j_callS C [.int (D.1 (8, i0, 0, 0) 5), .int (0 : Int32), .int (a2 - (1 : Int32))] [] cl_X8_128 (M_X10_within (lv := lv - 1) hG (by omega) h1) (by omega) dX8_pickChosen_8 rfl rfl (Nat.le_of_ble_eq_true rfl) ?_
  refine j_st (st' := [.int r2]) rfl ?_
  refine j_if_ne C 16 dX8_pickChosen_11 (by decide) (fun c4 => ?_) (fun c4 => ?_)
  · have h := ite_f c4 h
    refine j_aload_n C 0 dX8_pickChosen_16 rfl rfl ?_
    refine j_aload_n C 1 dX8_pickChosen_17 rfl rfl ?_
    refine j_aload_n C 0 dX8_pickChosen_18 rfl rfl ?_
    refine j_getI C fl_X8_30 dX8_pickChosen_19 hv0 ⟨rfl, rfl⟩ rfl ?_
    refine j_aload_n C 0 dX8_pickChosen_22 rfl rfl ?_
    refine j_getI C fl_X8_33 dX8_pickChosen_23 hv0 ⟨rfl, rfl⟩ rfl ?_
    obtain ⟨r6, D7, h5, h⟩ := cbd_x h
    refine j_callV C [.int (D3.1 (8, i0, 0, 0) 4), .int (D3.1 (8, i0, 0, 0) 5)] [.ref (ad G (8, i0, 0, 0))] cl_X8_116 (M_X6_mayBuy (lv := lv - 1) hG (by omega) h5) (by omega) dX8_pickChosen_26 hv1 ⟨rfl, rfl⟩ rfl rfl (Nat.le_of_ble_eq_true rfl) ?_
    refine j_st (st' := [.int r6, .ref (ad G (8, i0, 0, 0))]) rfl ?_
    refine j_if_ne C 36 dX8_pickChosen_29 (by decide) (fun c8 => ?_) (fun c8 => ?_)
    · have h := ite_f c8 h
      refine j_iconst C (0 : Int32) (by decide) dX8_pickChosen_36 ?_
      refine j_sub [0] [(0, .ref (ad G (8, i0, 0, 0)))] rfl ?_
      refine T_X8_pickChosen_b37 hG hlv hv0 hv1 C  (0 : Int32) D7 h
    · have h := ite_t c8 h
      refine j_iconst C (1 : Int32) (by decide) dX8_pickChosen_32 ?_
      refine j_goto C 37 dX8_pickChosen_33 (by decide) ?_
      refine j_sub [0] [(0, .ref (ad G (8, i0, 0, 0)))] rfl ?_
      refine T_X8_pickChosen_b37 hG hlv hv0 hv1 C  (1 : Int32) D7 h
  · have h := ite_t c4 h
    refine j_iconst C (-1 : Int32) (by decide) dX8_pickChosen_14 ?_
    obtain ⟨rfl, rfl⟩ := pr_x h
    exact j_iret C dX8_pickChosen_15
def F_X5_soonOf (i0 : Nat) (a1 : Int32) (a2 : Int32) (D : Dt) : Option (Int32 × Dt) := (grd (V (5, i0, 0, 0) = true) (cbd (F_X10_within a2 (0 : Int32) (60 : Int32) D) (fun r2 D3 => (if r2 = 0 then (some ((99 : Int32), D3)) else (grd (inB a1 5 = true) (grd (inB a2 61 = true) (some ((D3.1 (5, i0, 9, a1.toNatClampNeg + 1) (a2.toNatClampNeg)), D3))))))))
set_option maxRecDepth 100000 in
set_option maxHeartbeats 4000000 in
theorem M_X5_soonOf {l : Launch} {G : Gt} {A : Nat → Prop} {lv : Nat} {i0 : Nat} {a1 : Int32} {a2 : Int32} {D : Dt} {r : Int32} {D' : Dt} (hG : Gok G A) (hlv : 2 ≤ lv)  (h : F_X5_soonOf i0 a1 a2 D = some (r, D')) : MD l G A lv yX5_soonOf cX5_soonOf 3 (some .int) [.ref (ad G (5, i0, 0, 0)), .int a1, .int a2] D (some (.int r)) D' := by
  unfold F_X5_soonOf at h
  obtain ⟨hv0, h⟩ := grd_x h
  refine md_start RX5 hG (by decide +kernel) rfl (Nat.le_of_ble_eq_true rfl) (L := [(0, .ref (ad G (5, i0, 0, 0))), (1, .int a1), (2, .int a2)]) rfl (fun X C => ?_)
  refine j_iload_n C 2 dX5_soonOf_0 rfl rfl ?_
  refine j_iconst C (0 : Int32) (by decide) dX5_soonOf_1 ?_
  refine j_bipush C (60 : Int32) (by decide) dX5_soonOf_2 ?_
  obtain ⟨r2, D3, h1, h⟩ := cbd_x h
  refine j_callS C [.int a2, .int (0 : Int32), .int (60 : Int32)] [] cl_X5_47 (M_X10_within (lv := lv - 1) hG (by omega) h1) (by omega) dX5_soonOf_4 rfl rfl (Nat.le_of_ble_eq_true rfl) ?_
  refine j_st (st' := [.int r2]) rfl ?_
  refine j_if_eq C 21 dX5_soonOf_7 (by decide) (fun c4 => ?_) (fun c4 => ?_)
  · have h := ite_t c4 h
    refine j_bipush C (99 : Int32) (by decide) dX5_soonOf_21 ?_
    obtain ⟨rfl, rfl⟩ := pr_x h
    exact j_iret C dX5_soonOf_23
  · have h := ite_f c4 h
    refine j_aload_n C 0 dX5_soonOf_10 rfl rfl ?_
    refine j_getS C (5, i0, 9, 0) fl_X5_26 dX5_soonOf_11 hv0 ⟨rfl, rfl⟩ rfl rfl ?_
    refine j_iload_n C 1 dX5_soonOf_14 rfl rfl ?_
    obtain ⟨g5, h⟩ := grd_x h
    refine j_aald C 7 5 (5, i0, 9, a1.toNatClampNeg + 1) dX5_soonOf_15 (V_f 8 hv0 (by decide)) rfl (by decide) g5 rfl ?_
    refine j_iload_n C 2 dX5_soonOf_16 rfl rfl ?_
    obtain ⟨g6, h⟩ := grd_x h
    refine j_ialdK C 61 (a2.toNatClampNeg) dX5_soonOf_17 (V_w hv0 rfl (inB_lt g5)) rfl g6 rfl ?_
    refine j_goto C 23 dX5_soonOf_18 (by decide) ?_
    obtain ⟨rfl, rfl⟩ := pr_x h
    exact j_iret C dX5_soonOf_23
def F_X8_tellLand_b102 (i0 : Nat) (a1 : Nat) (a2 : Int32)  (s1 : Int32) (s2 : Int64) (D : Dt) : Option Dt := (grd (inB s1 12 = true) (bnd (setL D (8, i0, 9, 0) (s1.toNatClampNeg) s2) (fun D15 => (bnd (setL D15 (8, i0, 9, 0) 11 ((D15.1 (6, a1, 0, 0) 6).toInt64)) (fun D16 => (some D16))))))
set_option maxRecDepth 100000 in
set_option maxHeartbeats 4000000 in
theorem T_X8_tellLand_b102 {D' : Dt} {X : Ctx} {l : Launch} {G : Gt} {A : Nat → Prop} {lv : Nat} {i0 : Nat} {a1 : Nat} {a2 : Int32}   (hG : Gok G A) (hlv : 3 ≤ lv) (hv0 : V (8, i0, 0, 0) = true) (hv1 : V (6, a1, 0, 0) = true)  (C : Cx X cX8_tellLand RX8 G l A lv 3 none none D')  : ∀ (s1 : Int32) (s2 : Int64) (D : Dt), F_X8_tellLand_b102 i0 a1 a2 s1 s2 D = some D' → J X (Rep G D) 102 [(0, .ref (ad G (8, i0, 0, 0))), (1, .ref (ad G (6, a1, 0, 0)))] [.long s2, .int s1, .ref (ad G (8, i0, 9, 0))] := by
  intro s1 s2 D h
  unfold F_X8_tellLand_b102 at h
  obtain ⟨g14, h⟩ := grd_x h
  obtain ⟨D15, eD15, h⟩ := bnd_x h
  refine j_lastK C 12 (s1.toNatClampNeg) dX8_tellLand_102 (V_f 8 hv0 (by decide)) rfl g14 rfl ?_
  refine j_rep eD15 ?_
  refine j_aload_n C 0 dX8_tellLand_103 rfl rfl ?_
  refine j_getS C (8, i0, 9, 0) fl_X8_9 dX8_tellLand_104 hv0 ⟨rfl, rfl⟩ rfl rfl ?_
  refine j_bipush C (11 : Int32) (by decide) dX8_tellLand_107 ?_
  refine j_aload_n C 1 dX8_tellLand_109 rfl rfl ?_
  refine j_getI C fl_X8_68 dX8_tellLand_110 hv1 ⟨rfl, rfl⟩ rfl ?_
  refine j_i2l C dX8_tellLand_113 ?_
  obtain ⟨D16, eD16, h⟩ := bnd_x h
  refine j_lastK C 12 11 dX8_tellLand_114 (V_f 8 hv0 (by decide)) rfl (by decide) (by decide) ?_
  refine j_rep eD16 ?_
  obtain rfl := Option.some.inj h
  exact j_vret C dX8_tellLand_115
def F_X8_tellLand (i0 : Nat) (a1 : Nat) (a2 : Int32) (D : Dt) : Option Dt := (grd (V (8, i0, 0, 0) = true) (grd (V (6, a1, 0, 0) = true) (bnd (setL D (8, i0, 9, 0) 0 a2.toInt64) (fun D1 => (grd (inB a2 5 = true) (bnd (setL D1 (8, i0, 9, 0) 2 ((D1.1 (6, a1, 1, 0) (a2.toNatClampNeg)).toInt64)) (fun D3 => (bnd (setL D3 (8, i0, 9, 0) 3 ((D3.1 (6, a1, 2, 0) (a2.toNatClampNeg)).toInt64)) (fun D4 => (bnd (setL D4 (8, i0, 9, 0) 4 ((D4.1 (6, a1, 3, 0) (a2.toNatClampNeg)).toInt64)) (fun D5 => (bnd (setL D5 (8, i0, 9, 0) 5 ((D5.1 (6, a1, 4, 0) (a2.toNatClampNeg)).toInt64)) (fun D6 => (bnd (setL D6 (8, i0, 9, 0) 9 ((D6.1 (6, a1, 0, 0) 5).toInt64)) (fun D7 => (if (D7.2.2 (8, i0, 0, 0) 0) = none then (F_X8_tellLand_b102 i0 a1 a2 (10 : Int32) (0 : Int64) D7) else (obd (D7.2.2 (8, i0, 0, 0) 0) (fun n9 => (grd (V (5, n9, 0, 0) = true) (cbd (F_X5_soonOf n9 a2 (D7.1 (6, a1, 0, 0) 6) D7) (fun r12 D13 => (F_X8_tellLand_b102 i0 a1 a2 (10 : Int32) r12.toInt64 D13))))))))))))))))))))))
set_option maxRecDepth 100000 in
set_option maxHeartbeats 4000000 in
theorem M_X8_tellLand {l : Launch} {G : Gt} {A : Nat → Prop} {lv : Nat} {i0 : Nat} {a1 : Nat} {a2 : Int32} {D : Dt} {D' : Dt} (hG : Gok G A) (hlv : 3 ≤ lv)  (h : F_X8_tellLand i0 a1 a2 D = some D') : MD l G A lv yX8_tellLand cX8_tellLand 3 none [.ref (ad G (8, i0, 0, 0)), .ref (ad G (6, a1, 0, 0)), .int a2] D none D' := by
  unfold F_X8_tellLand at h
  obtain ⟨hv0, h⟩ := grd_x h
  obtain ⟨hv1, h⟩ := grd_x h
  refine md_start RX8 hG (by decide +kernel) rfl (Nat.le_of_ble_eq_true rfl) (L := [(0, .ref (ad G (8, i0, 0, 0))), (1, .ref (ad G (6, a1, 0, 0))), (2, .int a2)]) rfl (fun X C => ?_)
  refine j_aload_n C 0 dX8_tellLand_0 rfl rfl ?_
  refine j_getS C (8, i0, 9, 0) fl_X8_9 dX8_tellLand_1 hv0 ⟨rfl, rfl⟩ rfl rfl ?_
  refine j_iconst C (0 : Int32) (by decide) dX8_tellLand_4 ?_
  refine j_iload_n C 2 dX8_tellLand_5 rfl rfl ?_
  refine j_i2l C dX8_tellLand_6 ?_
  obtain ⟨D1, eD1, h⟩ := bnd_x h
  refine j_lastK C 12 0 dX8_tellLand_7 (V_f 8 hv0 (by decide)) rfl (by decide) (by decide) ?_
  refine j_rep eD1 ?_
  refine j_aload_n C 0 dX8_tellLand_8 rfl rfl ?_
  refine j_getS C (8, i0, 9, 0) fl_X8_9 dX8_tellLand_9 hv0 ⟨rfl, rfl⟩ rfl rfl ?_
  refine j_iconst C (2 : Int32) (by decide) dX8_tellLand_12 ?_
  refine j_aload_n C 1 dX8_tellLand_13 rfl rfl ?_
  refine j_getS C (6, a1, 1, 0) fl_X8_106 dX8_tellLand_14 hv1 ⟨rfl, rfl⟩ rfl rfl ?_
  refine j_iload_n C 2 dX8_tellLand_17 rfl rfl ?_
  obtain ⟨g2, h⟩ := grd_x h
  refine j_ialdK C 5 (a2.toNatClampNeg) dX8_tellLand_18 (V_f 0 hv1 (by decide)) rfl g2 rfl ?_
  refine j_i2l C dX8_tellLand_19 ?_
  obtain ⟨D3, eD3, h⟩ := bnd_x h
  refine j_lastK C 12 2 dX8_tellLand_20 (V_f 8 hv0 (by decide)) rfl (by decide) (by decide) ?_
  refine j_rep eD3 ?_
  refine j_aload_n C 0 dX8_tellLand_21 rfl rfl ?_
  refine j_getS C (8, i0, 9, 0) fl_X8_9 dX8_tellLand_22 hv0 ⟨rfl, rfl⟩ rfl rfl ?_
  refine j_iconst C (3 : Int32) (by decide) dX8_tellLand_25 ?_
  refine j_aload_n C 1 dX8_tellLand_26 rfl rfl ?_
  refine j_getS C (6, a1, 2, 0) fl_X8_92 dX8_tellLand_27 hv1 ⟨rfl, rfl⟩ rfl rfl ?_
  refine j_iload_n C 2 dX8_tellLand_30 rfl rfl ?_
  refine j_ialdK C 5 (a2.toNatClampNeg) dX8_tellLand_31 (V_f 1 hv1 (by decide)) rfl g2 rfl ?_
  refine j_i2l C dX8_tellLand_32 ?_
  obtain ⟨D4, eD4, h⟩ := bnd_x h
  refine j_lastK C 12 3 dX8_tellLand_33 (V_f 8 hv0 (by decide)) rfl (by decide) (by decide) ?_
  refine j_rep eD4 ?_
  refine j_aload_n C 0 dX8_tellLand_34 rfl rfl ?_
  refine j_getS C (8, i0, 9, 0) fl_X8_9 dX8_tellLand_35 hv0 ⟨rfl, rfl⟩ rfl rfl ?_
  refine j_iconst C (4 : Int32) (by decide) dX8_tellLand_38 ?_
  refine j_aload_n C 1 dX8_tellLand_39 rfl rfl ?_
  refine j_getS C (6, a1, 3, 0) fl_X8_43 dX8_tellLand_40 hv1 ⟨rfl, rfl⟩ rfl rfl ?_
  refine j_iload_n C 2 dX8_tellLand_43 rfl rfl ?_
  refine j_ialdK C 5 (a2.toNatClampNeg) dX8_tellLand_44 (V_f 2 hv1 (by decide)) rfl g2 rfl ?_
  refine j_i2l C dX8_tellLand_45 ?_
  obtain ⟨D5, eD5, h⟩ := bnd_x h
  refine j_lastK C 12 4 dX8_tellLand_46 (V_f 8 hv0 (by decide)) rfl (by decide) (by decide) ?_
  refine j_rep eD5 ?_
  refine j_aload_n C 0 dX8_tellLand_47 rfl rfl ?_
  refine j_getS C (8, i0, 9, 0) fl_X8_9 dX8_tellLand_48 hv0 ⟨rfl, rfl⟩ rfl rfl ?_
  refine j_iconst C (5 : Int32) (by decide) dX8_tellLand_51 ?_
  refine j_aload_n C 1 dX8_tellLand_52 rfl rfl ?_
  refine j_getS C (6, a1, 4, 0) fl_X8_132 dX8_tellLand_53 hv1 ⟨rfl, rfl⟩ rfl rfl ?_
  refine j_iload_n C 2 dX8_tellLand_56 rfl rfl ?_
  refine j_ialdK C 5 (a2.toNatClampNeg) dX8_tellLand_57 (V_f 3 hv1 (by decide)) rfl g2 rfl ?_
  refine j_i2l C dX8_tellLand_58 ?_
  obtain ⟨D6, eD6, h⟩ := bnd_x h
  refine j_lastK C 12 5 dX8_tellLand_59 (V_f 8 hv0 (by decide)) rfl (by decide) (by decide) ?_
  refine j_rep eD6 ?_
  refine j_aload_n C 0 dX8_tellLand_60 rfl rfl ?_
  refine j_getS C (8, i0, 9, 0) fl_X8_9 dX8_tellLand_61 hv0 ⟨rfl, rfl⟩ rfl rfl ?_
  refine j_bipush C (9 : Int32) (by decide) dX8_tellLand_64 ?_
  refine j_aload_n C 1 dX8_tellLand_66 rfl rfl ?_
  refine j_getI C fl_X8_109 dX8_tellLand_67 hv1 ⟨rfl, rfl⟩ rfl ?_
  refine j_i2l C dX8_tellLand_70 ?_
  obtain ⟨D7, eD7, h⟩ := bnd_x h
  refine j_lastK C 12 9 dX8_tellLand_71 (V_f 8 hv0 (by decide)) rfl (by decide) (by decide) ?_
  refine j_rep eD7 ?_
  refine j_aload_n C 0 dX8_tellLand_72 rfl rfl ?_
  refine j_getS C (8, i0, 9, 0) fl_X8_9 dX8_tellLand_73 hv0 ⟨rfl, rfl⟩ rfl rfl ?_
  refine j_bipush C (10 : Int32) (by decide) dX8_tellLand_76 ?_
  refine j_aload_n C 0 dX8_tellLand_78 rfl rfl ?_
  refine j_getD C 5 fl_X8_15 dX8_tellLand_79 hv0 ⟨rfl, rfl⟩ rfl rfl ?_
  refine j_ifnnO C 89 dX8_tellLand_82 (by decide) (fun c8 => ?_) (fun c8 => ?_)
  · have h := ite_f c8 h
    refine j_aload_n C 0 dX8_tellLand_89 rfl rfl ?_
    refine j_getD C 5 fl_X8_15 dX8_tellLand_90 hv0 ⟨rfl, rfl⟩ rfl rfl ?_
    refine j_iload_n C 2 dX8_tellLand_93 rfl rfl ?_
    refine j_aload_n C 1 dX8_tellLand_94 rfl rfl ?_
    refine j_getI C fl_X8_68 dX8_tellLand_95 hv1 ⟨rfl, rfl⟩ rfl ?_
    obtain ⟨n9, en9, h⟩ := obd_x h
    obtain ⟨g10, h⟩ := grd_x h
    obtain ⟨r12, D13, h11, h⟩ := cbd_x h
    refine j_st (st' := [.int (D7.1 (6, a1, 0, 0) 6), .int a2, .ref (ad G (5, n9, 0, 0)), .int (10 : Int32), .ref (ad G (8, i0, 9, 0))]) (by rw [en9]; rfl) ?_
    refine j_callV C [.int a2, .int (D7.1 (6, a1, 0, 0) 6)] [.int (10 : Int32), .ref (ad G (8, i0, 9, 0))] cl_X8_135 (M_X5_soonOf (lv := lv - 1) hG (by omega) h11) (by omega) dX8_tellLand_98 g10 ⟨rfl, rfl⟩ rfl rfl (Nat.le_of_ble_eq_true rfl) ?_
    refine j_st (st' := [.int r12, .int (10 : Int32), .ref (ad G (8, i0, 9, 0))]) rfl ?_
    refine j_i2l C dX8_tellLand_101 ?_
    refine j_sub [0, 1] [(0, .ref (ad G (8, i0, 0, 0))), (1, .ref (ad G (6, a1, 0, 0)))] rfl ?_
    refine T_X8_tellLand_b102 hG hlv hv0 hv1 C  (10 : Int32) r12.toInt64 D13 h
  · have h := ite_t c8 h
    refine j_lconst C (0 : Int64) (by decide) dX8_tellLand_85 ?_
    refine j_goto C 102 dX8_tellLand_86 (by decide) ?_
    refine j_sub [0, 1] [(0, .ref (ad G (8, i0, 0, 0))), (1, .ref (ad G (6, a1, 0, 0)))] rfl ?_
    refine T_X8_tellLand_b102 hG hlv hv0 hv1 C  (10 : Int32) (0 : Int64) D7 h
def F_X8_tellOther (i0 : Nat) (a1 : Nat) (a2 : Int32) (D : Dt) : Option Dt := (grd (V (8, i0, 0, 0) = true) (grd (V (6, a1, 0, 0) = true) (bnd (setL D (8, i0, 9, 0) 1 a2.toInt64) (fun D1 => (grd (inB a2 5 = true) (bnd (setL D1 (8, i0, 9, 0) 6 ((D1.1 (6, a1, 1, 0) (a2.toNatClampNeg)).toInt64)) (fun D3 => (bnd (setL D3 (8, i0, 9, 0) 7 ((D3.1 (6, a1, 2, 0) (a2.toNatClampNeg)).toInt64)) (fun D4 => (bnd (setL D4 (8, i0, 9, 0) 8 ((D4.1 (6, a1, 3, 0) (a2.toNatClampNeg)).toInt64)) (fun D5 => (some D5))))))))))))
set_option maxRecDepth 100000 in
set_option maxHeartbeats 4000000 in
theorem M_X8_tellOther {l : Launch} {G : Gt} {A : Nat → Prop} {lv : Nat} {i0 : Nat} {a1 : Nat} {a2 : Int32} {D : Dt} {D' : Dt} (hG : Gok G A) (hlv : 1 ≤ lv)  (h : F_X8_tellOther i0 a1 a2 D = some D') : MD l G A lv yX8_tellOther cX8_tellOther 3 none [.ref (ad G (8, i0, 0, 0)), .ref (ad G (6, a1, 0, 0)), .int a2] D none D' := by
  unfold F_X8_tellOther at h
  obtain ⟨hv0, h⟩ := grd_x h
  obtain ⟨hv1, h⟩ := grd_x h
  refine md_start RX8 hG (by decide +kernel) rfl (Nat.le_of_ble_eq_true rfl) (L := [(0, .ref (ad G (8, i0, 0, 0))), (1, .ref (ad G (6, a1, 0, 0))), (2, .int a2)]) rfl (fun X C => ?_)
  refine j_aload_n C 0 dX8_tellOther_0 rfl rfl ?_
  refine j_getS C (8, i0, 9, 0) fl_X8_9 dX8_tellOther_1 hv0 ⟨rfl, rfl⟩ rfl rfl ?_
  refine j_iconst C (1 : Int32) (by decide) dX8_tellOther_4 ?_
  refine j_iload_n C 2 dX8_tellOther_5 rfl rfl ?_
  refine j_i2l C dX8_tellOther_6 ?_
  obtain ⟨D1, eD1, h⟩ := bnd_x h
  refine j_lastK C 12 1 dX8_tellOther_7 (V_f 8 hv0 (by decide)) rfl (by decide) (by decide) ?_
  refine j_rep eD1 ?_
  refine j_aload_n C 0 dX8_tellOther_8 rfl rfl ?_
  refine j_getS C (8, i0, 9, 0) fl_X8_9 dX8_tellOther_9 hv0 ⟨rfl, rfl⟩ rfl rfl ?_
  refine j_bipush C (6 : Int32) (by decide) dX8_tellOther_12 ?_
  refine j_aload_n C 1 dX8_tellOther_14 rfl rfl ?_
  refine j_getS C (6, a1, 1, 0) fl_X8_106 dX8_tellOther_15 hv1 ⟨rfl, rfl⟩ rfl rfl ?_
  refine j_iload_n C 2 dX8_tellOther_18 rfl rfl ?_
  obtain ⟨g2, h⟩ := grd_x h
  refine j_ialdK C 5 (a2.toNatClampNeg) dX8_tellOther_19 (V_f 0 hv1 (by decide)) rfl g2 rfl ?_
  refine j_i2l C dX8_tellOther_20 ?_
  obtain ⟨D3, eD3, h⟩ := bnd_x h
  refine j_lastK C 12 6 dX8_tellOther_21 (V_f 8 hv0 (by decide)) rfl (by decide) (by decide) ?_
  refine j_rep eD3 ?_
  refine j_aload_n C 0 dX8_tellOther_22 rfl rfl ?_
  refine j_getS C (8, i0, 9, 0) fl_X8_9 dX8_tellOther_23 hv0 ⟨rfl, rfl⟩ rfl rfl ?_
  refine j_bipush C (7 : Int32) (by decide) dX8_tellOther_26 ?_
  refine j_aload_n C 1 dX8_tellOther_28 rfl rfl ?_
  refine j_getS C (6, a1, 2, 0) fl_X8_92 dX8_tellOther_29 hv1 ⟨rfl, rfl⟩ rfl rfl ?_
  refine j_iload_n C 2 dX8_tellOther_32 rfl rfl ?_
  refine j_ialdK C 5 (a2.toNatClampNeg) dX8_tellOther_33 (V_f 1 hv1 (by decide)) rfl g2 rfl ?_
  refine j_i2l C dX8_tellOther_34 ?_
  obtain ⟨D4, eD4, h⟩ := bnd_x h
  refine j_lastK C 12 7 dX8_tellOther_35 (V_f 8 hv0 (by decide)) rfl (by decide) (by decide) ?_
  refine j_rep eD4 ?_
  refine j_aload_n C 0 dX8_tellOther_36 rfl rfl ?_
  refine j_getS C (8, i0, 9, 0) fl_X8_9 dX8_tellOther_37 hv0 ⟨rfl, rfl⟩ rfl rfl ?_
  refine j_bipush C (8 : Int32) (by decide) dX8_tellOther_40 ?_
  refine j_aload_n C 1 dX8_tellOther_42 rfl rfl ?_
  refine j_getS C (6, a1, 3, 0) fl_X8_43 dX8_tellOther_43 hv1 ⟨rfl, rfl⟩ rfl rfl ?_
  refine j_iload_n C 2 dX8_tellOther_46 rfl rfl ?_
  refine j_ialdK C 5 (a2.toNatClampNeg) dX8_tellOther_47 (V_f 2 hv1 (by decide)) rfl g2 rfl ?_
  refine j_i2l C dX8_tellOther_48 ?_
  obtain ⟨D5, eD5, h⟩ := bnd_x h
  refine j_lastK C 12 8 dX8_tellOther_49 (V_f 8 hv0 (by decide)) rfl (by decide) (by decide) ?_
  refine j_rep eD5 ?_
  obtain rfl := Option.some.inj h
  exact j_vret C dX8_tellOther_50
def F_X8_pick_b179 (i0 : Nat) (a1 : Nat) (a2 : Int32) (a3 : Int32) (k94 : Int32 → Int32 → Int64 → Int32 → Int32 → Dt → Option (Int32 × Dt)) (l2 : Int32) (l3 : Int32) (l5 : Int64) (l7 : Int32) (l8 : Int32) (D : Dt) : Option (Int32 × Dt) := (bnd (l8 + (1 : Int32)) (fun v17 => (k94 l2 l3 l5 l7 v17 D)))
set_option maxRecDepth 100000 in
set_option maxHeartbeats 4000000 in
theorem T_X8_pick_b179 {r : Int32} {D' : Dt} {X : Ctx} {l : Launch} {G : Gt} {A : Nat → Prop} {lv : Nat} {i0 : Nat} {a1 : Nat} {a2 : Int32} {a3 : Int32}  {k94 : Int32 → Int32 → Int64 → Int32 → Int32 → Dt → Option (Int32 × Dt)} (hG : Gok G A) (hlv : 4 ≤ lv) (hv0 : V (8, i0, 0, 0) = true) (hv1 : V (6, a1, 0, 0) = true)  (C : Cx X cX8_pick RX8 G l A lv 11 (some .int) (some (.int r)) D') (hk94 : ∀ (l2 : Int32) (l3 : Int32) (l5 : Int64) (l7 : Int32) (l8 : Int32) (D : Dt), k94 l2 l3 l5 l7 l8 D = some (r, D') → J X (Rep G D) 94 [(0, .ref (ad G (8, i0, 0, 0))), (1, .ref (ad G (6, a1, 0, 0))), (2, .int l2), (3, .int l3), (5, .long l5), (7, .int l7), (8, .int l8)] []) : ∀ (l2 : Int32) (l3 : Int32) (l5 : Int64) (l7 : Int32) (l8 : Int32) (D : Dt), F_X8_pick_b179 i0 a1 a2 a3 k94 l2 l3 l5 l7 l8 D = some (r, D') → J X (Rep G D) 179 [(0, .ref (ad G (8, i0, 0, 0))), (1, .ref (ad G (6, a1, 0, 0))), (2, .int l2), (3, .int l3), (5, .long l5), (7, .int l7), (8, .int l8)] [] := by
  intro l2 l3 l5 l7 l8 D h
  unfold F_X8_pick_b179 at h
  obtain ⟨v17, ev17, h⟩ := bnd_x h
  refine j_iinc C 6 [(8, .int v17), (0, .ref (ad G (8, i0, 0, 0))), (1, .ref (ad G (6, a1, 0, 0))), (2, .int l2), (3, .int l3), (5, .long l5), (7, .int l7)] dX8_pick_179 rfl (Nat.le_of_ble_eq_true rfl) (ev17.trans (congrArg (l8 + ·) (by decide))) rfl ?_
  refine j_goto C 94 dX8_pick_182 (by decide) ?_
  refine j_sub [1, 2, 3, 4, 5, 6, 0] [(0, .ref (ad G (8, i0, 0, 0))), (1, .ref (ad G (6, a1, 0, 0))), (2, .int l2), (3, .int l3), (5, .long l5), (7, .int l7), (8, .int v17)] rfl ?_
  exact hk94 l2 l3 l5 l7 v17 D h
def F_X8_pick_b161 (i0 : Nat) (a1 : Nat) (a2 : Int32) (a3 : Int32) (k94 : Int32 → Int32 → Int64 → Int32 → Int32 → Dt → Option (Int32 × Dt)) (l2 : Int32) (l3 : Int32) (l5 : Int64) (l7 : Int32) (l8 : Int32) (s0 : Int64) (D : Dt) : Option (Int32 × Dt) := (if (lg_cmp s0 l5) ≤ 0 then (F_X8_pick_b179 i0 a1 a2 a3 (fun l2_37 l3_38 l5_39 l7_40 l8_41 D42 => (k94 l2_37 l3_38 l5_39 l7_40 l8_41 D42)) l2 l3 l5 l7 l8 D) else (F_X8_pick_b179 i0 a1 a2 a3 (fun l2_43 l3_44 l5_45 l7_46 l8_47 D48 => (k94 l2_43 l3_44 l5_45 l7_46 l8_47 D48)) l2 l3 s0 l8 l8 D))
set_option maxRecDepth 100000 in
set_option maxHeartbeats 4000000 in
theorem T_X8_pick_b161 {r : Int32} {D' : Dt} {X : Ctx} {l : Launch} {G : Gt} {A : Nat → Prop} {lv : Nat} {i0 : Nat} {a1 : Nat} {a2 : Int32} {a3 : Int32}  {k94 : Int32 → Int32 → Int64 → Int32 → Int32 → Dt → Option (Int32 × Dt)} (hG : Gok G A) (hlv : 4 ≤ lv) (hv0 : V (8, i0, 0, 0) = true) (hv1 : V (6, a1, 0, 0) = true)  (C : Cx X cX8_pick RX8 G l A lv 11 (some .int) (some (.int r)) D') (hk94 : ∀ (l2 : Int32) (l3 : Int32) (l5 : Int64) (l7 : Int32) (l8 : Int32) (D : Dt), k94 l2 l3 l5 l7 l8 D = some (r, D') → J X (Rep G D) 94 [(0, .ref (ad G (8, i0, 0, 0))), (1, .ref (ad G (6, a1, 0, 0))), (2, .int l2), (3, .int l3), (5, .long l5), (7, .int l7), (8, .int l8)] []) : ∀ (l2 : Int32) (l3 : Int32) (l5 : Int64) (l7 : Int32) (l8 : Int32) (s0 : Int64) (D : Dt), F_X8_pick_b161 i0 a1 a2 a3 k94 l2 l3 l5 l7 l8 s0 D = some (r, D') → J X (Rep G D) 161 [(0, .ref (ad G (8, i0, 0, 0))), (1, .ref (ad G (6, a1, 0, 0))), (2, .int l2), (3, .int l3), (5, .long l5), (7, .int l7), (8, .int l8)] [.long s0] := by
  intro l2 l3 l5 l7 l8 s0 D h
  unfold F_X8_pick_b161 at h
  refine j_lstore C [(9, .long s0), (0, .ref (ad G (8, i0, 0, 0))), (1, .ref (ad G (6, a1, 0, 0))), (2, .int l2), (3, .int l3), (5, .long l5), (7, .int l7), (8, .int l8)] dX8_pick_161 (Nat.le_of_ble_eq_true rfl) rfl rfl ?_
  refine j_lload C 0 dX8_pick_163 rfl ?_
  refine j_lload C 5 dX8_pick_165 rfl ?_
  refine j_lcmp C dX8_pick_167 ?_
  refine j_if_le C 179 dX8_pick_168 (by decide) (fun c36 => ?_) (fun c36 => ?_)
  · have h := ite_t c36 h
    refine j_sub [1, 2, 3, 4, 5, 6, 7] [(0, .ref (ad G (8, i0, 0, 0))), (1, .ref (ad G (6, a1, 0, 0))), (2, .int l2), (3, .int l3), (5, .long l5), (7, .int l7), (8, .int l8)] rfl ?_
    refine T_X8_pick_b179 hG hlv hv0 hv1 C (fun l2_37 l3_38 l5_39 l7_40 l8_41 D42 h => ?_) l2 l3 l5 l7 l8 D h
    · exact hk94 l2_37 l3_38 l5_39 l7_40 l8_41 D42 h
  · have h := ite_f c36 h
    refine j_lload C 0 dX8_pick_171 rfl ?_
    refine j_lstore C [(5, .long s0), (9, .long s0), (0, .ref (ad G (8, i0, 0, 0))), (1, .ref (ad G (6, a1, 0, 0))), (2, .int l2), (3, .int l3), (7, .int l7), (8, .int l8)] dX8_pick_173 (Nat.le_of_ble_eq_true rfl) rfl rfl ?_
    refine j_iload C 7 dX8_pick_175 rfl ?_
    refine j_istore C [(7, .int l8), (5, .long s0), (9, .long s0), (0, .ref (ad G (8, i0, 0, 0))), (1, .ref (ad G (6, a1, 0, 0))), (2, .int l2), (3, .int l3), (8, .int l8)] dX8_pick_177 (Nat.le_of_ble_eq_true rfl) rfl rfl ?_
    refine j_sub [3, 4, 5, 6, 1, 0, 7] [(0, .ref (ad G (8, i0, 0, 0))), (1, .ref (ad G (6, a1, 0, 0))), (2, .int l2), (3, .int l3), (5, .long s0), (7, .int l8), (8, .int l8)] rfl ?_
    refine T_X8_pick_b179 hG hlv hv0 hv1 C (fun l2_43 l3_44 l5_45 l7_46 l8_47 D48 h => ?_) l2 l3 s0 l8 l8 D h
    · exact hk94 l2_43 l3_44 l5_45 l7_46 l8_47 D48 h
def F_X8_pick_b94 (i0 : Nat) (a1 : Nat) (a2 : Int32) (a3 : Int32)  : Nat → Int32 → Int32 → Int64 → Int32 → Int32 → Dt → Option (Int32 × Dt)
  | 0, _, _, _, _, _, _ => none
  | f + 1, l2, l3, l5, l7, l8, D => (if l3 ≤ l8 then (some (l7, D)) else (cbd (F_X8_has (D.1 (8, i0, 0, 0) 2) l8 D) (fun r14 D15 => (if r14 = 0 then (cbd (F_X6_mayBuy a1 l2 l8 D15) (fun r25 D26 => (if r25 = 0 then (F_X8_pick_b179 i0 a1 a2 a3 (fun l2_62 l3_63 l5_64 l7_65 l8_66 D67 => (F_X8_pick_b94 i0 a1 a2 a3 f l2_62 l3_63 l5_64 l7_65 l8_66 D67)) l2 l3 l5 l7 l8 D26) else (vbd (F_X8_tellOther i0 a1 l8 D26) (fun D29 => (if (D29.2.2 (8, i0, 0, 0) 1) = none then (grd (inB l8 5 = true) (F_X8_pick_b161 i0 a1 a2 a3 (fun l2_56 l3_57 l5_58 l7_59 l8_60 D61 => (F_X8_pick_b94 i0 a1 a2 a3 f l2_56 l3_57 l5_58 l7_59 l8_60 D61)) l2 l3 l5 l7 l8 ((D29.1 (6, a1, 2, 0) (l8.toNatClampNeg)).toInt64) D29)) else (obd (D29.2.2 (8, i0, 0, 0) 1) (fun n31 => (grd (V (3, n31, 0, 0) = true) (cbd (F_X3_sumFor n31 (8, i0, 9, 0) D29) (fun r34 D35 => (F_X8_pick_b161 i0 a1 a2 a3 (fun l2_49 l3_50 l5_51 l7_52 l8_53 D54 => (F_X8_pick_b94 i0 a1 a2 a3 f l2_49 l3_50 l5_51 l7_52 l8_53 D54)) l2 l3 l5 l7 l8 r34 D35)))))))))))) else (F_X8_pick_b179 i0 a1 a2 a3 (fun l2_18 l3_19 l5_20 l7_21 l8_22 D23 => (F_X8_pick_b94 i0 a1 a2 a3 f l2_18 l3_19 l5_20 l7_21 l8_22 D23)) l2 l3 l5 l7 l8 D15)))))
set_option maxRecDepth 100000 in
set_option maxHeartbeats 4000000 in
theorem T_X8_pick_b94 {r : Int32} {D' : Dt} {X : Ctx} {l : Launch} {G : Gt} {A : Nat → Prop} {lv : Nat} {i0 : Nat} {a1 : Nat} {a2 : Int32} {a3 : Int32}   (hG : Gok G A) (hlv : 4 ≤ lv) (hv0 : V (8, i0, 0, 0) = true) (hv1 : V (6, a1, 0, 0) = true)  (C : Cx X cX8_pick RX8 G l A lv 11 (some .int) (some (.int r)) D')  : ∀ (f : Nat) (l2 : Int32) (l3 : Int32) (l5 : Int64) (l7 : Int32) (l8 : Int32) (D : Dt), F_X8_pick_b94 i0 a1 a2 a3 f l2 l3 l5 l7 l8 D = some (r, D') → J X (Rep G D) 94 [(0, .ref (ad G (8, i0, 0, 0))), (1, .ref (ad G (6, a1, 0, 0))), (2, .int l2), (3, .int l3), (5, .long l5), (7, .int l7), (8, .int l8)] [] := by
  intro f
  induction f with
  | zero =>
    intro l2 l3 l5 l7 l8 D h
    exact nomatch h
  | succ f ih =>
    intro l2 l3 l5 l7 l8 D h
    rw [F_X8_pick_b94] at h
    refine j_iload C 6 dX8_pick_94 rfl ?_
    refine j_iload_n C 3 dX8_pick_96 rfl rfl ?_
    refine j_icmp_ge C 185 dX8_pick_97 (by decide) (fun c12 => ?_) (fun c12 => ?_)
    · have h := ite_t c12 h
      refine j_iload C 5 dX8_pick_185 rfl ?_
      obtain ⟨rfl, rfl⟩ := pr_x h
      exact j_iret C dX8_pick_187
    · have h := ite_f c12 h
      refine j_aload_n C 0 dX8_pick_100 rfl rfl ?_
      refine j_getI C fl_X8_23 dX8_pick_101 hv0 ⟨rfl, rfl⟩ rfl ?_
      refine j_iload C 6 dX8_pick_104 rfl ?_
      obtain ⟨r14, D15, h13, h⟩ := cbd_x h
      refine j_callS C [.int (D.1 (8, i0, 0, 0) 2), .int l8] [] cl_X8_102 (M_X8_has (lv := lv - 1) hG (by omega) h13) (by omega) dX8_pick_106 rfl rfl (Nat.le_of_ble_eq_true rfl) ?_
      refine j_st (st' := [.int r14]) rfl ?_
      refine j_if_ne C 179 dX8_pick_109 (by decide) (fun c16 => ?_) (fun c16 => ?_)
      · have h := ite_f c16 h
        refine T_X8_pick_b179 hG hlv hv0 hv1 C (fun l2_18 l3_19 l5_20 l7_21 l8_22 D23 h => ?_) l2 l3 l5 l7 l8 D15 h
        · exact ih l2_18 l3_19 l5_20 l7_21 l8_22 D23 h
      · have h := ite_t c16 h
        refine j_aload_n C 1 dX8_pick_112 rfl rfl ?_
        refine j_iload_n C 2 dX8_pick_113 rfl rfl ?_
        refine j_iload C 6 dX8_pick_114 rfl ?_
        obtain ⟨r25, D26, h24, h⟩ := cbd_x h
        refine j_callV C [.int l2, .int l8] [] cl_X8_116 (M_X6_mayBuy (lv := lv - 1) hG (by omega) h24) (by omega) dX8_pick_116 hv1 ⟨rfl, rfl⟩ rfl rfl (Nat.le_of_ble_eq_true rfl) ?_
        refine j_st (st' := [.int r25]) rfl ?_
        refine j_if_ne C 125 dX8_pick_119 (by decide) (fun c27 => ?_) (fun c27 => ?_)
        · have h := ite_f c27 h
          refine j_aload_n C 0 dX8_pick_125 rfl rfl ?_
          refine j_aload_n C 1 dX8_pick_126 rfl rfl ?_
          refine j_iload C 6 dX8_pick_127 rfl ?_
          obtain ⟨D29, h28, h⟩ := vbd_x h
          refine j_callV C [.ref (ad G (6, a1, 0, 0)), .int l8] [] cl_X8_119 (M_X8_tellOther (lv := lv - 1) hG (by omega) h28) (by omega) dX8_pick_129 hv0 ⟨rfl, rfl⟩ rfl rfl (Nat.le_of_ble_eq_true rfl) ?_
          refine j_st (st' := []) rfl ?_
          refine j_aload_n C 0 dX8_pick_132 rfl rfl ?_
          refine j_getD C 3 fl_X8_19 dX8_pick_133 hv0 ⟨rfl, rfl⟩ rfl rfl ?_
          refine j_ifnnO C 150 dX8_pick_136 (by decide) (fun c30 => ?_) (fun c30 => ?_)
          · have h := ite_f c30 h
            refine j_aload_n C 0 dX8_pick_150 rfl rfl ?_
            refine j_getD C 3 fl_X8_19 dX8_pick_151 hv0 ⟨rfl, rfl⟩ rfl rfl ?_
            refine j_aload_n C 0 dX8_pick_154 rfl rfl ?_
            refine j_getS C (8, i0, 9, 0) fl_X8_9 dX8_pick_155 hv0 ⟨rfl, rfl⟩ rfl rfl ?_
            obtain ⟨n31, en31, h⟩ := obd_x h
            obtain ⟨g32, h⟩ := grd_x h
            obtain ⟨r34, D35, h33, h⟩ := cbd_x h
            refine j_st (st' := [.ref (ad G (8, i0, 9, 0)), .ref (ad G (3, n31, 0, 0))]) (by rw [en31]; rfl) ?_
            refine j_callV C [.ref (ad G (8, i0, 9, 0))] [] cl_X8_122 (M_X3_sumFor (lv := lv - 1) hG (by omega) h33) (by omega) dX8_pick_158 g32 ⟨rfl, rfl⟩ rfl rfl (Nat.le_of_ble_eq_true rfl) ?_
            refine j_st (st' := [.long r34]) rfl ?_
            refine T_X8_pick_b161 hG hlv hv0 hv1 C (fun l2_49 l3_50 l5_51 l7_52 l8_53 D54 h => ?_) l2 l3 l5 l7 l8 r34 D35 h
            · exact ih l2_49 l3_50 l5_51 l7_52 l8_53 D54 h
          · have h := ite_t c30 h
            refine j_aload_n C 1 dX8_pick_139 rfl rfl ?_
            refine j_getS C (6, a1, 2, 0) fl_X8_92 dX8_pick_140 hv1 ⟨rfl, rfl⟩ rfl rfl ?_
            refine j_iload C 6 dX8_pick_143 rfl ?_
            obtain ⟨g55, h⟩ := grd_x h
            refine j_ialdK C 5 (l8.toNatClampNeg) dX8_pick_145 (V_f 1 hv1 (by decide)) rfl g55 rfl ?_
            refine j_i2l C dX8_pick_146 ?_
            refine j_goto C 161 dX8_pick_147 (by decide) ?_
            refine T_X8_pick_b161 hG hlv hv0 hv1 C (fun l2_56 l3_57 l5_58 l7_59 l8_60 D61 h => ?_) l2 l3 l5 l7 l8 ((D29.1 (6, a1, 2, 0) (l8.toNatClampNeg)).toInt64) D29 h
            · exact ih l2_56 l3_57 l5_58 l7_59 l8_60 D61 h
        · have h := ite_t c27 h
          refine j_goto C 179 dX8_pick_122 (by decide) ?_
          refine T_X8_pick_b179 hG hlv hv0 hv1 C (fun l2_62 l3_63 l5_64 l7_65 l8_66 D67 h => ?_) l2 l3 l5 l7 l8 D26 h
          · exact ih l2_62 l3_63 l5_64 l7_65 l8_66 D67 h
def F_X8_pick_b46 (i0 : Nat) (a1 : Nat) (a2 : Int32) (a3 : Int32)  (l2 : Int32) (l3 : Int32) (s0 : Int32) (D : Dt) : Option (Int32 × Dt) := (cbd (F_X8_has (D.1 (8, i0, 0, 0) 3) l2 D) (fun r4 D5 => (if r4 = 0 then (if s0 = 0 then (grd (inB l2 5 = true) (if (D5.1 (6, a1, 0, 0) 5) ≤ (D5.1 (6, a1, 1, 0) (l2.toNatClampNeg)) then (vbd (F_X8_tellLand i0 a1 l2 D5) (fun D11 => (F_X8_pick_b94 i0 a1 a2 a3 2000 l2 l3 (0 : Int64) (-1 : Int32) (0 : Int32) D11))) else (some ((-1 : Int32), D5)))) else (some ((-1 : Int32), D5))) else (some ((-1 : Int32), D5)))))
set_option maxRecDepth 100000 in
set_option maxHeartbeats 4000000 in
theorem T_X8_pick_b46 {r : Int32} {D' : Dt} {X : Ctx} {l : Launch} {G : Gt} {A : Nat → Prop} {lv : Nat} {i0 : Nat} {a1 : Nat} {a2 : Int32} {a3 : Int32}   (hG : Gok G A) (hlv : 4 ≤ lv) (hv0 : V (8, i0, 0, 0) = true) (hv1 : V (6, a1, 0, 0) = true)  (C : Cx X cX8_pick RX8 G l A lv 11 (some .int) (some (.int r)) D')  : ∀ (l2 : Int32) (l3 : Int32) (s0 : Int32) (D : Dt), F_X8_pick_b46 i0 a1 a2 a3 l2 l3 s0 D = some (r, D') → J X (Rep G D) 46 [(0, .ref (ad G (8, i0, 0, 0))), (1, .ref (ad G (6, a1, 0, 0))), (2, .int l2), (3, .int l3)] [.int s0] := by
  intro l2 l3 s0 D h
  unfold F_X8_pick_b46 at h
  refine j_istore C [(4, .int s0), (0, .ref (ad G (8, i0, 0, 0))), (1, .ref (ad G (6, a1, 0, 0))), (2, .int l2), (3, .int l3)] dX8_pick_46 (Nat.le_of_ble_eq_true rfl) rfl rfl ?_
  refine j_aload_n C 1 dX8_pick_48 rfl rfl ?_
  refine j_getI C fl_X8_27 dX8_pick_49 hv0 ⟨rfl, rfl⟩ rfl ?_
  refine j_iload_n C 3 dX8_pick_52 rfl rfl ?_
  obtain ⟨r4, D5, h3, h⟩ := cbd_x h
  refine j_callS C [.int (D.1 (8, i0, 0, 0) 3), .int l2] [] cl_X8_102 (M_X8_has (lv := lv - 1) hG (by omega) h3) (by omega) dX8_pick_53 rfl rfl (Nat.le_of_ble_eq_true rfl) ?_
  refine j_st (st' := [.int r4]) rfl ?_
  refine j_if_ne C 77 dX8_pick_56 (by decide) (fun c6 => ?_) (fun c6 => ?_)
  · have h := ite_f c6 h
    refine j_iconst C (-1 : Int32) (by decide) dX8_pick_77 ?_
    obtain ⟨rfl, rfl⟩ := pr_x h
    exact j_iret C dX8_pick_78
  · have h := ite_t c6 h
    refine j_iload C 0 dX8_pick_59 rfl ?_
    refine j_if_ne C 77 dX8_pick_61 (by decide) (fun c7 => ?_) (fun c7 => ?_)
    · have h := ite_f c7 h
      refine j_iconst C (-1 : Int32) (by decide) dX8_pick_77 ?_
      obtain ⟨rfl, rfl⟩ := pr_x h
      exact j_iret C dX8_pick_78
    · have h := ite_t c7 h
      refine j_aload_n C 2 dX8_pick_64 rfl rfl ?_
      refine j_getS C (6, a1, 1, 0) fl_X8_106 dX8_pick_65 hv1 ⟨rfl, rfl⟩ rfl rfl ?_
      refine j_iload_n C 3 dX8_pick_68 rfl rfl ?_
      obtain ⟨g8, h⟩ := grd_x h
      refine j_ialdK C 5 (l2.toNatClampNeg) dX8_pick_69 (V_f 0 hv1 (by decide)) rfl g8 rfl ?_
      refine j_aload_n C 2 dX8_pick_70 rfl rfl ?_
      refine j_getI C fl_X8_109 dX8_pick_71 hv1 ⟨rfl, rfl⟩ rfl ?_
      refine j_icmp_ge C 79 dX8_pick_74 (by decide) (fun c9 => ?_) (fun c9 => ?_)
      · have h := ite_t c9 h
        refine j_aload_n C 1 dX8_pick_79 rfl rfl ?_
        refine j_aload_n C 2 dX8_pick_80 rfl rfl ?_
        refine j_iload_n C 3 dX8_pick_81 rfl rfl ?_
        obtain ⟨D11, h10, h⟩ := vbd_x h
        refine j_callV C [.ref (ad G (6, a1, 0, 0)), .int l2] [] cl_X8_112 (M_X8_tellLand (lv := lv - 1) hG (by omega) h10) (by omega) dX8_pick_82 hv0 ⟨rfl, rfl⟩ rfl rfl (Nat.le_of_ble_eq_true rfl) ?_
        refine j_st (st' := []) rfl ?_
        refine j_lconst C (0 : Int64) (by decide) dX8_pick_85 ?_
        refine j_lstore C [(5, .long (0 : Int64)), (4, .int s0), (0, .ref (ad G (8, i0, 0, 0))), (1, .ref (ad G (6, a1, 0, 0))), (2, .int l2), (3, .int l3)] dX8_pick_86 (Nat.le_of_ble_eq_true rfl) rfl rfl ?_
        refine j_iconst C (-1 : Int32) (by decide) dX8_pick_88 ?_
        refine j_istore C [(7, .int (-1 : Int32)), (5, .long (0 : Int64)), (4, .int s0), (0, .ref (ad G (8, i0, 0, 0))), (1, .ref (ad G (6, a1, 0, 0))), (2, .int l2), (3, .int l3)] dX8_pick_89 (Nat.le_of_ble_eq_true rfl) rfl rfl ?_
        refine j_iconst C (0 : Int32) (by decide) dX8_pick_91 ?_
        refine j_istore C [(8, .int (0 : Int32)), (7, .int (-1 : Int32)), (5, .long (0 : Int64)), (4, .int s0), (0, .ref (ad G (8, i0, 0, 0))), (1, .ref (ad G (6, a1, 0, 0))), (2, .int l2), (3, .int l3)] dX8_pick_92 (Nat.le_of_ble_eq_true rfl) rfl rfl ?_
        refine j_sub [4, 5, 6, 7, 2, 1, 0] [(0, .ref (ad G (8, i0, 0, 0))), (1, .ref (ad G (6, a1, 0, 0))), (2, .int l2), (3, .int l3), (5, .long (0 : Int64)), (7, .int (-1 : Int32)), (8, .int (0 : Int32))] rfl ?_
        refine T_X8_pick_b94 hG hlv hv0 hv1 C  2000 l2 l3 (0 : Int64) (-1 : Int32) (0 : Int32) D11 h
      · have h := ite_f c9 h
        refine j_iconst C (-1 : Int32) (by decide) dX8_pick_77 ?_
        obtain ⟨rfl, rfl⟩ := pr_x h
        exact j_iret C dX8_pick_78
def F_X8_pick_b45 (i0 : Nat) (a1 : Nat) (a2 : Int32) (a3 : Int32)  (l2 : Int32) (l3 : Int32) (D : Dt) : Option (Int32 × Dt) := (F_X8_pick_b46 i0 a1 a2 a3 l2 l3 (0 : Int32) D)
set_option maxRecDepth 100000 in
set_option maxHeartbeats 4000000 in
theorem T_X8_pick_b45 {r : Int32} {D' : Dt} {X : Ctx} {l : Launch} {G : Gt} {A : Nat → Prop} {lv : Nat} {i0 : Nat} {a1 : Nat} {a2 : Int32} {a3 : Int32}   (hG : Gok G A) (hlv : 4 ≤ lv) (hv0 : V (8, i0, 0, 0) = true) (hv1 : V (6, a1, 0, 0) = true)  (C : Cx X cX8_pick RX8 G l A lv 11 (some .int) (some (.int r)) D')  : ∀ (l2 : Int32) (l3 : Int32) (D : Dt), F_X8_pick_b45 i0 a1 a2 a3 l2 l3 D = some (r, D') → J X (Rep G D) 45 [(0, .ref (ad G (8, i0, 0, 0))), (1, .ref (ad G (6, a1, 0, 0))), (2, .int l2), (3, .int l3)] [] := by
  intro l2 l3 D h
  unfold F_X8_pick_b45 at h
  refine j_iconst C (0 : Int32) (by decide) dX8_pick_45 ?_
  refine T_X8_pick_b46 hG hlv hv0 hv1 C  l2 l3 (0 : Int32) D h
def F_X8_pick_b41 (i0 : Nat) (a1 : Nat) (a2 : Int32) (a3 : Int32)  (l2 : Int32) (l3 : Int32) (D : Dt) : Option (Int32 × Dt) := (F_X8_pick_b46 i0 a1 a2 a3 l2 l3 (1 : Int32) D)
set_option maxRecDepth 100000 in
set_option maxHeartbeats 4000000 in
theorem T_X8_pick_b41 {r : Int32} {D' : Dt} {X : Ctx} {l : Launch} {G : Gt} {A : Nat → Prop} {lv : Nat} {i0 : Nat} {a1 : Nat} {a2 : Int32} {a3 : Int32}   (hG : Gok G A) (hlv : 4 ≤ lv) (hv0 : V (8, i0, 0, 0) = true) (hv1 : V (6, a1, 0, 0) = true)  (C : Cx X cX8_pick RX8 G l A lv 11 (some .int) (some (.int r)) D')  : ∀ (l2 : Int32) (l3 : Int32) (D : Dt), F_X8_pick_b41 i0 a1 a2 a3 l2 l3 D = some (r, D') → J X (Rep G D) 41 [(0, .ref (ad G (8, i0, 0, 0))), (1, .ref (ad G (6, a1, 0, 0))), (2, .int l2), (3, .int l3)] [] := by
  intro l2 l3 D h
  unfold F_X8_pick_b41 at h
  refine j_iconst C (1 : Int32) (by decide) dX8_pick_41 ?_
  refine j_goto C 46 dX8_pick_42 (by decide) ?_
  refine T_X8_pick_b46 hG hlv hv0 hv1 C  l2 l3 (1 : Int32) D h
def F_X8_pick (i0 : Nat) (a1 : Nat) (a2 : Int32) (a3 : Int32) (D : Dt) : Option (Int32 × Dt) := (grd (V (8, i0, 0, 0) = true) (grd (V (6, a1, 0, 0) = true) (if a2 = (D.1 (8, i0, 0, 0) 4) then (cbd (F_X8_pickChosen i0 a1 a3 D) (fun r72 D73 => (some (r72, D73)))) else (if (D.2.2 (8, i0, 0, 0) 1) = none then (grd (inB a2 5 = true) (if (D.1 (6, a1, 3, 0) (a2.toNatClampNeg)) < (1 : Int32) then (F_X8_pick_b41 i0 a1 a2 a3 a2 a3 D) else (if (D.1 (6, a1, 2, 0) (a2.toNatClampNeg)) ≤ 0 then (F_X8_pick_b45 i0 a1 a2 a3 a2 a3 D) else (F_X8_pick_b41 i0 a1 a2 a3 a2 a3 D)))) else (F_X8_pick_b45 i0 a1 a2 a3 a2 a3 D)))))
set_option maxRecDepth 100000 in
set_option maxHeartbeats 4000000 in
theorem M_X8_pick {l : Launch} {G : Gt} {A : Nat → Prop} {lv : Nat} {i0 : Nat} {a1 : Nat} {a2 : Int32} {a3 : Int32} {D : Dt} {r : Int32} {D' : Dt} (hG : Gok G A) (hlv : 4 ≤ lv)  (h : F_X8_pick i0 a1 a2 a3 D = some (r, D')) : MD l G A lv yX8_pick cX8_pick 11 (some .int) [.ref (ad G (8, i0, 0, 0)), .ref (ad G (6, a1, 0, 0)), .int a2, .int a3] D (some (.int r)) D' := by
  unfold F_X8_pick at h
  obtain ⟨hv0, h⟩ := grd_x h
  obtain ⟨hv1, h⟩ := grd_x h
  refine md_start RX8 hG (by decide +kernel) rfl (Nat.le_of_ble_eq_true rfl) (L := [(0, .ref (ad G (8, i0, 0, 0))), (1, .ref (ad G (6, a1, 0, 0))), (2, .int a2), (3, .int a3)]) rfl (fun X C => ?_)
  refine j_iload_n C 2 dX8_pick_0 rfl rfl ?_
  refine j_aload_n C 0 dX8_pick_1 rfl rfl ?_
  refine j_getI C fl_X8_30 dX8_pick_2 hv0 ⟨rfl, rfl⟩ rfl ?_
  refine j_icmp_ne C 15 dX8_pick_5 (by decide) (fun c1 => ?_) (fun c1 => ?_)
  · have h := ite_f c1 h
    refine j_aload_n C 0 dX8_pick_15 rfl rfl ?_
    refine j_getD C 3 fl_X8_19 dX8_pick_16 hv0 ⟨rfl, rfl⟩ rfl rfl ?_
    refine j_ifnnO C 45 dX8_pick_19 (by decide) (fun c2 => ?_) (fun c2 => ?_)
    · have h := ite_f c2 h
      refine T_X8_pick_b45 hG hlv hv0 hv1 C  a2 a3 D h
    · have h := ite_t c2 h
      refine j_aload_n C 1 dX8_pick_22 rfl rfl ?_
      refine j_getS C (6, a1, 3, 0) fl_X8_43 dX8_pick_23 hv1 ⟨rfl, rfl⟩ rfl rfl ?_
      refine j_iload_n C 2 dX8_pick_26 rfl rfl ?_
      obtain ⟨g68, h⟩ := grd_x h
      refine j_ialdK C 5 (a2.toNatClampNeg) dX8_pick_27 (V_f 2 hv1 (by decide)) rfl g68 rfl ?_
      refine j_iconst C (1 : Int32) (by decide) dX8_pick_28 ?_
      refine j_icmp_lt C 41 dX8_pick_29 (by decide) (fun c69 => ?_) (fun c69 => ?_)
      · have h := ite_t c69 h
        refine T_X8_pick_b41 hG hlv hv0 hv1 C  a2 a3 D h
      · have h := ite_f c69 h
        refine j_aload_n C 1 dX8_pick_32 rfl rfl ?_
        refine j_getS C (6, a1, 2, 0) fl_X8_92 dX8_pick_33 hv1 ⟨rfl, rfl⟩ rfl rfl ?_
        refine j_iload_n C 2 dX8_pick_36 rfl rfl ?_
        refine j_ialdK C 5 (a2.toNatClampNeg) dX8_pick_37 (V_f 1 hv1 (by decide)) rfl g68 rfl ?_
        refine j_if_le C 45 dX8_pick_38 (by decide) (fun c70 => ?_) (fun c70 => ?_)
        · have h := ite_t c70 h
          refine T_X8_pick_b45 hG hlv hv0 hv1 C  a2 a3 D h
        · have h := ite_f c70 h
          refine T_X8_pick_b41 hG hlv hv0 hv1 C  a2 a3 D h
  · have h := ite_t c1 h
    refine j_aload_n C 0 dX8_pick_8 rfl rfl ?_
    refine j_aload_n C 1 dX8_pick_9 rfl rfl ?_
    refine j_iload_n C 3 dX8_pick_10 rfl rfl ?_
    obtain ⟨r72, D73, h71, h⟩ := cbd_x h
    refine j_callV C [.ref (ad G (6, a1, 0, 0)), .int a3] [] cl_X8_98 (M_X8_pickChosen (lv := lv - 1) hG (by omega) h71) (by omega) dX8_pick_11 hv0 ⟨rfl, rfl⟩ rfl rfl (Nat.le_of_ble_eq_true rfl) ?_
    refine j_st (st' := [.int r72]) rfl ?_
    obtain ⟨rfl, rfl⟩ := pr_x h
    exact j_iret C dX8_pick_14
def F_X8_pass_b23 (i0 : Nat) (a1 : Nat) (k51 : Int32 → Dt → Option (Int32 × Dt)) : Nat → Int32 → Int32 → Dt → Option (Int32 × Dt)
  | 0, _, _, _ => none
  | f + 1, l2, l3, D => (if l2 ≤ l3 then (k51 l2 D) else (obd (D.2.2 (8, i0, 0, 0) 0) (fun n6 => (grd (V (5, n6, 0, 0) = true) (cbd (F_X5_toldFor n6 l3 (D.1 (6, a1, 0, 0) 6) D) (fun r9 D10 => (vbd (F_X6_addSun a1 l3 r9 D10) (fun D12 => (bnd (l3 + (1 : Int32)) (fun v13 => (F_X8_pass_b23 i0 a1 k51 f l2 v13 D12)))))))))))
set_option maxRecDepth 100000 in
set_option maxHeartbeats 4000000 in
theorem T_X8_pass_b23 {r : Int32} {D' : Dt} {X : Ctx} {l : Launch} {G : Gt} {A : Nat → Prop} {lv : Nat} {i0 : Nat} {a1 : Nat}  {k51 : Int32 → Dt → Option (Int32 × Dt)} (hG : Gok G A) (hlv : 5 ≤ lv) (hv0 : V (8, i0, 0, 0) = true) (hv1 : V (6, a1, 0, 0) = true)  (C : Cx X cX8_pass RX8 G l A lv 6 (some .int) (some (.int r)) D') (hk51 : ∀ (l2 : Int32) (D : Dt), k51 l2 D = some (r, D') → J X (Rep G D) 51 [(0, .ref (ad G (8, i0, 0, 0))), (1, .ref (ad G (6, a1, 0, 0))), (2, .int l2)] []) : ∀ (f : Nat) (l2 : Int32) (l3 : Int32) (D : Dt), F_X8_pass_b23 i0 a1 k51 f l2 l3 D = some (r, D') → J X (Rep G D) 23 [(0, .ref (ad G (8, i0, 0, 0))), (1, .ref (ad G (6, a1, 0, 0))), (2, .int l2), (3, .int l3)] [] := by
  intro f
  induction f with
  | zero =>
    intro l2 l3 D h
    exact nomatch h
  | succ f ih =>
    intro l2 l3 D h
    rw [F_X8_pass_b23] at h
    refine j_iload_n C 3 dX8_pass_23 rfl rfl ?_
    refine j_iload_n C 2 dX8_pass_24 rfl rfl ?_
    refine j_icmp_ge C 51 dX8_pass_25 (by decide) (fun c5 => ?_) (fun c5 => ?_)
    · have h := ite_t c5 h
      refine j_sub [0, 1, 2] [(0, .ref (ad G (8, i0, 0, 0))), (1, .ref (ad G (6, a1, 0, 0))), (2, .int l2)] rfl ?_
      exact hk51 l2 D h
    · have h := ite_f c5 h
      refine j_aload_n C 1 dX8_pass_28 rfl rfl ?_
      refine j_iload_n C 3 dX8_pass_29 rfl rfl ?_
      refine j_aload_n C 0 dX8_pass_30 rfl rfl ?_
      refine j_getD C 5 fl_X8_15 dX8_pass_31 hv0 ⟨rfl, rfl⟩ rfl rfl ?_
      refine j_iload_n C 3 dX8_pass_34 rfl rfl ?_
      refine j_aload_n C 1 dX8_pass_35 rfl rfl ?_
      refine j_getI C fl_X8_68 dX8_pass_36 hv1 ⟨rfl, rfl⟩ rfl ?_
      obtain ⟨n6, en6, h⟩ := obd_x h
      obtain ⟨g7, h⟩ := grd_x h
      obtain ⟨r9, D10, h8, h⟩ := cbd_x h
      refine j_st (st' := [.int (D.1 (6, a1, 0, 0) 6), .int l3, .ref (ad G (5, n6, 0, 0)), .int l3, .ref (ad G (6, a1, 0, 0))]) (by rw [en6]; rfl) ?_
      refine j_callV C [.int l3, .int (D.1 (6, a1, 0, 0) 6)] [.int l3, .ref (ad G (6, a1, 0, 0))] cl_X8_71 (M_X5_toldFor (lv := lv - 1) hG (by omega) h8) (by omega) dX8_pass_39 g7 ⟨rfl, rfl⟩ rfl rfl (Nat.le_of_ble_eq_true rfl) ?_
      refine j_st (st' := [.int r9, .int l3, .ref (ad G (6, a1, 0, 0))]) rfl ?_
      obtain ⟨D12, h11, h⟩ := vbd_x h
      refine j_callV C [.int l3, .int r9] [] cl_X8_74 (M_X6_addSun (lv := lv - 1) hG (by omega) h11) (by omega) dX8_pass_42 hv1 ⟨rfl, rfl⟩ rfl rfl (Nat.le_of_ble_eq_true rfl) ?_
      refine j_st (st' := []) rfl ?_
      obtain ⟨v13, ev13, h⟩ := bnd_x h
      refine j_iinc C 3 [(3, .int v13), (0, .ref (ad G (8, i0, 0, 0))), (1, .ref (ad G (6, a1, 0, 0))), (2, .int l2)] dX8_pass_45 rfl (Nat.le_of_ble_eq_true rfl) (ev13.trans (congrArg (l3 + ·) (by decide))) rfl ?_
      refine j_goto C 23 dX8_pass_48 (by decide) ?_
      refine j_sub [1, 2, 3, 0] [(0, .ref (ad G (8, i0, 0, 0))), (1, .ref (ad G (6, a1, 0, 0))), (2, .int l2), (3, .int v13)] rfl ?_
      exact ih l2 v13 D12 h
def F_X8_pass_b111 (i0 : Nat) (a1 : Nat) (k56 : Int32 → Int32 → Int32 → Dt → Option (Int32 × Dt)) (l2 : Int32) (l3 : Int32) (l4 : Int32) (D : Dt) : Option (Int32 × Dt) := (bnd (l4 + (1 : Int32)) (fun v23 => (k56 l2 l3 v23 D)))
set_option maxRecDepth 100000 in
set_option maxHeartbeats 4000000 in
theorem T_X8_pass_b111 {r : Int32} {D' : Dt} {X : Ctx} {l : Launch} {G : Gt} {A : Nat → Prop} {lv : Nat} {i0 : Nat} {a1 : Nat}  {k56 : Int32 → Int32 → Int32 → Dt → Option (Int32 × Dt)} (hG : Gok G A) (hlv : 5 ≤ lv) (hv0 : V (8, i0, 0, 0) = true) (hv1 : V (6, a1, 0, 0) = true)  (C : Cx X cX8_pass RX8 G l A lv 6 (some .int) (some (.int r)) D') (hk56 : ∀ (l2 : Int32) (l3 : Int32) (l4 : Int32) (D : Dt), k56 l2 l3 l4 D = some (r, D') → J X (Rep G D) 56 [(0, .ref (ad G (8, i0, 0, 0))), (1, .ref (ad G (6, a1, 0, 0))), (2, .int l2), (3, .int l3), (4, .int l4)] []) : ∀ (l2 : Int32) (l3 : Int32) (l4 : Int32) (D : Dt), F_X8_pass_b111 i0 a1 k56 l2 l3 l4 D = some (r, D') → J X (Rep G D) 111 [(0, .ref (ad G (8, i0, 0, 0))), (1, .ref (ad G (6, a1, 0, 0))), (2, .int l2), (3, .int l3), (4, .int l4)] [] := by
  intro l2 l3 l4 D h
  unfold F_X8_pass_b111 at h
  obtain ⟨v23, ev23, h⟩ := bnd_x h
  refine j_iinc C 4 [(4, .int v23), (0, .ref (ad G (8, i0, 0, 0))), (1, .ref (ad G (6, a1, 0, 0))), (2, .int l2), (3, .int l3)] dX8_pass_111 rfl (Nat.le_of_ble_eq_true rfl) (ev23.trans (congrArg (l4 + ·) (by decide))) rfl ?_
  refine j_goto C 56 dX8_pass_114 (by decide) ?_
  refine j_sub [1, 2, 3, 4, 0] [(0, .ref (ad G (8, i0, 0, 0))), (1, .ref (ad G (6, a1, 0, 0))), (2, .int l2), (3, .int l3), (4, .int v23)] rfl ?_
  exact hk56 l2 l3 v23 D h
def F_X8_pass_b56 (i0 : Nat) (a1 : Nat) (k117 : Int32 → Int32 → Dt → Option (Int32 × Dt)) : Nat → Int32 → Int32 → Int32 → Dt → Option (Int32 × Dt)
  | 0, _, _, _, _ => none
  | f + 1, l2, l3, l4, D => (if l2 ≤ l4 then (k117 l2 l3 D) else (cbd (F_X8_pick i0 a1 l4 l2 D) (fun r18 D19 => (grd (inB l4 5 = true) (bnd (setI D19 (6, a1, 5, 0) (l4.toNatClampNeg) r18) (fun D21 => (if r18 = (-1 : Int32) then (F_X8_pass_b111 i0 a1 (fun l2_24 l3_25 l4_26 D27 => (F_X8_pass_b56 i0 a1 k117 f l2_24 l3_25 l4_26 D27)) l2 l3 l4 D21) else (vbd (F_X6_buy a1 l4 r18 D21) (fun D29 => (bnd (setI D29 (8, i0, 0, 0) 7 ((D29.1 (8, i0, 0, 0) 7) ||| ((1 : Int32) <<< (r18 &&& 31)))) (fun D30 => (bnd (l3 + (1 : Int32)) (fun v31 => (F_X8_pass_b111 i0 a1 (fun l2_32 l3_33 l4_34 D35 => (F_X8_pass_b56 i0 a1 k117 f l2_32 l3_33 l4_34 D35)) l2 v31 l4 D30))))))))))))))
set_option maxRecDepth 100000 in
set_option maxHeartbeats 4000000 in
theorem T_X8_pass_b56 {r : Int32} {D' : Dt} {X : Ctx} {l : Launch} {G : Gt} {A : Nat → Prop} {lv : Nat} {i0 : Nat} {a1 : Nat}  {k117 : Int32 → Int32 → Dt → Option (Int32 × Dt)} (hG : Gok G A) (hlv : 5 ≤ lv) (hv0 : V (8, i0, 0, 0) = true) (hv1 : V (6, a1, 0, 0) = true)  (C : Cx X cX8_pass RX8 G l A lv 6 (some .int) (some (.int r)) D') (hk117 : ∀ (l2 : Int32) (l3 : Int32) (D : Dt), k117 l2 l3 D = some (r, D') → J X (Rep G D) 117 [(0, .ref (ad G (8, i0, 0, 0))), (1, .ref (ad G (6, a1, 0, 0))), (2, .int l2), (3, .int l3)] []) : ∀ (f : Nat) (l2 : Int32) (l3 : Int32) (l4 : Int32) (D : Dt), F_X8_pass_b56 i0 a1 k117 f l2 l3 l4 D = some (r, D') → J X (Rep G D) 56 [(0, .ref (ad G (8, i0, 0, 0))), (1, .ref (ad G (6, a1, 0, 0))), (2, .int l2), (3, .int l3), (4, .int l4)] [] := by
  intro f
  induction f with
  | zero =>
    intro l2 l3 l4 D h
    exact nomatch h
  | succ f ih =>
    intro l2 l3 l4 D h
    rw [F_X8_pass_b56] at h
    refine j_iload C 4 dX8_pass_56 rfl ?_
    refine j_iload_n C 2 dX8_pass_58 rfl rfl ?_
    refine j_icmp_ge C 117 dX8_pass_59 (by decide) (fun c16 => ?_) (fun c16 => ?_)
    · have h := ite_t c16 h
      refine j_sub [0, 1, 2, 3] [(0, .ref (ad G (8, i0, 0, 0))), (1, .ref (ad G (6, a1, 0, 0))), (2, .int l2), (3, .int l3)] rfl ?_
      exact hk117 l2 l3 D h
    · have h := ite_f c16 h
      refine j_aload_n C 0 dX8_pass_62 rfl rfl ?_
      refine j_aload_n C 1 dX8_pass_63 rfl rfl ?_
      refine j_iload C 4 dX8_pass_64 rfl ?_
      refine j_iload_n C 2 dX8_pass_66 rfl rfl ?_
      obtain ⟨r18, D19, h17, h⟩ := cbd_x h
      refine j_callV C [.ref (ad G (6, a1, 0, 0)), .int l4, .int l2] [] cl_X8_78 (M_X8_pick (lv := lv - 1) hG (by omega) h17) (by omega) dX8_pass_67 hv0 ⟨rfl, rfl⟩ rfl rfl (Nat.le_of_ble_eq_true rfl) ?_
      refine j_st (st' := [.int r18]) rfl ?_
      refine j_istore C [(5, .int r18), (0, .ref (ad G (8, i0, 0, 0))), (1, .ref (ad G (6, a1, 0, 0))), (2, .int l2), (3, .int l3), (4, .int l4)] dX8_pass_70 (Nat.le_of_ble_eq_true rfl) rfl rfl ?_
      refine j_aload_n C 2 dX8_pass_72 rfl rfl ?_
      refine j_getS C (6, a1, 5, 0) fl_X8_82 dX8_pass_73 hv1 ⟨rfl, rfl⟩ rfl rfl ?_
      refine j_iload C 5 dX8_pass_76 rfl ?_
      refine j_iload C 0 dX8_pass_78 rfl ?_
      obtain ⟨g20, h⟩ := grd_x h
      obtain ⟨D21, eD21, h⟩ := bnd_x h
      refine j_iastK C 5 (l4.toNatClampNeg) dX8_pass_80 (V_f 4 hv1 (by decide)) rfl g20 rfl ?_
      refine j_rep eD21 ?_
      refine j_iload C 0 dX8_pass_81 rfl ?_
      refine j_iconst C (-1 : Int32) (by decide) dX8_pass_83 ?_
      refine j_icmp_eq C 111 dX8_pass_84 (by decide) (fun c22 => ?_) (fun c22 => ?_)
      · have h := ite_t c22 h
        refine j_sub [1, 2, 3, 4, 5] [(0, .ref (ad G (8, i0, 0, 0))), (1, .ref (ad G (6, a1, 0, 0))), (2, .int l2), (3, .int l3), (4, .int l4)] rfl ?_
        refine T_X8_pass_b111 hG hlv hv0 hv1 C (fun l2_24 l3_25 l4_26 D27 h => ?_) l2 l3 l4 D21 h
        · exact ih l2_24 l3_25 l4_26 D27 h
      · have h := ite_f c22 h
        refine j_aload_n C 2 dX8_pass_87 rfl rfl ?_
        refine j_iload C 5 dX8_pass_88 rfl ?_
        refine j_iload C 0 dX8_pass_90 rfl ?_
        obtain ⟨D29, h28, h⟩ := vbd_x h
        refine j_callV C [.int l4, .int r18] [] cl_X8_85 (M_X6_buy (lv := lv - 1) hG (by omega) h28) (by omega) dX8_pass_92 hv1 ⟨rfl, rfl⟩ rfl rfl (Nat.le_of_ble_eq_true rfl) ?_
        refine j_st (st' := []) rfl ?_
        refine j_aload_n C 1 dX8_pass_95 rfl rfl ?_
        refine j_dup C rfl dX8_pass_96 ?_
        refine j_getI C fl_X8_40 dX8_pass_97 hv0 ⟨rfl, rfl⟩ rfl ?_
        refine j_iconst C (1 : Int32) (by decide) dX8_pass_100 ?_
        refine j_iload C 0 dX8_pass_101 rfl ?_
        refine j_ishl C dX8_pass_103 ?_
        refine j_ior C dX8_pass_104 ?_
        obtain ⟨D30, eD30, h⟩ := bnd_x h
        refine j_putI C fl_X8_40 dX8_pass_105 hv0 ⟨rfl, rfl⟩ rfl rfl rfl ?_
        refine j_rep eD30 ?_
        obtain ⟨v31, ev31, h⟩ := bnd_x h
        refine j_iinc C 4 [(3, .int v31), (5, .int r18), (0, .ref (ad G (8, i0, 0, 0))), (1, .ref (ad G (6, a1, 0, 0))), (2, .int l2), (4, .int l4)] dX8_pass_108 rfl (Nat.le_of_ble_eq_true rfl) (ev31.trans (congrArg (l3 + ·) (by decide))) rfl ?_
        refine j_sub [2, 3, 4, 0, 5] [(0, .ref (ad G (8, i0, 0, 0))), (1, .ref (ad G (6, a1, 0, 0))), (2, .int l2), (3, .int v31), (4, .int l4)] rfl ?_
        refine T_X8_pass_b111 hG hlv hv0 hv1 C (fun l2_32 l3_33 l4_34 D35 h => ?_) l2 v31 l4 D30 h
        · exact ih l2_32 l3_33 l4_34 D35 h
def F_X8_pass_b120 (i0 : Nat) (a1 : Nat) (k162 : Int32 → Dt → Option (Int32 × Dt)) : Nat → Int32 → Int32 → Int32 → Dt → Option (Int32 × Dt)
  | 0, _, _, _, _ => none
  | f + 1, l2, l3, l4, D => (if l2 ≤ l4 then (k162 l3 D) else (vbd (F_X6_harvest a1 l4 D) (fun D41 => (grd (inB l4 5 = true) (obd (D41.2.2 (8, i0, 0, 0) 0) (fun n43 => (grd (V (5, n43, 0, 0) = true) (bnd (setI D41 (6, a1, 2, 0) (l4.toNatClampNeg) (if (D41.1 (5, n43, 0, 0) 2) < (D41.1 (6, a1, 2, 0) (l4.toNatClampNeg)) then (D41.1 (5, n43, 0, 0) 2) else (D41.1 (6, a1, 2, 0) (l4.toNatClampNeg)))) (fun D45 => (bnd (l4 + (1 : Int32)) (fun v46 => (F_X8_pass_b120 i0 a1 k162 f l2 l3 v46 D45))))))))))))
set_option maxRecDepth 100000 in
set_option maxHeartbeats 4000000 in
theorem T_X8_pass_b120 {r : Int32} {D' : Dt} {X : Ctx} {l : Launch} {G : Gt} {A : Nat → Prop} {lv : Nat} {i0 : Nat} {a1 : Nat}  {k162 : Int32 → Dt → Option (Int32 × Dt)} (hG : Gok G A) (hlv : 5 ≤ lv) (hv0 : V (8, i0, 0, 0) = true) (hv1 : V (6, a1, 0, 0) = true)  (C : Cx X cX8_pass RX8 G l A lv 6 (some .int) (some (.int r)) D') (hk162 : ∀ (l3 : Int32) (D : Dt), k162 l3 D = some (r, D') → J X (Rep G D) 162 [(1, .ref (ad G (6, a1, 0, 0))), (3, .int l3)] []) : ∀ (f : Nat) (l2 : Int32) (l3 : Int32) (l4 : Int32) (D : Dt), F_X8_pass_b120 i0 a1 k162 f l2 l3 l4 D = some (r, D') → J X (Rep G D) 120 [(0, .ref (ad G (8, i0, 0, 0))), (1, .ref (ad G (6, a1, 0, 0))), (2, .int l2), (3, .int l3), (4, .int l4)] [] := by
  intro f
  induction f with
  | zero =>
    intro l2 l3 l4 D h
    exact nomatch h
  | succ f ih =>
    intro l2 l3 l4 D h
    rw [F_X8_pass_b120] at h
    refine j_iload C 4 dX8_pass_120 rfl ?_
    refine j_iload_n C 2 dX8_pass_122 rfl rfl ?_
    refine j_icmp_ge C 162 dX8_pass_123 (by decide) (fun c39 => ?_) (fun c39 => ?_)
    · have h := ite_t c39 h
      refine j_sub [1, 3] [(1, .ref (ad G (6, a1, 0, 0))), (3, .int l3)] rfl ?_
      exact hk162 l3 D h
    · have h := ite_f c39 h
      refine j_aload_n C 1 dX8_pass_126 rfl rfl ?_
      refine j_iload C 4 dX8_pass_127 rfl ?_
      obtain ⟨D41, h40, h⟩ := vbd_x h
      refine j_callV C [.int l4] [] cl_X8_88 (M_X6_harvest (lv := lv - 1) hG (by omega) h40) (by omega) dX8_pass_129 hv1 ⟨rfl, rfl⟩ rfl rfl (Nat.le_of_ble_eq_true rfl) ?_
      refine j_st (st' := []) rfl ?_
      refine j_aload_n C 1 dX8_pass_132 rfl rfl ?_
      refine j_getS C (6, a1, 2, 0) fl_X8_92 dX8_pass_133 hv1 ⟨rfl, rfl⟩ rfl rfl ?_
      refine j_iload C 4 dX8_pass_136 rfl ?_
      refine j_aload_n C 1 dX8_pass_138 rfl rfl ?_
      refine j_getS C (6, a1, 2, 0) fl_X8_92 dX8_pass_139 hv1 ⟨rfl, rfl⟩ rfl rfl ?_
      refine j_iload C 4 dX8_pass_142 rfl ?_
      obtain ⟨g42, h⟩ := grd_x h
      refine j_ialdK C 5 (l4.toNatClampNeg) dX8_pass_144 (V_f 1 hv1 (by decide)) rfl g42 rfl ?_
      refine j_aload_n C 0 dX8_pass_145 rfl rfl ?_
      refine j_getD C 5 fl_X8_15 dX8_pass_146 hv0 ⟨rfl, rfl⟩ rfl rfl ?_
      obtain ⟨n43, en43, h⟩ := obd_x h
      obtain ⟨g44, h⟩ := grd_x h
      refine j_some en43 ?_
      refine j_getI C fl_X8_95 dX8_pass_149 g44 ⟨rfl, rfl⟩ rfl ?_
      refine j_min C km_X8_62 (by omega) (Nat.le_of_ble_eq_true rfl) dX8_pass_152 ?_
      obtain ⟨D45, eD45, h⟩ := bnd_x h
      refine j_iastK C 5 (l4.toNatClampNeg) dX8_pass_155 (V_f 1 hv1 (by decide)) rfl g42 rfl ?_
      refine j_rep eD45 ?_
      obtain ⟨v46, ev46, h⟩ := bnd_x h
      refine j_iinc C 4 [(4, .int v46), (0, .ref (ad G (8, i0, 0, 0))), (1, .ref (ad G (6, a1, 0, 0))), (2, .int l2), (3, .int l3)] dX8_pass_156 rfl (Nat.le_of_ble_eq_true rfl) (ev46.trans (congrArg (l4 + ·) (by decide))) rfl ?_
      refine j_goto C 120 dX8_pass_159 (by decide) ?_
      refine j_sub [1, 2, 3, 4, 0] [(0, .ref (ad G (8, i0, 0, 0))), (1, .ref (ad G (6, a1, 0, 0))), (2, .int l2), (3, .int l3), (4, .int v46)] rfl ?_
      exact ih l2 l3 v46 D45 h
def F_X8_pass (i0 : Nat) (a1 : Nat) (D : Dt) : Option (Int32 × Dt) := (grd (V (8, i0, 0, 0) = true) (grd (V (6, a1, 0, 0) = true) (if (D.2.2 (8, i0, 0, 0) 0) = none then (some ((0 : Int32), D)) else (obd (D.2.2 (8, i0, 0, 0) 0) (fun n2 => (grd (V (5, n2, 0, 0) = true) (bnd (if (5 : Int32) < (D.1 (5, n2, 0, 0) 3) then (5 : Int32) else (D.1 (5, n2, 0, 0) 3)) (fun v4 => (F_X8_pass_b23 i0 a1 (fun l2_14 D15 => (F_X8_pass_b56 i0 a1 (fun l2_36 l3_37 D38 => (F_X8_pass_b120 i0 a1 (fun l3_47 D48 => (bnd (setI D48 (6, a1, 0, 0) 6 ((D48.1 (6, a1, 0, 0) 6) + (1 : Int32))) (fun D49 => (some (l3_47, D49))))) 2000 l2_36 l3_37 (0 : Int32) D38)) 2000 l2_14 (0 : Int32) (0 : Int32) D15)) 2000 v4 (0 : Int32) D)))))))))
set_option maxRecDepth 100000 in
set_option maxHeartbeats 4000000 in
theorem M_X8_pass {l : Launch} {G : Gt} {A : Nat → Prop} {lv : Nat} {i0 : Nat} {a1 : Nat} {D : Dt} {r : Int32} {D' : Dt} (hG : Gok G A) (hlv : 5 ≤ lv)  (h : F_X8_pass i0 a1 D = some (r, D')) : MD l G A lv yX8_pass cX8_pass 6 (some .int) [.ref (ad G (8, i0, 0, 0)), .ref (ad G (6, a1, 0, 0))] D (some (.int r)) D' := by
  unfold F_X8_pass at h
  obtain ⟨hv0, h⟩ := grd_x h
  obtain ⟨hv1, h⟩ := grd_x h
  refine md_start RX8 hG (by decide +kernel) rfl (Nat.le_of_ble_eq_true rfl) (L := [(0, .ref (ad G (8, i0, 0, 0))), (1, .ref (ad G (6, a1, 0, 0)))]) rfl (fun X C => ?_)
  refine j_aload_n C 0 dX8_pass_0 rfl rfl ?_
  refine j_getD C 5 fl_X8_15 dX8_pass_1 hv0 ⟨rfl, rfl⟩ rfl rfl ?_
  refine j_ifnnO C 9 dX8_pass_4 (by decide) (fun c1 => ?_) (fun c1 => ?_)
  · have h := ite_f c1 h
    refine j_aload_n C 0 dX8_pass_9 rfl rfl ?_
    refine j_getD C 5 fl_X8_15 dX8_pass_10 hv0 ⟨rfl, rfl⟩ rfl rfl ?_
    obtain ⟨n2, en2, h⟩ := obd_x h
    obtain ⟨g3, h⟩ := grd_x h
    refine j_some en2 ?_
    refine j_getI C fl_X8_57 dX8_pass_13 g3 ⟨rfl, rfl⟩ rfl ?_
    refine j_iconst C (5 : Int32) (by decide) dX8_pass_16 ?_
    refine j_min C km_X8_62 (by omega) (Nat.le_of_ble_eq_true rfl) dX8_pass_17 ?_
    obtain ⟨v4, ev4, h⟩ := bnd_x h
    refine j_istore_n C [(2, .int v4), (0, .ref (ad G (8, i0, 0, 0))), (1, .ref (ad G (6, a1, 0, 0)))] dX8_pass_20 rfl (Nat.le_of_ble_eq_true rfl) ev4 rfl ?_
    refine j_iconst C (0 : Int32) (by decide) dX8_pass_21 ?_
    refine j_istore_n C [(3, .int (0 : Int32)), (2, .int v4), (0, .ref (ad G (8, i0, 0, 0))), (1, .ref (ad G (6, a1, 0, 0)))] dX8_pass_22 rfl (Nat.le_of_ble_eq_true rfl) rfl rfl ?_
    refine j_sub [2, 3, 1, 0] [(0, .ref (ad G (8, i0, 0, 0))), (1, .ref (ad G (6, a1, 0, 0))), (2, .int v4), (3, .int (0 : Int32))] rfl ?_
    refine T_X8_pass_b23 hG hlv hv0 hv1 C (fun l2_14 D15 h => ?_) 2000 v4 (0 : Int32) D h
    · refine j_iconst C (0 : Int32) (by decide) dX8_pass_51 ?_
      refine j_istore_n C [(3, .int (0 : Int32)), (0, .ref (ad G (8, i0, 0, 0))), (1, .ref (ad G (6, a1, 0, 0))), (2, .int l2_14)] dX8_pass_52 rfl (Nat.le_of_ble_eq_true rfl) rfl rfl ?_
      refine j_iconst C (0 : Int32) (by decide) dX8_pass_53 ?_
      refine j_istore C [(4, .int (0 : Int32)), (3, .int (0 : Int32)), (0, .ref (ad G (8, i0, 0, 0))), (1, .ref (ad G (6, a1, 0, 0))), (2, .int l2_14)] dX8_pass_54 (Nat.le_of_ble_eq_true rfl) rfl rfl ?_
      refine j_sub [2, 3, 4, 1, 0] [(0, .ref (ad G (8, i0, 0, 0))), (1, .ref (ad G (6, a1, 0, 0))), (2, .int l2_14), (3, .int (0 : Int32)), (4, .int (0 : Int32))] rfl ?_
      refine T_X8_pass_b56 hG hlv hv0 hv1 C (fun l2_36 l3_37 D38 h => ?_) 2000 l2_14 (0 : Int32) (0 : Int32) D15 h
      · refine j_iconst C (0 : Int32) (by decide) dX8_pass_117 ?_
        refine j_istore C [(4, .int (0 : Int32)), (0, .ref (ad G (8, i0, 0, 0))), (1, .ref (ad G (6, a1, 0, 0))), (2, .int l2_36), (3, .int l3_37)] dX8_pass_118 (Nat.le_of_ble_eq_true rfl) rfl rfl ?_
        refine j_sub [1, 2, 3, 4, 0] [(0, .ref (ad G (8, i0, 0, 0))), (1, .ref (ad G (6, a1, 0, 0))), (2, .int l2_36), (3, .int l3_37), (4, .int (0 : Int32))] rfl ?_
        refine T_X8_pass_b120 hG hlv hv0 hv1 C (fun l3_47 D48 h => ?_) 2000 l2_36 l3_37 (0 : Int32) D38 h
        · refine j_aload_n C 0 dX8_pass_162 rfl rfl ?_
          refine j_dup C rfl dX8_pass_163 ?_
          refine j_getI C fl_X8_68 dX8_pass_164 hv1 ⟨rfl, rfl⟩ rfl ?_
          refine j_iconst C (1 : Int32) (by decide) dX8_pass_167 ?_
          refine j_iadd C dX8_pass_168 ?_
          obtain ⟨D49, eD49, h⟩ := bnd_x h
          refine j_putI C fl_X8_68 dX8_pass_169 hv1 ⟨rfl, rfl⟩ rfl rfl rfl ?_
          refine j_rep eD49 ?_
          refine j_iload_n C 1 dX8_pass_172 rfl rfl ?_
          obtain ⟨rfl, rfl⟩ := pr_x h
          exact j_iret C dX8_pass_173
  · have h := ite_t c1 h
    refine j_iconst C (0 : Int32) (by decide) dX8_pass_7 ?_
    obtain ⟨rfl, rfl⟩ := pr_x h
    exact j_iret C dX8_pass_8
def F_X1_after_b10 (a1 : Int32)  : Nat → Int32 → Int32 → Dt → Option (Nat × Dt)
  | 0, _, _, _ => none
  | f + 1, l1, l2, D => (if l1 ≤ l2 then (some (105, D)) else (cbd (F_X8_pass 1 105 D) (fun r5 D6 => (bnd (l2 + (1 : Int32)) (fun v7 => (F_X1_after_b10 a1 f l1 v7 D6))))))
set_option maxRecDepth 100000 in
set_option maxHeartbeats 4000000 in
theorem T_X1_after_b10 {r : Nat} {D' : Dt} {X : Ctx} {l : Launch} {G : Gt} {A : Nat → Prop} {lv : Nat} {a1 : Int32}   (hG : Gok G A) (hlv : 6 ≤ lv)   (C : Cx X cX1_after RX1 G l A lv 3 (some (.object "SunTable$State")) (some (.ref (ad G (6, r, 0, 0)))) D')  : ∀ (f : Nat) (l1 : Int32) (l2 : Int32) (D : Dt), F_X1_after_b10 a1 f l1 l2 D = some (r, D') → J X (Rep G D) 10 [(0, .ref (ad G (1, 0, 0, 0))), (1, .int l1), (2, .int l2)] [] := by
  intro f
  induction f with
  | zero =>
    intro l1 l2 D h
    exact nomatch h
  | succ f ih =>
    intro l1 l2 D h
    rw [F_X1_after_b10] at h
    refine j_iload_n C 2 dX1_after_10 rfl rfl ?_
    refine j_iload_n C 1 dX1_after_11 rfl rfl ?_
    refine j_icmp_ge C 33 dX1_after_12 (by decide) (fun c3 => ?_) (fun c3 => ?_)
    · have h := ite_t c3 h
      refine j_aload_n C 0 dX1_after_33 rfl rfl ?_
      refine j_getS C (6, 105, 0, 0) fl_X1_21 dX1_after_34 (by decide) ⟨rfl, rfl⟩ rfl rfl ?_
      obtain ⟨rfl, rfl⟩ := pr_x h
      exact j_aret C (Or.inr ⟨_, rfl⟩) dX1_after_37
    · have h := ite_f c3 h
      refine j_aload_n C 0 dX1_after_15 rfl rfl ?_
      refine j_getS C (8, 1, 0, 0) fl_X1_12 dX1_after_16 (by decide) ⟨rfl, rfl⟩ rfl rfl ?_
      refine j_aload_n C 0 dX1_after_19 rfl rfl ?_
      refine j_getS C (6, 105, 0, 0) fl_X1_21 dX1_after_20 (by decide) ⟨rfl, rfl⟩ rfl rfl ?_
      obtain ⟨r5, D6, h4, h⟩ := cbd_x h
      refine j_callV C [.ref (ad G (6, 105, 0, 0))] [] cl_X1_84 (M_X8_pass (lv := lv - 1) hG (by omega) h4) (by omega) dX1_after_23 (by decide) ⟨rfl, rfl⟩ rfl rfl (Nat.le_of_ble_eq_true rfl) ?_
      refine j_st (st' := [.int r5]) rfl ?_
      refine j_pop C rfl dX1_after_26 ?_
      obtain ⟨v7, ev7, h⟩ := bnd_x h
      refine j_iinc C 2 [(2, .int v7), (0, .ref (ad G (1, 0, 0, 0))), (1, .int l1)] dX1_after_27 rfl (Nat.le_of_ble_eq_true rfl) (ev7.trans (congrArg (l2 + ·) (by decide))) rfl ?_
      refine j_goto C 10 dX1_after_30 (by decide) ?_
      refine j_sub [1, 2, 0] [(0, .ref (ad G (1, 0, 0, 0))), (1, .int l1), (2, .int v7)] rfl ?_
      exact ih l1 v7 D6 h
def F_X1_after (a1 : Int32) (D : Dt) : Option (Nat × Dt) := (vbd (F_X1_startOn 105 D) (fun D2 => (F_X1_after_b10 a1 2000 a1 (0 : Int32) D2)))
set_option maxRecDepth 100000 in
set_option maxHeartbeats 4000000 in
theorem M_X1_after {l : Launch} {G : Gt} {A : Nat → Prop} {lv : Nat} {a1 : Int32} {D : Dt} {r : Nat} {D' : Dt} (hG : Gok G A) (hlv : 6 ≤ lv)  (h : F_X1_after a1 D = some (r, D')) : MD l G A lv yX1_after cX1_after 3 (some (.object "SunTable$State")) [.ref (ad G (1, 0, 0, 0)), .int a1] D (some (.ref (ad G (6, r, 0, 0)))) D' := by
  unfold F_X1_after at h
  refine md_start RX1 hG (by decide +kernel) rfl (Nat.le_of_ble_eq_true rfl) (L := [(0, .ref (ad G (1, 0, 0, 0))), (1, .int a1)]) rfl (fun X C => ?_)
  refine j_aload_n C 0 dX1_after_0 rfl rfl ?_
  refine j_aload_n C 0 dX1_after_1 rfl rfl ?_
  refine j_getS C (6, 105, 0, 0) fl_X1_21 dX1_after_2 (by decide) ⟨rfl, rfl⟩ rfl rfl ?_
  obtain ⟨D2, h1, h⟩ := vbd_x h
  refine j_callV C [.ref (ad G (6, 105, 0, 0))] [] cl_X1_81 (M_X1_startOn (lv := lv - 1) hG (by omega) h1) (by omega) dX1_after_5 (by decide) ⟨rfl, rfl⟩ rfl rfl (Nat.le_of_ble_eq_true rfl) ?_
  refine j_st (st' := []) rfl ?_
  refine j_iconst C (0 : Int32) (by decide) dX1_after_8 ?_
  refine j_istore_n C [(2, .int (0 : Int32)), (0, .ref (ad G (1, 0, 0, 0))), (1, .int a1)] dX1_after_9 rfl (Nat.le_of_ble_eq_true rfl) rfl rfl ?_
  refine j_sub [1, 2, 0] [(0, .ref (ad G (1, 0, 0, 0))), (1, .int a1), (2, .int (0 : Int32))] rfl ?_
  refine T_X1_after_b10 hG hlv  C  2000 a1 (0 : Int32) D2 h
def F_X1_firstBare_b10 (a1 : Int32)  : Nat → Int32 → Int32 → Dt → Option (Int32 × Dt)
  | 0, _, _, _ => none
  | f + 1, l1, l2, D => (if (100 : Int32) ≤ l2 then (some ((-2 : Int32), D)) else (grd (inB l1 5 = true) (if (D.1 (6, 105, 3, 0) (l1.toNatClampNeg)) = 0 then (some ((D.1 (6, 105, 0, 0) 6), D)) else (cbd (F_X8_pass 1 105 D) (fun r7 D8 => (bnd (l2 + (1 : Int32)) (fun v9 => (F_X1_firstBare_b10 a1 f l1 v9 D8))))))))
set_option maxRecDepth 100000 in
set_option maxHeartbeats 4000000 in
theorem T_X1_firstBare_b10 {r : Int32} {D' : Dt} {X : Ctx} {l : Launch} {G : Gt} {A : Nat → Prop} {lv : Nat} {a1 : Int32}   (hG : Gok G A) (hlv : 6 ≤ lv)   (C : Cx X cX1_firstBare RX1 G l A lv 3 (some .int) (some (.int r)) D')  : ∀ (f : Nat) (l1 : Int32) (l2 : Int32) (D : Dt), F_X1_firstBare_b10 a1 f l1 l2 D = some (r, D') → J X (Rep G D) 10 [(0, .ref (ad G (1, 0, 0, 0))), (1, .int l1), (2, .int l2)] [] := by
  intro f
  induction f with
  | zero =>
    intro l1 l2 D h
    exact nomatch h
  | succ f ih =>
    intro l1 l2 D h
    rw [F_X1_firstBare_b10] at h
    refine j_iload_n C 2 dX1_firstBare_10 rfl rfl ?_
    refine j_bipush C (100 : Int32) (by decide) dX1_firstBare_11 ?_
    refine j_icmp_ge C 54 dX1_firstBare_13 (by decide) (fun c3 => ?_) (fun c3 => ?_)
    · have h := ite_t c3 h
      refine j_bipush C (-2 : Int32) (by decide) dX1_firstBare_54 ?_
      obtain ⟨rfl, rfl⟩ := pr_x h
      exact j_iret C dX1_firstBare_56
    · have h := ite_f c3 h
      refine j_aload_n C 0 dX1_firstBare_16 rfl rfl ?_
      refine j_getS C (6, 105, 0, 0) fl_X1_21 dX1_firstBare_17 (by decide) ⟨rfl, rfl⟩ rfl rfl ?_
      refine j_getS C (6, 105, 3, 0) fl_X1_88 dX1_firstBare_20 (by decide) ⟨rfl, rfl⟩ rfl rfl ?_
      refine j_iload_n C 1 dX1_firstBare_23 rfl rfl ?_
      obtain ⟨g4, h⟩ := grd_x h
      refine j_ialdK C 5 (l1.toNatClampNeg) dX1_firstBare_24 (V_f 2 (by decide) (by decide)) rfl g4 rfl ?_
      refine j_if_ne C 36 dX1_firstBare_25 (by decide) (fun c5 => ?_) (fun c5 => ?_)
      · have h := ite_f c5 h
        refine j_aload_n C 0 dX1_firstBare_36 rfl rfl ?_
        refine j_getS C (8, 1, 0, 0) fl_X1_12 dX1_firstBare_37 (by decide) ⟨rfl, rfl⟩ rfl rfl ?_
        refine j_aload_n C 0 dX1_firstBare_40 rfl rfl ?_
        refine j_getS C (6, 105, 0, 0) fl_X1_21 dX1_firstBare_41 (by decide) ⟨rfl, rfl⟩ rfl rfl ?_
        obtain ⟨r7, D8, h6, h⟩ := cbd_x h
        refine j_callV C [.ref (ad G (6, 105, 0, 0))] [] cl_X1_84 (M_X8_pass (lv := lv - 1) hG (by omega) h6) (by omega) dX1_firstBare_44 (by decide) ⟨rfl, rfl⟩ rfl rfl (Nat.le_of_ble_eq_true rfl) ?_
        refine j_st (st' := [.int r7]) rfl ?_
        refine j_pop C rfl dX1_firstBare_47 ?_
        obtain ⟨v9, ev9, h⟩ := bnd_x h
        refine j_iinc C 2 [(2, .int v9), (0, .ref (ad G (1, 0, 0, 0))), (1, .int l1)] dX1_firstBare_48 rfl (Nat.le_of_ble_eq_true rfl) (ev9.trans (congrArg (l2 + ·) (by decide))) rfl ?_
        refine j_goto C 10 dX1_firstBare_51 (by decide) ?_
        refine j_sub [1, 2, 0] [(0, .ref (ad G (1, 0, 0, 0))), (1, .int l1), (2, .int v9)] rfl ?_
        exact ih l1 v9 D8 h
      · have h := ite_t c5 h
        refine j_aload_n C 0 dX1_firstBare_28 rfl rfl ?_
        refine j_getS C (6, 105, 0, 0) fl_X1_21 dX1_firstBare_29 (by decide) ⟨rfl, rfl⟩ rfl rfl ?_
        refine j_getI C fl_X1_91 dX1_firstBare_32 (by decide) ⟨rfl, rfl⟩ rfl ?_
        obtain ⟨rfl, rfl⟩ := pr_x h
        exact j_iret C dX1_firstBare_35
def F_X1_firstBare (a1 : Int32) (D : Dt) : Option (Int32 × Dt) := (vbd (F_X1_startOn 105 D) (fun D2 => (F_X1_firstBare_b10 a1 2000 a1 (0 : Int32) D2)))
set_option maxRecDepth 100000 in
set_option maxHeartbeats 4000000 in
theorem M_X1_firstBare {l : Launch} {G : Gt} {A : Nat → Prop} {lv : Nat} {a1 : Int32} {D : Dt} {r : Int32} {D' : Dt} (hG : Gok G A) (hlv : 6 ≤ lv)  (h : F_X1_firstBare a1 D = some (r, D')) : MD l G A lv yX1_firstBare cX1_firstBare 3 (some .int) [.ref (ad G (1, 0, 0, 0)), .int a1] D (some (.int r)) D' := by
  unfold F_X1_firstBare at h
  refine md_start RX1 hG (by decide +kernel) rfl (Nat.le_of_ble_eq_true rfl) (L := [(0, .ref (ad G (1, 0, 0, 0))), (1, .int a1)]) rfl (fun X C => ?_)
  refine j_aload_n C 0 dX1_firstBare_0 rfl rfl ?_
  refine j_aload_n C 0 dX1_firstBare_1 rfl rfl ?_
  refine j_getS C (6, 105, 0, 0) fl_X1_21 dX1_firstBare_2 (by decide) ⟨rfl, rfl⟩ rfl rfl ?_
  obtain ⟨D2, h1, h⟩ := vbd_x h
  refine j_callV C [.ref (ad G (6, 105, 0, 0))] [] cl_X1_81 (M_X1_startOn (lv := lv - 1) hG (by omega) h1) (by omega) dX1_firstBare_5 (by decide) ⟨rfl, rfl⟩ rfl rfl (Nat.le_of_ble_eq_true rfl) ?_
  refine j_st (st' := []) rfl ?_
  refine j_iconst C (0 : Int32) (by decide) dX1_firstBare_8 ?_
  refine j_istore_n C [(2, .int (0 : Int32)), (0, .ref (ad G (1, 0, 0, 0))), (1, .int a1)] dX1_firstBare_9 rfl (Nat.le_of_ble_eq_true rfl) rfl rfl ?_
  refine j_sub [1, 2, 0] [(0, .ref (ad G (1, 0, 0, 0))), (1, .int a1), (2, .int (0 : Int32))] rfl ?_
  refine T_X1_firstBare_b10 hG hlv  C  2000 a1 (0 : Int32) D2 h
def F_X1_tryRows_b10 (rc_X1_tryRows : Int32 → Int32 → Int32 → Dt → Option Dt) (a1 : Int32) (a2 : Int32) (a3 : Int32)  (l1 : Int32) (l3 : Int32) (D : Dt) : Option Dt := (grd (inB l1 5 = true) (grd (inB l3 5 = true) (if (D.1 (6, (106 + l1.toNatClampNeg), 4, 0) (l3.toNatClampNeg)) ≤ (D.1 (1, 0, 0, 0) 11) then (some D) else (bnd (setI D (1, 0, 0, 0) 11 (D.1 (6, (106 + l1.toNatClampNeg), 4, 0) (l3.toNatClampNeg))) (fun D5 => (vbd (F_X10_copyRow (1, 0, 6, 0) (1, 0, 7, 0) D5) (fun D7 => (some D7))))))))
set_option maxRecDepth 100000 in
set_option maxHeartbeats 4000000 in
theorem T_X1_tryRows_b10 {D' : Dt} {X : Ctx} {l : Launch} {G : Gt} {A : Nat → Prop} {lv : Nat} {rc_X1_tryRows : Int32 → Int32 → Int32 → Dt → Option Dt} {a1 : Int32} {a2 : Int32} {a3 : Int32}   (hG : Gok G A) (hlv : 6 ≤ lv)  (hrc_X1_tryRows : ∀ {b1 : Int32} {b2 : Int32} {b3 : Int32} {D : Dt} {D' : Dt}, rc_X1_tryRows b1 b2 b3 D = some D' → MD l G A (lv - 1) yX1_tryRows cX1_tryRows 6 none [.ref (ad G (1, 0, 0, 0)), .int b1, .int b2, .int b3] D none D') (C : Cx X cX1_tryRows RX1 G l A lv 6 none none D')  : ∀ (l1 : Int32) (l3 : Int32) (D : Dt), F_X1_tryRows_b10 rc_X1_tryRows a1 a2 a3 l1 l3 D = some D' → J X (Rep G D) 10 [(0, .ref (ad G (1, 0, 0, 0))), (1, .int l1), (3, .int l3)] [] := by
  intro l1 l3 D h
  unfold F_X1_tryRows_b10 at h
  refine j_aload_n C 0 dX1_tryRows_10 rfl rfl ?_
  refine j_getS C (1, 0, 5, 0) fl_X1_25 dX1_tryRows_11 (by decide) ⟨rfl, rfl⟩ rfl rfl ?_
  refine j_iload_n C 1 dX1_tryRows_14 rfl rfl ?_
  obtain ⟨g2, h⟩ := grd_x h
  refine j_aald C 8 5 (6, (106 + l1.toNatClampNeg), 0, 0) dX1_tryRows_15 (V_f 4 (by decide) (by decide)) rfl (by decide) g2 rfl ?_
  refine j_getS C (6, (106 + l1.toNatClampNeg), 4, 0) fl_X1_104 dX1_tryRows_16 (V_lev g2) ⟨rfl, rfl⟩ rfl rfl ?_
  refine j_iload_n C 2 dX1_tryRows_19 rfl rfl ?_
  obtain ⟨g3, h⟩ := grd_x h
  refine j_ialdK C 5 (l3.toNatClampNeg) dX1_tryRows_20 (V_f 3 (V_lev g2) (by decide)) rfl g3 rfl ?_
  refine j_aload_n C 0 dX1_tryRows_21 rfl rfl ?_
  refine j_getI C fl_X1_97 dX1_tryRows_22 (by decide) ⟨rfl, rfl⟩ rfl ?_
  refine j_icmp_le C 54 dX1_tryRows_25 (by decide) (fun c4 => ?_) (fun c4 => ?_)
  · have h := ite_t c4 h
    obtain rfl := Option.some.inj h
    exact j_vret C dX1_tryRows_54
  · have h := ite_f c4 h
    refine j_aload_n C 0 dX1_tryRows_28 rfl rfl ?_
    refine j_aload_n C 0 dX1_tryRows_29 rfl rfl ?_
    refine j_getS C (1, 0, 5, 0) fl_X1_25 dX1_tryRows_30 (by decide) ⟨rfl, rfl⟩ rfl rfl ?_
    refine j_iload_n C 1 dX1_tryRows_33 rfl rfl ?_
    refine j_aald C 8 5 (6, (106 + l1.toNatClampNeg), 0, 0) dX1_tryRows_34 (V_f 4 (by decide) (by decide)) rfl (by decide) g2 rfl ?_
    refine j_getS C (6, (106 + l1.toNatClampNeg), 4, 0) fl_X1_104 dX1_tryRows_35 (V_lev g2) ⟨rfl, rfl⟩ rfl rfl ?_
    refine j_iload_n C 2 dX1_tryRows_38 rfl rfl ?_
    refine j_ialdK C 5 (l3.toNatClampNeg) dX1_tryRows_39 (V_f 3 (V_lev g2) (by decide)) rfl g3 rfl ?_
    obtain ⟨D5, eD5, h⟩ := bnd_x h
    refine j_putI C fl_X1_97 dX1_tryRows_40 (by decide) ⟨rfl, rfl⟩ rfl rfl rfl ?_
    refine j_rep eD5 ?_
    refine j_aload_n C 0 dX1_tryRows_43 rfl rfl ?_
    refine j_getS C (1, 0, 6, 0) fl_X1_29 dX1_tryRows_44 (by decide) ⟨rfl, rfl⟩ rfl rfl ?_
    refine j_aload_n C 0 dX1_tryRows_47 rfl rfl ?_
    refine j_getS C (1, 0, 7, 0) fl_X1_33 dX1_tryRows_48 (by decide) ⟨rfl, rfl⟩ rfl rfl ?_
    obtain ⟨D7, h6, h⟩ := vbd_x h
    refine j_callS C [.ref (ad G (1, 0, 6, 0)), .ref (ad G (1, 0, 7, 0))] [] cl_X1_107 (M_X10_copyRow (lv := lv - 1) hG (by omega) h6) (by omega) dX1_tryRows_51 rfl rfl (Nat.le_of_ble_eq_true rfl) ?_
    refine j_st (st' := []) rfl ?_
    obtain rfl := Option.some.inj h
    exact j_vret C dX1_tryRows_54
def F_X1_tryRows_b157 (rc_X1_tryRows : Int32 → Int32 → Int32 → Dt → Option Dt) (a1 : Int32) (a2 : Int32) (a3 : Int32) (k68 : Int32 → Int32 → Int32 → Int32 → Dt → Option Dt) (l1 : Int32) (l2 : Int32) (l3 : Int32) (l5 : Int32) (D : Dt) : Option Dt := grd (V (6, (106 + (a1 + (1 : Int32)).toNatClampNeg), 0, 0) = true) ((bnd (l5 + (1 : Int32)) (fun v21 => (k68 l1 l2 l3 v21 D))))
set_option maxRecDepth 100000 in
set_option maxHeartbeats 4000000 in
theorem T_X1_tryRows_b157 {D' : Dt} {X : Ctx} {l : Launch} {G : Gt} {A : Nat → Prop} {lv : Nat} {rc_X1_tryRows : Int32 → Int32 → Int32 → Dt → Option Dt} {a1 : Int32} {a2 : Int32} {a3 : Int32}  {k68 : Int32 → Int32 → Int32 → Int32 → Dt → Option Dt} (hG : Gok G A) (hlv : 6 ≤ lv)  (hrc_X1_tryRows : ∀ {b1 : Int32} {b2 : Int32} {b3 : Int32} {D : Dt} {D' : Dt}, rc_X1_tryRows b1 b2 b3 D = some D' → MD l G A (lv - 1) yX1_tryRows cX1_tryRows 6 none [.ref (ad G (1, 0, 0, 0)), .int b1, .int b2, .int b3] D none D') (C : Cx X cX1_tryRows RX1 G l A lv 6 none none D') (hk68 : ∀ (l1 : Int32) (l2 : Int32) (l3 : Int32) (l5 : Int32) (D : Dt), k68 l1 l2 l3 l5 D = some D' → J X (Rep G D) 68 [(0, .ref (ad G (1, 0, 0, 0))), (1, .int l1), (2, .int l2), (3, .int l3), (4, .ref (ad G (6, (106 + (a1 + (1 : Int32)).toNatClampNeg), 0, 0))), (5, .int l5)] []) : ∀ (l1 : Int32) (l2 : Int32) (l3 : Int32) (l5 : Int32) (D : Dt), F_X1_tryRows_b157 rc_X1_tryRows a1 a2 a3 k68 l1 l2 l3 l5 D = some D' → J X (Rep G D) 157 [(0, .ref (ad G (1, 0, 0, 0))), (1, .int l1), (2, .int l2), (3, .int l3), (4, .ref (ad G (6, (106 + (a1 + (1 : Int32)).toNatClampNeg), 0, 0))), (5, .int l5)] [] := by
  intro l1 l2 l3 l5 D h
  unfold F_X1_tryRows_b157 at h
  obtain ⟨hvl4, h⟩ := grd_x h
  obtain ⟨v21, ev21, h⟩ := bnd_x h
  refine j_iinc C 5 [(5, .int v21), (0, .ref (ad G (1, 0, 0, 0))), (1, .int l1), (2, .int l2), (3, .int l3), (4, .ref (ad G (6, (106 + (a1 + (1 : Int32)).toNatClampNeg), 0, 0)))] dX1_tryRows_157 rfl (Nat.le_of_ble_eq_true rfl) (ev21.trans (congrArg (l5 + ·) (by decide))) rfl ?_
  refine j_goto C 68 dX1_tryRows_160 (by decide) ?_
  refine j_sub [1, 2, 3, 4, 5, 0] [(0, .ref (ad G (1, 0, 0, 0))), (1, .int l1), (2, .int l2), (3, .int l3), (4, .ref (ad G (6, (106 + (a1 + (1 : Int32)).toNatClampNeg), 0, 0))), (5, .int v21)] rfl ?_
  exact hk68 l1 l2 l3 v21 D h
def F_X1_tryRows_b68 (rc_X1_tryRows : Int32 → Int32 → Int32 → Dt → Option Dt) (a1 : Int32) (a2 : Int32) (a3 : Int32)  : Nat → Int32 → Int32 → Int32 → Int32 → Dt → Option Dt
  | 0, _, _, _, _, _ => none
  | f + 1, l1, l2, l3, l5, D => grd (V (6, (106 + (a1 + (1 : Int32)).toNatClampNeg), 0, 0) = true) ((if (D.1 (5, 0, 0, 0) 3) ≤ l5 then (some D) else (if l5 = l3 then (F_X1_tryRows_b157 rc_X1_tryRows a1 a2 a3 (fun l1_36 l2_37 l3_38 l5_39 D40 => (grd (V (6, (106 + (a1 + (1 : Int32)).toNatClampNeg), 0, 0) = true) (F_X1_tryRows_b68 rc_X1_tryRows a1 a2 a3 f l1_36 l2_37 l3_38 l5_39 D40))) l1 l2 l3 l5 D) else (grd (inB l1 5 = true) (vbd (F_X6_copyFrom (106 + (a1 + (1 : Int32)).toNatClampNeg) (106 + l1.toNatClampNeg) D) (fun D14 => (bnd (setI D14 (8, 1, 0, 0) 5 l5) (fun D15 => (bnd (setI D15 (8, 1, 0, 0) 6 (0 : Int32)) (fun D16 => (cbd (F_X8_pass 1 (106 + (a1 + (1 : Int32)).toNatClampNeg) D16) (fun r18 D19 => (if (D19.1 (8, 1, 0, 0) 6) = 0 then (grd (inB l1 4 = true) (bnd (setI D19 (1, 0, 6, 0) (l1.toNatClampNeg) l5) (fun D28 => (vbd (rc_X1_tryRows (l1 + (1 : Int32)) l2 l3 D28) (fun D30 => (F_X1_tryRows_b157 rc_X1_tryRows a1 a2 a3 (fun l1_31 l2_32 l3_33 l5_34 D35 => (grd (V (6, (106 + (a1 + (1 : Int32)).toNatClampNeg), 0, 0) = true) (F_X1_tryRows_b68 rc_X1_tryRows a1 a2 a3 f l1_31 l2_32 l3_33 l5_34 D35))) l1 l2 l3 l5 D30)))))) else (F_X1_tryRows_b157 rc_X1_tryRows a1 a2 a3 (fun l1_22 l2_23 l3_24 l5_25 D26 => (grd (V (6, (106 + (a1 + (1 : Int32)).toNatClampNeg), 0, 0) = true) (F_X1_tryRows_b68 rc_X1_tryRows a1 a2 a3 f l1_22 l2_23 l3_24 l5_25 D26))) l1 l2 l3 l5 D19))))))))))))))
set_option maxRecDepth 100000 in
set_option maxHeartbeats 4000000 in
theorem T_X1_tryRows_b68 {D' : Dt} {X : Ctx} {l : Launch} {G : Gt} {A : Nat → Prop} {lv : Nat} {rc_X1_tryRows : Int32 → Int32 → Int32 → Dt → Option Dt} {a1 : Int32} {a2 : Int32} {a3 : Int32}   (hG : Gok G A) (hlv : 6 ≤ lv)  (hrc_X1_tryRows : ∀ {b1 : Int32} {b2 : Int32} {b3 : Int32} {D : Dt} {D' : Dt}, rc_X1_tryRows b1 b2 b3 D = some D' → MD l G A (lv - 1) yX1_tryRows cX1_tryRows 6 none [.ref (ad G (1, 0, 0, 0)), .int b1, .int b2, .int b3] D none D') (C : Cx X cX1_tryRows RX1 G l A lv 6 none none D')  : ∀ (f : Nat) (l1 : Int32) (l2 : Int32) (l3 : Int32) (l5 : Int32) (D : Dt), F_X1_tryRows_b68 rc_X1_tryRows a1 a2 a3 f l1 l2 l3 l5 D = some D' → J X (Rep G D) 68 [(0, .ref (ad G (1, 0, 0, 0))), (1, .int l1), (2, .int l2), (3, .int l3), (4, .ref (ad G (6, (106 + (a1 + (1 : Int32)).toNatClampNeg), 0, 0))), (5, .int l5)] [] := by
  intro f
  induction f with
  | zero =>
    intro l1 l2 l3 l5 D h
    exact nomatch h
  | succ f ih =>
    intro l1 l2 l3 l5 D h
    rw [F_X1_tryRows_b68] at h
    obtain ⟨hvl4, h⟩ := grd_x h
    refine j_iload C 5 dX1_tryRows_68 rfl ?_
    refine j_aload_n C 0 dX1_tryRows_70 rfl rfl ?_
    refine j_getS C (9, 0, 0, 0) fl_X1_48 dX1_tryRows_71 (by decide) ⟨rfl, rfl⟩ rfl rfl ?_
    refine j_getS C (5, 0, 0, 0) fl_X1_65 dX1_tryRows_74 (by decide) ⟨rfl, rfl⟩ rfl rfl ?_
    refine j_getI C fl_X1_111 dX1_tryRows_77 (V_95 (by decide)) ⟨rfl, rfl⟩ rfl ?_
    refine j_icmp_ge C 163 dX1_tryRows_80 (by decide) (fun c10 => ?_) (fun c10 => ?_)
    · have h := ite_t c10 h
      obtain rfl := Option.some.inj h
      exact j_vret C dX1_tryRows_163
    · have h := ite_f c10 h
      refine j_iload C 5 dX1_tryRows_83 rfl ?_
      refine j_iload_n C 3 dX1_tryRows_85 rfl rfl ?_
      refine j_icmp_ne C 92 dX1_tryRows_86 (by decide) (fun c11 => ?_) (fun c11 => ?_)
      · have h := ite_f c11 h
        refine j_aload C 4 dX1_tryRows_92 rfl ?_
        refine j_aload_n C 0 dX1_tryRows_94 rfl rfl ?_
        refine j_getS C (1, 0, 5, 0) fl_X1_25 dX1_tryRows_95 (by decide) ⟨rfl, rfl⟩ rfl rfl ?_
        refine j_iload_n C 1 dX1_tryRows_98 rfl rfl ?_
        obtain ⟨g12, h⟩ := grd_x h
        refine j_aald C 8 5 (6, (106 + l1.toNatClampNeg), 0, 0) dX1_tryRows_99 (V_f 4 (by decide) (by decide)) rfl (by decide) g12 rfl ?_
        obtain ⟨D14, h13, h⟩ := vbd_x h
        refine j_callV C [.ref (ad G (6, (106 + l1.toNatClampNeg), 0, 0))] [] cl_X1_61 (M_X6_copyFrom (lv := lv - 1) hG (by omega) h13) (by omega) dX1_tryRows_100 hvl4 ⟨rfl, rfl⟩ rfl rfl (Nat.le_of_ble_eq_true rfl) ?_
        refine j_st (st' := []) rfl ?_
        refine j_aload_n C 0 dX1_tryRows_103 rfl rfl ?_
        refine j_getS C (8, 1, 0, 0) fl_X1_12 dX1_tryRows_104 (by decide) ⟨rfl, rfl⟩ rfl rfl ?_
        refine j_iload C 5 dX1_tryRows_107 rfl ?_
        obtain ⟨D15, eD15, h⟩ := bnd_x h
        refine j_putI C fl_X1_116 dX1_tryRows_109 (by decide) ⟨rfl, rfl⟩ rfl rfl rfl ?_
        refine j_rep eD15 ?_
        refine j_aload_n C 0 dX1_tryRows_112 rfl rfl ?_
        refine j_getS C (8, 1, 0, 0) fl_X1_12 dX1_tryRows_113 (by decide) ⟨rfl, rfl⟩ rfl rfl ?_
        refine j_iconst C (0 : Int32) (by decide) dX1_tryRows_116 ?_
        obtain ⟨D16, eD16, h⟩ := bnd_x h
        refine j_putZ C fl_X1_119 dX1_tryRows_117 (by decide) ⟨rfl, rfl⟩ rfl rfl rfl (Or.inl rfl) ?_
        refine j_rep eD16 ?_
        refine j_aload_n C 0 dX1_tryRows_120 rfl rfl ?_
        refine j_getS C (8, 1, 0, 0) fl_X1_12 dX1_tryRows_121 (by decide) ⟨rfl, rfl⟩ rfl rfl ?_
        refine j_aload C 4 dX1_tryRows_124 rfl ?_
        obtain ⟨r18, D19, h17, h⟩ := cbd_x h
        refine j_callV C [.ref (ad G (6, (106 + (a1 + (1 : Int32)).toNatClampNeg), 0, 0))] [] cl_X1_84 (M_X8_pass (lv := lv - 1) hG (by omega) h17) (by omega) dX1_tryRows_126 (by decide) ⟨rfl, rfl⟩ rfl rfl (Nat.le_of_ble_eq_true rfl) ?_
        refine j_st (st' := [.int r18]) rfl ?_
        refine j_pop C rfl dX1_tryRows_129 ?_
        refine j_aload_n C 0 dX1_tryRows_130 rfl rfl ?_
        refine j_getS C (8, 1, 0, 0) fl_X1_12 dX1_tryRows_131 (by decide) ⟨rfl, rfl⟩ rfl rfl ?_
        refine j_getI C fl_X1_119 dX1_tryRows_134 (by decide) ⟨rfl, rfl⟩ rfl ?_
        refine j_if_ne C 157 dX1_tryRows_137 (by decide) (fun c20 => ?_) (fun c20 => ?_)
        · have h := ite_f c20 h
          refine T_X1_tryRows_b157 hG hlv hrc_X1_tryRows C (fun l1_22 l2_23 l3_24 l5_25 D26 h => ?_) l1 l2 l3 l5 D19 h
          · obtain ⟨hvl4, h⟩ := grd_x h
            exact ih l1_22 l2_23 l3_24 l5_25 D26 h
        · have h := ite_t c20 h
          refine j_aload_n C 0 dX1_tryRows_140 rfl rfl ?_
          refine j_getS C (1, 0, 6, 0) fl_X1_29 dX1_tryRows_141 (by decide) ⟨rfl, rfl⟩ rfl rfl ?_
          refine j_iload_n C 1 dX1_tryRows_144 rfl rfl ?_
          refine j_iload C 5 dX1_tryRows_145 rfl ?_
          obtain ⟨g27, h⟩ := grd_x h
          obtain ⟨D28, eD28, h⟩ := bnd_x h
          refine j_iastK C 4 (l1.toNatClampNeg) dX1_tryRows_147 (V_f 5 (by decide) (by decide)) rfl g27 rfl ?_
          refine j_rep eD28 ?_
          refine j_aload_n C 0 dX1_tryRows_148 rfl rfl ?_
          refine j_iload_n C 1 dX1_tryRows_149 rfl rfl ?_
          refine j_iconst C (1 : Int32) (by decide) dX1_tryRows_150 ?_
          refine j_iadd C dX1_tryRows_151 ?_
          refine j_iload_n C 2 dX1_tryRows_152 rfl rfl ?_
          refine j_iload_n C 3 dX1_tryRows_153 rfl rfl ?_
          obtain ⟨D30, h29, h⟩ := vbd_x h
          refine j_callV C [.int (l1 + (1 : Int32)), .int l2, .int l3] [] cl_X1_100 (hrc_X1_tryRows h29) (by omega) dX1_tryRows_154 (by decide) ⟨rfl, rfl⟩ rfl rfl (Nat.le_of_ble_eq_true rfl) ?_
          refine j_st (st' := []) rfl ?_
          refine T_X1_tryRows_b157 hG hlv hrc_X1_tryRows C (fun l1_31 l2_32 l3_33 l5_34 D35 h => ?_) l1 l2 l3 l5 D30 h
          · obtain ⟨hvl4, h⟩ := grd_x h
            exact ih l1_31 l2_32 l3_33 l5_34 D35 h
      · have h := ite_t c11 h
        refine j_goto C 157 dX1_tryRows_89 (by decide) ?_
        refine T_X1_tryRows_b157 hG hlv hrc_X1_tryRows C (fun l1_36 l2_37 l3_38 l5_39 D40 h => ?_) l1 l2 l3 l5 D h
        · obtain ⟨hvl4, h⟩ := grd_x h
          exact ih l1_36 l2_37 l3_38 l5_39 D40 h
def FG_X1_tryRows (rc_X1_tryRows : Int32 → Int32 → Int32 → Dt → Option Dt) (a1 : Int32) (a2 : Int32) (a3 : Int32) (D : Dt) : Option Dt := (if a2 ≤ a1 then (F_X1_tryRows_b10 rc_X1_tryRows a1 a2 a3 a1 a3 D) else (if a1 < (4 : Int32) then (grd (inB (a1 + (1 : Int32)) 5 = true) (F_X1_tryRows_b68 rc_X1_tryRows a1 a2 a3 2000 a1 a2 a3 (-1 : Int32) D)) else (F_X1_tryRows_b10 rc_X1_tryRows a1 a2 a3 a1 a3 D)))
set_option maxRecDepth 100000 in
set_option maxHeartbeats 4000000 in
theorem MG_X1_tryRows {l : Launch} {G : Gt} {A : Nat → Prop} {lv : Nat} {rc_X1_tryRows : Int32 → Int32 → Int32 → Dt → Option Dt} {a1 : Int32} {a2 : Int32} {a3 : Int32} {D : Dt} {D' : Dt} (hG : Gok G A) (hlv : 6 ≤ lv) (hrc_X1_tryRows : ∀ {b1 : Int32} {b2 : Int32} {b3 : Int32} {D : Dt} {D' : Dt}, rc_X1_tryRows b1 b2 b3 D = some D' → MD l G A (lv - 1) yX1_tryRows cX1_tryRows 6 none [.ref (ad G (1, 0, 0, 0)), .int b1, .int b2, .int b3] D none D') (h : FG_X1_tryRows rc_X1_tryRows a1 a2 a3 D = some D') : MD l G A lv yX1_tryRows cX1_tryRows 6 none [.ref (ad G (1, 0, 0, 0)), .int a1, .int a2, .int a3] D none D' := by
  unfold FG_X1_tryRows at h
  refine md_start RX1 hG (by decide +kernel) rfl (Nat.le_of_ble_eq_true rfl) (L := [(0, .ref (ad G (1, 0, 0, 0))), (1, .int a1), (2, .int a2), (3, .int a3)]) rfl (fun X C => ?_)
  refine j_iload_n C 1 dX1_tryRows_0 rfl rfl ?_
  refine j_iload_n C 2 dX1_tryRows_1 rfl rfl ?_
  refine j_icmp_ge C 10 dX1_tryRows_2 (by decide) (fun c1 => ?_) (fun c1 => ?_)
  · have h := ite_t c1 h
    refine j_sub [0, 1, 3] [(0, .ref (ad G (1, 0, 0, 0))), (1, .int a1), (3, .int a3)] rfl ?_
    refine T_X1_tryRows_b10 hG hlv hrc_X1_tryRows C  a1 a3 D h
  · have h := ite_f c1 h
    refine j_iload_n C 1 dX1_tryRows_5 rfl rfl ?_
    refine j_iconst C (4 : Int32) (by decide) dX1_tryRows_6 ?_
    refine j_icmp_lt C 55 dX1_tryRows_7 (by decide) (fun c8 => ?_) (fun c8 => ?_)
    · have h := ite_t c8 h
      refine j_aload_n C 0 dX1_tryRows_55 rfl rfl ?_
      refine j_getS C (1, 0, 5, 0) fl_X1_25 dX1_tryRows_56 (by decide) ⟨rfl, rfl⟩ rfl rfl ?_
      refine j_iload_n C 1 dX1_tryRows_59 rfl rfl ?_
      refine j_iconst C (1 : Int32) (by decide) dX1_tryRows_60 ?_
      refine j_iadd C dX1_tryRows_61 ?_
      obtain ⟨g9, h⟩ := grd_x h
      refine j_aald C 8 5 (6, (106 + (a1 + (1 : Int32)).toNatClampNeg), 0, 0) dX1_tryRows_62 (V_f 4 (by decide) (by decide)) rfl (by decide) g9 rfl ?_
      refine j_astore C [(4, .ref (ad G (6, (106 + (a1 + (1 : Int32)).toNatClampNeg), 0, 0))), (0, .ref (ad G (1, 0, 0, 0))), (1, .int a1), (2, .int a2), (3, .int a3)] dX1_tryRows_63 (Nat.le_of_ble_eq_true rfl) rfl rfl ?_
      refine j_iconst C (-1 : Int32) (by decide) dX1_tryRows_65 ?_
      refine j_istore C [(5, .int (-1 : Int32)), (4, .ref (ad G (6, (106 + (a1 + (1 : Int32)).toNatClampNeg), 0, 0))), (0, .ref (ad G (1, 0, 0, 0))), (1, .int a1), (2, .int a2), (3, .int a3)] dX1_tryRows_66 (Nat.le_of_ble_eq_true rfl) rfl rfl ?_
      refine j_sub [2, 3, 4, 5, 1, 0] [(0, .ref (ad G (1, 0, 0, 0))), (1, .int a1), (2, .int a2), (3, .int a3), (4, .ref (ad G (6, (106 + (a1 + (1 : Int32)).toNatClampNeg), 0, 0))), (5, .int (-1 : Int32))] rfl ?_
      refine T_X1_tryRows_b68 hG hlv hrc_X1_tryRows C  2000 a1 a2 a3 (-1 : Int32) D h
    · have h := ite_f c8 h
      refine j_sub [0, 1, 3] [(0, .ref (ad G (1, 0, 0, 0))), (1, .int a1), (3, .int a3)] rfl ?_
      refine T_X1_tryRows_b10 hG hlv hrc_X1_tryRows C  a1 a3 D h
def F_X1_tryRows_f : Nat → Int32 → Int32 → Int32 → Dt → Option Dt
  | 0, _, _, _, _ => none
  | n + 1, b1, b2, b3, D => FG_X1_tryRows (F_X1_tryRows_f n) b1 b2 b3 D
theorem M_X1_tryRows_f {l : Launch} {G : Gt} {A : Nat → Prop} (hG : Gok G A) : ∀ (n : Nat) {lv : Nat}, 6 + n ≤ lv → ∀ {b1 : Int32} {b2 : Int32} {b3 : Int32} {D : Dt} {D' : Dt}, F_X1_tryRows_f n b1 b2 b3 D = some D' → MD l G A lv yX1_tryRows cX1_tryRows 6 none [.ref (ad G (1, 0, 0, 0)), .int b1, .int b2, .int b3] D none D' := by
  intro n
  induction n with
  | zero =>
    intro lv hlv b1 b2 b3 D D' h
    exact nomatch h
  | succ n ih =>
    intro lv hlv b1 b2 b3 D D' h
    exact MG_X1_tryRows hG (by omega) (fun h => ih (by omega) h) h
def F_X1_tryRows (b1 : Int32) (b2 : Int32) (b3 : Int32) (D : Dt) : Option Dt := F_X1_tryRows_f 40 b1 b2 b3 D
theorem M_X1_tryRows {l : Launch} {G : Gt} {A : Nat → Prop} {lv : Nat} {b1 : Int32} {b2 : Int32} {b3 : Int32} {D : Dt} {D' : Dt} (hG : Gok G A) (hlv : 46 ≤ lv) (h : F_X1_tryRows b1 b2 b3 D = some D') : MD l G A lv yX1_tryRows cX1_tryRows 6 none [.ref (ad G (1, 0, 0, 0)), .int b1, .int b2, .int b3] D none D' := M_X1_tryRows_f hG 40 (by omega) h
