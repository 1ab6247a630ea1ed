/-! ===== the law's own loop ===== -/
/-- the law's script -/
def Scr (X : Ctx) (b L : Nat) (xs : Nat → Int32) : Prop := match X with
  | (p, l, e, R, s, m, args, below, meth, c, A, nL, Q, cs, sl) => va_X b L xs s s.heap ∧ b < s.heap.size ∧ ¬ A b
section LR
variable {X : Ctx} {cc : ByteArray} {own : String} {G : Gt} {l0 : Launch} {A0 : Nat → Prop} {lv n0 : Nat} {rt : Option FieldType} {r : Option Value} {D' : Dt} {pc : Nat} {L : List (Nat × Value)} {st : List Value} {D : Dt} {b Ln : Nat} {xs : Nat → Int32}
theorem j_scl (C : Cx X cc own G l0 A0 lv n0 rt r D') (hS : Scr X b Ln xs) (hd : decode cc pc = .ok (.arraylength, 1)) (kk : J X (Rep G D) (pc + 1) L (.int (Int32.ofNat Ln) :: st)) : J X (Rep G D) pc L (.ref b :: st) := by
  obtain ⟨p, l, e, R, s, m, args, below, meth, c, A, nL, Q, cs, sl⟩ := X
  obtain ⟨hx, hb, hml, hown, hts, hlk, hK, hG, hR, hr, hQ, hl0, hA0, hn0, hSx⟩ := C
  obtain ⟨hX, hbl, hbA⟩ := hS
  intro H locs ls h1 h2 h3
  exact va_slen hx hb hX hbl hbA h2 hd (kk H locs ls h1 h2 h3)
theorem j_scr (C : Cx X cc own G l0 A0 lv n0 rt r D') {i : Int32} (hS : Scr X b Ln xs) (hin : inB i Ln = true) (hd : decode cc pc = .ok (.iaload, 1)) (kk : J X (Rep G D) (pc + 1) L (.int (xs i.toNatClampNeg) :: st)) : J X (Rep G D) pc L (.int i :: .ref b :: st) := by
  obtain ⟨p, l, e, R, s, m, args, below, meth, c, A, nL, Q, cs, sl⟩ := X
  obtain ⟨hx, hb, hml, hown, hts, hlk, hK, hG, hR, hr, hQ, hl0, hA0, hn0, hSx⟩ := C
  obtain ⟨hX, hbl, hbA⟩ := hS
  intro H locs ls h1 h2 h3
  exact va_sld hx hb hX hbl hbA h2 (inB_in hin) hd (kk H locs ls h1 h2 h3)
end LR
theorem tm_cX10_ahead : Cond.code yX10_ahead cX10_ahead 5 (some .int) ∈ tg := tg_of (tbl_4 (List.mem_of_getElem? (i := 148) (by decide +kernel))) (by decide +kernel)
theorem tm_cX10_back : Cond.code yX10_back cX10_back 2 (some .int) ∈ tg := tg_of (tbl_5 (List.mem_of_getElem? (i := 127) (by decide +kernel))) (by decide +kernel)
theorem tm_cX10_bare : Cond.code yX10_bare cX10_bare 2 (some .int) ∈ tg := tg_of (tbl_4 (List.mem_of_getElem? (i := 164) (by decide +kernel))) (by decide +kernel)
theorem tm_cX10_best : Cond.code yX10_best cX10_best 3 (some .int) ∈ tg := tg_of (tbl_4 (List.mem_of_getElem? (i := 185) (by decide +kernel))) (by decide +kernel)
theorem tm_cX10_count : Cond.code yX10_count cX10_count 2 (some .int) ∈ tg := tg_of (tbl_5 (List.mem_of_getElem? (i := 108) (by decide +kernel))) (by decide +kernel)
theorem tm_cX10_end : Cond.code yX10_end cX10_end 2 (some .int) ∈ tg := tg_of (tbl_2 (List.mem_of_getElem? (i := 193) (by decide +kernel))) (by decide +kernel)
theorem tm_cX10_feed : Cond.code yX10_feed cX10_feed 6 (some .int) ∈ tg := tg_of (tbl_2 (List.mem_of_getElem? (i := 185) (by decide +kernel))) (by decide +kernel)
theorem tm_cX10_fight : Cond.code yX10_fight cX10_fight 6 (some .int) ∈ tg := tg_of (tbl_4 (List.mem_of_getElem? (i := 132) (by decide +kernel))) (by decide +kernel)
theorem tm_cX10_force : Cond.code yX10_force cX10_force 3 (some .int) ∈ tg := tg_of (tbl_4 (List.mem_of_getElem? (i := 2) (by decide +kernel))) (by decide +kernel)
theorem tm_cX10_game : Cond.code yX10_game cX10_game 5 (some .int) ∈ tg := tg_of (tbl_4 (List.mem_of_getElem? (i := 237) (by decide +kernel))) (by decide +kernel)
theorem tm_cX10_give : Cond.code yX10_give cX10_give 4 (some .int) ∈ tg := tg_of (tbl_4 (List.mem_of_getElem? (i := 127) (by decide +kernel))) (by decide +kernel)
theorem tm_cX10_image : Cond.code yX10_image cX10_image 2 (some .int) ∈ tg := tg_of (tbl_5 (List.mem_of_getElem? (i := 113) (by decide +kernel))) (by decide +kernel)
theorem tm_cX10_land : Cond.code yX10_land cX10_land 3 (some .int) ∈ tg := tg_of (tbl_4 (List.mem_of_getElem? (i := 6) (by decide +kernel))) (by decide +kernel)
theorem tm_cX10_look : Cond.code yX10_look cX10_look 3 (some .int) ∈ tg := tg_of (tbl_5 (List.mem_of_getElem? (i := 78) (by decide +kernel))) (by decide +kernel)
theorem tm_cX10_mother : Cond.code yX10_mother cX10_mother 3 (some .int) ∈ tg := tg_of (tbl_5 (List.mem_of_getElem? (i := 30) (by decide +kernel))) (by decide +kernel)
theorem tm_cX10_need : Cond.code yX10_need cX10_need 4 (some .int) ∈ tg := tg_of (tbl_4 (List.mem_of_getElem? (i := 228) (by decide +kernel))) (by decide +kernel)
theorem tm_cX10_note : Cond.code yX10_note cX10_note 4 (some .int) ∈ tg := tg_of (tbl_5 (List.mem_of_getElem? (i := 47) (by decide +kernel))) (by decide +kernel)
theorem tm_cX10_parts : Cond.code yX10_parts cX10_parts 3 (some .int) ∈ tg := tg_of (tbl_5 (List.mem_of_getElem? (i := 38) (by decide +kernel))) (by decide +kernel)
theorem tm_cX10_quiet : Cond.code yX10_quiet cX10_quiet 1 (some .int) ∈ tg := tg_of (tbl_4 (List.mem_of_getElem? (i := 210) (by decide +kernel))) (by decide +kernel)
theorem tm_cX10_row : Cond.code yX10_row cX10_row 4 (some .int) ∈ tg := tg_of (tbl_4 (List.mem_of_getElem? (i := 172) (by decide +kernel))) (by decide +kernel)
theorem tm_cX10_rule : Cond.code yX10_rule cX10_rule 2 (some .int) ∈ tg := tg_of (tbl_3 (List.mem_of_getElem? (i := 192) (by decide +kernel))) (by decide +kernel)
theorem tm_cX10_ruled : Cond.code yX10_ruled cX10_ruled 2 (some .int) ∈ tg := tg_of (tbl_5 (List.mem_of_getElem? (i := 55) (by decide +kernel))) (by decide +kernel)
theorem tm_cX10_seed : Cond.code yX10_seed cX10_seed 3 (some .int) ∈ tg := tg_of (tbl_5 (List.mem_of_getElem? (i := 90) (by decide +kernel))) (by decide +kernel)
theorem tm_cX10_set : Cond.code yX10_set cX10_set 3 (some .int) ∈ tg := tg_of (tbl_4 (List.mem_of_getElem? (i := 136) (by decide +kernel))) (by decide +kernel)
theorem tm_cX10_shun : Cond.code yX10_shun cX10_shun 3 (some .int) ∈ tg := tg_of (tbl_5 (List.mem_of_getElem? (i := 11) (by decide +kernel))) (by decide +kernel)
theorem tm_cX10_summers : Cond.code yX10_summers cX10_summers 5 (some .int) ∈ tg := tg_of (tbl_5 (List.mem_of_getElem? (i := 94) (by decide +kernel))) (by decide +kernel)
theorem tm_cX10_swap : Cond.code yX10_swap cX10_swap 3 (some .int) ∈ tg := tg_of (tbl_4 (List.mem_of_getElem? (i := 117) (by decide +kernel))) (by decide +kernel)
theorem tm_cX10_table : Cond.code yX10_table cX10_table 2 (some .int) ∈ tg := tg_of (tbl_2 (List.mem_of_getElem? (i := 200) (by decide +kernel))) (by decide +kernel)
theorem tm_cX10_told : Cond.code yX10_told cX10_told 3 (some .int) ∈ tg := tg_of (tbl_4 (List.mem_of_getElem? (i := 22) (by decide +kernel))) (by decide +kernel)
theorem tm_cX10_undo : Cond.code yX10_undo cX10_undo 1 (some .int) ∈ tg := tg_of (tbl_4 (List.mem_of_getElem? (i := 140) (by decide +kernel))) (by decide +kernel)
theorem tm_cX10_week : Cond.code yX10_week cX10_week 1 (some .int) ∈ tg := tg_of (tbl_4 (List.mem_of_getElem? (i := 26) (by decide +kernel))) (by decide +kernel)
theorem tm_cX10_worth : Cond.code yX10_worth cX10_worth 4 (some .int) ∈ tg := tg_of (tbl_4 (List.mem_of_getElem? (i := 218) (by decide +kernel))) (by decide +kernel)
theorem tm_cX11_ahead : Cond.code yX11_ahead cX11_ahead 5 (some .int) ∈ tg := tg_of (tbl_7 (List.mem_of_getElem? (i := 114) (by decide +kernel))) (by decide +kernel)
theorem tm_cX11_back : Cond.code yX11_back cX11_back 2 (some .int) ∈ tg := tg_of (tbl_8 (List.mem_of_getElem? (i := 19) (by decide +kernel))) (by decide +kernel)
theorem tm_cX11_bare : Cond.code yX11_bare cX11_bare 4 (some .int) ∈ tg := tg_of (tbl_7 (List.mem_of_getElem? (i := 140) (by decide +kernel))) (by decide +kernel)
theorem tm_cX11_best : Cond.code yX11_best cX11_best 7 (some .int) ∈ tg := tg_of (tbl_7 (List.mem_of_getElem? (i := 153) (by decide +kernel))) (by decide +kernel)
theorem tm_cX11_count : Cond.code yX11_count cX11_count 2 (some .int) ∈ tg := tg_of (tbl_8 (List.mem_of_getElem? (i := 11) (by decide +kernel))) (by decide +kernel)
theorem tm_cX11_end : Cond.code yX11_end cX11_end 2 (some .int) ∈ tg := tg_of (tbl_6 (List.mem_of_getElem? (i := 79) (by decide +kernel))) (by decide +kernel)
theorem tm_cX11_feed : Cond.code yX11_feed cX11_feed 6 (some .int) ∈ tg := tg_of (tbl_6 (List.mem_of_getElem? (i := 71) (by decide +kernel))) (by decide +kernel)
theorem tm_cX11_fight : Cond.code yX11_fight cX11_fight 4 (some .int) ∈ tg := tg_of (tbl_7 (List.mem_of_getElem? (i := 105) (by decide +kernel))) (by decide +kernel)
theorem tm_cX11_force : Cond.code yX11_force cX11_force 3 (some .int) ∈ tg := tg_of (tbl_6 (List.mem_of_getElem? (i := 234) (by decide +kernel))) (by decide +kernel)
theorem tm_cX11_game : Cond.code yX11_game cX11_game 7 (some .int) ∈ tg := tg_of (tbl_7 (List.mem_of_getElem? (i := 183) (by decide +kernel))) (by decide +kernel)
theorem tm_cX11_give : Cond.code yX11_give cX11_give 4 (some .int) ∈ tg := tg_of (tbl_7 (List.mem_of_getElem? (i := 100) (by decide +kernel))) (by decide +kernel)
theorem tm_cX11_image : Cond.code yX11_image cX11_image 2 (some .int) ∈ tg := tg_of (tbl_8 (List.mem_of_getElem? (i := 15) (by decide +kernel))) (by decide +kernel)
theorem tm_cX11_land : Cond.code yX11_land cX11_land 3 (some .int) ∈ tg := tg_of (tbl_6 (List.mem_of_getElem? (i := 239) (by decide +kernel))) (by decide +kernel)
theorem tm_cX11_look : Cond.code yX11_look cX11_look 6 (some .int) ∈ tg := tg_of (tbl_7 (List.mem_of_getElem? (i := 222) (by decide +kernel))) (by decide +kernel)
theorem tm_cX11_mother : Cond.code yX11_mother cX11_mother 7 (some .int) ∈ tg := tg_of (tbl_7 (List.mem_of_getElem? (i := 202) (by decide +kernel))) (by decide +kernel)
theorem tm_cX11_need : Cond.code yX11_need cX11_need 6 (some .int) ∈ tg := tg_of (tbl_7 (List.mem_of_getElem? (i := 178) (by decide +kernel))) (by decide +kernel)
theorem tm_cX11_note : Cond.code yX11_note cX11_note 5 (some .int) ∈ tg := tg_of (tbl_7 (List.mem_of_getElem? (i := 210) (by decide +kernel))) (by decide +kernel)
theorem tm_cX11_parts : Cond.code yX11_parts cX11_parts 8 (some .int) ∈ tg := tg_of (tbl_7 (List.mem_of_getElem? (i := 206) (by decide +kernel))) (by decide +kernel)
theorem tm_cX11_quiet : Cond.code yX11_quiet cX11_quiet 5 (some .int) ∈ tg := tg_of (tbl_7 (List.mem_of_getElem? (i := 165) (by decide +kernel))) (by decide +kernel)
theorem tm_cX11_row : Cond.code yX11_row cX11_row 8 (some .int) ∈ tg := tg_of (tbl_7 (List.mem_of_getElem? (i := 144) (by decide +kernel))) (by decide +kernel)
theorem tm_cX11_rule : Cond.code yX11_rule cX11_rule 3 (some .int) ∈ tg := tg_of (tbl_6 (List.mem_of_getElem? (i := 160) (by decide +kernel))) (by decide +kernel)
theorem tm_cX11_ruled : Cond.code yX11_ruled cX11_ruled 5 (some .int) ∈ tg := tg_of (tbl_7 (List.mem_of_getElem? (i := 214) (by decide +kernel))) (by decide +kernel)
theorem tm_cX11_seed : Cond.code yX11_seed cX11_seed 3 (some .int) ∈ tg := tg_of (tbl_7 (List.mem_of_getElem? (i := 230) (by decide +kernel))) (by decide +kernel)
theorem tm_cX11_set : Cond.code yX11_set cX11_set 3 (some .int) ∈ tg := tg_of (tbl_7 (List.mem_of_getElem? (i := 109) (by decide +kernel))) (by decide +kernel)
theorem tm_cX11_shun : Cond.code yX11_shun cX11_shun 7 (some .int) ∈ tg := tg_of (tbl_7 (List.mem_of_getElem? (i := 194) (by decide +kernel))) (by decide +kernel)
theorem tm_cX11_summers : Cond.code yX11_summers cX11_summers 11 (some .int) ∈ tg := tg_of (tbl_7 (List.mem_of_getElem? (i := 234) (by decide +kernel))) (by decide +kernel)
theorem tm_cX11_swap : Cond.code yX11_swap cX11_swap 3 (some .int) ∈ tg := tg_of (tbl_7 (List.mem_of_getElem? (i := 96) (by decide +kernel))) (by decide +kernel)
theorem tm_cX11_table : Cond.code yX11_table cX11_table 2 (some .int) ∈ tg := tg_of (tbl_6 (List.mem_of_getElem? (i := 83) (by decide +kernel))) (by decide +kernel)
theorem tm_cX11_told : Cond.code yX11_told cX11_told 3 (some .int) ∈ tg := tg_of (tbl_7 (List.mem_of_getElem? (i := 18) (by decide +kernel))) (by decide +kernel)
theorem tm_cX11_undo : Cond.code yX11_undo cX11_undo 1 (some .int) ∈ tg := tg_of (tbl_7 (List.mem_of_getElem? (i := 23) (by decide +kernel))) (by decide +kernel)
theorem tm_cX11_week : Cond.code yX11_week cX11_week 1 (some .int) ∈ tg := tg_of (tbl_7 (List.mem_of_getElem? (i := 39) (by decide +kernel))) (by decide +kernel)
theorem tm_cX11_worth : Cond.code yX11_worth cX11_worth 5 (some .int) ∈ tg := tg_of (tbl_7 (List.mem_of_getElem? (i := 169) (by decide +kernel))) (by decide +kernel)
theorem tm_mX10_ahead : Cond.instanceMethod yX10_ahead ∈ tg := tg_of (tbl_4 (List.mem_of_getElem? (i := 146) (by decide +kernel))) (by decide +kernel)
theorem tm_mX10_back : Cond.instanceMethod yX10_back ∈ tg := tg_of (tbl_5 (List.mem_of_getElem? (i := 125) (by decide +kernel))) (by decide +kernel)
theorem tm_mX10_bare : Cond.instanceMethod yX10_bare ∈ tg := tg_of (tbl_4 (List.mem_of_getElem? (i := 162) (by decide +kernel))) (by decide +kernel)
theorem tm_mX10_best : Cond.instanceMethod yX10_best ∈ tg := tg_of (tbl_4 (List.mem_of_getElem? (i := 183) (by decide +kernel))) (by decide +kernel)
theorem tm_mX10_count : Cond.instanceMethod yX10_count ∈ tg := tg_of (tbl_5 (List.mem_of_getElem? (i := 106) (by decide +kernel))) (by decide +kernel)
theorem tm_mX10_end : Cond.instanceMethod yX10_end ∈ tg := tg_of (tbl_2 (List.mem_of_getElem? (i := 191) (by decide +kernel))) (by decide +kernel)
theorem tm_mX10_feed : Cond.instanceMethod yX10_feed ∈ tg := tg_of (tbl_2 (List.mem_of_getElem? (i := 183) (by decide +kernel))) (by decide +kernel)
theorem tm_mX10_fight : Cond.instanceMethod yX10_fight ∈ tg := tg_of (tbl_4 (List.mem_of_getElem? (i := 130) (by decide +kernel))) (by decide +kernel)
theorem tm_mX10_force : Cond.instanceMethod yX10_force ∈ tg := tg_of (tbl_4 (List.mem_of_getElem? (i := 0) (by decide +kernel))) (by decide +kernel)
theorem tm_mX10_game : Cond.instanceMethod yX10_game ∈ tg := tg_of (tbl_4 (List.mem_of_getElem? (i := 235) (by decide +kernel))) (by decide +kernel)
theorem tm_mX10_give : Cond.instanceMethod yX10_give ∈ tg := tg_of (tbl_4 (List.mem_of_getElem? (i := 125) (by decide +kernel))) (by decide +kernel)
theorem tm_mX10_image : Cond.instanceMethod yX10_image ∈ tg := tg_of (tbl_5 (List.mem_of_getElem? (i := 111) (by decide +kernel))) (by decide +kernel)
theorem tm_mX10_land : Cond.instanceMethod yX10_land ∈ tg := tg_of (tbl_4 (List.mem_of_getElem? (i := 4) (by decide +kernel))) (by decide +kernel)
theorem tm_mX10_look : Cond.instanceMethod yX10_look ∈ tg := tg_of (tbl_5 (List.mem_of_getElem? (i := 76) (by decide +kernel))) (by decide +kernel)
theorem tm_mX10_mother : Cond.instanceMethod yX10_mother ∈ tg := tg_of (tbl_5 (List.mem_of_getElem? (i := 28) (by decide +kernel))) (by decide +kernel)
theorem tm_mX10_need : Cond.instanceMethod yX10_need ∈ tg := tg_of (tbl_4 (List.mem_of_getElem? (i := 226) (by decide +kernel))) (by decide +kernel)
theorem tm_mX10_note : Cond.instanceMethod yX10_note ∈ tg := tg_of (tbl_5 (List.mem_of_getElem? (i := 45) (by decide +kernel))) (by decide +kernel)
theorem tm_mX10_parts : Cond.instanceMethod yX10_parts ∈ tg := tg_of (tbl_5 (List.mem_of_getElem? (i := 36) (by decide +kernel))) (by decide +kernel)
theorem tm_mX10_quiet : Cond.instanceMethod yX10_quiet ∈ tg := tg_of (tbl_4 (List.mem_of_getElem? (i := 208) (by decide +kernel))) (by decide +kernel)
theorem tm_mX10_row : Cond.instanceMethod yX10_row ∈ tg := tg_of (tbl_4 (List.mem_of_getElem? (i := 170) (by decide +kernel))) (by decide +kernel)
theorem tm_mX10_rule : Cond.instanceMethod yX10_rule ∈ tg := tg_of (tbl_3 (List.mem_of_getElem? (i := 190) (by decide +kernel))) (by decide +kernel)
theorem tm_mX10_ruled : Cond.instanceMethod yX10_ruled ∈ tg := tg_of (tbl_5 (List.mem_of_getElem? (i := 53) (by decide +kernel))) (by decide +kernel)
theorem tm_mX10_seed : Cond.instanceMethod yX10_seed ∈ tg := tg_of (tbl_5 (List.mem_of_getElem? (i := 88) (by decide +kernel))) (by decide +kernel)
theorem tm_mX10_set : Cond.instanceMethod yX10_set ∈ tg := tg_of (tbl_4 (List.mem_of_getElem? (i := 134) (by decide +kernel))) (by decide +kernel)
theorem tm_mX10_shun : Cond.instanceMethod yX10_shun ∈ tg := tg_of (tbl_5 (List.mem_of_getElem? (i := 9) (by decide +kernel))) (by decide +kernel)
theorem tm_mX10_summers : Cond.instanceMethod yX10_summers ∈ tg := tg_of (tbl_5 (List.mem_of_getElem? (i := 92) (by decide +kernel))) (by decide +kernel)
theorem tm_mX10_swap : Cond.instanceMethod yX10_swap ∈ tg := tg_of (tbl_4 (List.mem_of_getElem? (i := 115) (by decide +kernel))) (by decide +kernel)
theorem tm_mX10_table : Cond.instanceMethod yX10_table ∈ tg := tg_of (tbl_2 (List.mem_of_getElem? (i := 198) (by decide +kernel))) (by decide +kernel)
theorem tm_mX10_told : Cond.instanceMethod yX10_told ∈ tg := tg_of (tbl_4 (List.mem_of_getElem? (i := 20) (by decide +kernel))) (by decide +kernel)
theorem tm_mX10_undo : Cond.instanceMethod yX10_undo ∈ tg := tg_of (tbl_4 (List.mem_of_getElem? (i := 138) (by decide +kernel))) (by decide +kernel)
theorem tm_mX10_week : Cond.instanceMethod yX10_week ∈ tg := tg_of (tbl_4 (List.mem_of_getElem? (i := 24) (by decide +kernel))) (by decide +kernel)
theorem tm_mX10_worth : Cond.instanceMethod yX10_worth ∈ tg := tg_of (tbl_4 (List.mem_of_getElem? (i := 216) (by decide +kernel))) (by decide +kernel)
theorem tm_mX11_ahead : Cond.instanceMethod yX11_ahead ∈ tg := tg_of (tbl_7 (List.mem_of_getElem? (i := 112) (by decide +kernel))) (by decide +kernel)
theorem tm_mX11_back : Cond.instanceMethod yX11_back ∈ tg := tg_of (tbl_8 (List.mem_of_getElem? (i := 17) (by decide +kernel))) (by decide +kernel)
theorem tm_mX11_bare : Cond.instanceMethod yX11_bare ∈ tg := tg_of (tbl_7 (List.mem_of_getElem? (i := 138) (by decide +kernel))) (by decide +kernel)
theorem tm_mX11_best : Cond.instanceMethod yX11_best ∈ tg := tg_of (tbl_7 (List.mem_of_getElem? (i := 151) (by decide +kernel))) (by decide +kernel)
theorem tm_mX11_count : Cond.instanceMethod yX11_count ∈ tg := tg_of (tbl_8 (List.mem_of_getElem? (i := 9) (by decide +kernel))) (by decide +kernel)
theorem tm_mX11_end : Cond.instanceMethod yX11_end ∈ tg := tg_of (tbl_6 (List.mem_of_getElem? (i := 77) (by decide +kernel))) (by decide +kernel)
theorem tm_mX11_feed : Cond.instanceMethod yX11_feed ∈ tg := tg_of (tbl_6 (List.mem_of_getElem? (i := 69) (by decide +kernel))) (by decide +kernel)
theorem tm_mX11_fight : Cond.instanceMethod yX11_fight ∈ tg := tg_of (tbl_7 (List.mem_of_getElem? (i := 103) (by decide +kernel))) (by decide +kernel)
theorem tm_mX11_force : Cond.instanceMethod yX11_force ∈ tg := tg_of (tbl_6 (List.mem_of_getElem? (i := 232) (by decide +kernel))) (by decide +kernel)
theorem tm_mX11_game : Cond.instanceMethod yX11_game ∈ tg := tg_of (tbl_7 (List.mem_of_getElem? (i := 181) (by decide +kernel))) (by decide +kernel)
theorem tm_mX11_give : Cond.instanceMethod yX11_give ∈ tg := tg_of (tbl_7 (List.mem_of_getElem? (i := 98) (by decide +kernel))) (by decide +kernel)
theorem tm_mX11_image : Cond.instanceMethod yX11_image ∈ tg := tg_of (tbl_8 (List.mem_of_getElem? (i := 13) (by decide +kernel))) (by decide +kernel)
theorem tm_mX11_land : Cond.instanceMethod yX11_land ∈ tg := tg_of (tbl_6 (List.mem_of_getElem? (i := 237) (by decide +kernel))) (by decide +kernel)
theorem tm_mX11_look : Cond.instanceMethod yX11_look ∈ tg := tg_of (tbl_7 (List.mem_of_getElem? (i := 220) (by decide +kernel))) (by decide +kernel)
theorem tm_mX11_mother : Cond.instanceMethod yX11_mother ∈ tg := tg_of (tbl_7 (List.mem_of_getElem? (i := 200) (by decide +kernel))) (by decide +kernel)
theorem tm_mX11_need : Cond.instanceMethod yX11_need ∈ tg := tg_of (tbl_7 (List.mem_of_getElem? (i := 176) (by decide +kernel))) (by decide +kernel)
theorem tm_mX11_note : Cond.instanceMethod yX11_note ∈ tg := tg_of (tbl_7 (List.mem_of_getElem? (i := 208) (by decide +kernel))) (by decide +kernel)
theorem tm_mX11_parts : Cond.instanceMethod yX11_parts ∈ tg := tg_of (tbl_7 (List.mem_of_getElem? (i := 204) (by decide +kernel))) (by decide +kernel)
theorem tm_mX11_quiet : Cond.instanceMethod yX11_quiet ∈ tg := tg_of (tbl_7 (List.mem_of_getElem? (i := 163) (by decide +kernel))) (by decide +kernel)
theorem tm_mX11_row : Cond.instanceMethod yX11_row ∈ tg := tg_of (tbl_7 (List.mem_of_getElem? (i := 142) (by decide +kernel))) (by decide +kernel)
theorem tm_mX11_rule : Cond.instanceMethod yX11_rule ∈ tg := tg_of (tbl_6 (List.mem_of_getElem? (i := 158) (by decide +kernel))) (by decide +kernel)
theorem tm_mX11_ruled : Cond.instanceMethod yX11_ruled ∈ tg := tg_of (tbl_7 (List.mem_of_getElem? (i := 212) (by decide +kernel))) (by decide +kernel)
theorem tm_mX11_seed : Cond.instanceMethod yX11_seed ∈ tg := tg_of (tbl_7 (List.mem_of_getElem? (i := 228) (by decide +kernel))) (by decide +kernel)
theorem tm_mX11_set : Cond.instanceMethod yX11_set ∈ tg := tg_of (tbl_7 (List.mem_of_getElem? (i := 107) (by decide +kernel))) (by decide +kernel)
theorem tm_mX11_shun : Cond.instanceMethod yX11_shun ∈ tg := tg_of (tbl_7 (List.mem_of_getElem? (i := 192) (by decide +kernel))) (by decide +kernel)
theorem tm_mX11_summers : Cond.instanceMethod yX11_summers ∈ tg := tg_of (tbl_7 (List.mem_of_getElem? (i := 232) (by decide +kernel))) (by decide +kernel)
theorem tm_mX11_swap : Cond.instanceMethod yX11_swap ∈ tg := tg_of (tbl_7 (List.mem_of_getElem? (i := 94) (by decide +kernel))) (by decide +kernel)
theorem tm_mX11_table : Cond.instanceMethod yX11_table ∈ tg := tg_of (tbl_6 (List.mem_of_getElem? (i := 81) (by decide +kernel))) (by decide +kernel)
theorem tm_mX11_told : Cond.instanceMethod yX11_told ∈ tg := tg_of (tbl_7 (List.mem_of_getElem? (i := 16) (by decide +kernel))) (by decide +kernel)
theorem tm_mX11_undo : Cond.instanceMethod yX11_undo ∈ tg := tg_of (tbl_7 (List.mem_of_getElem? (i := 21) (by decide +kernel))) (by decide +kernel)
theorem tm_mX11_week : Cond.instanceMethod yX11_week ∈ tg := tg_of (tbl_7 (List.mem_of_getElem? (i := 37) (by decide +kernel))) (by decide +kernel)
theorem tm_mX11_worth : Cond.instanceMethod yX11_worth ∈ tg := tg_of (tbl_7 (List.mem_of_getElem? (i := 167) (by decide +kernel))) (by decide +kernel)
theorem tm_sX10_ahead : Cond.selects RX10 yX10_ahead yX10_ahead ∈ tg := tg_of (tbl_4 (List.mem_of_getElem? (i := 147) (by decide +kernel))) (by decide +kernel)
theorem tm_sX10_back : Cond.selects RX10 yX10_back yX10_back ∈ tg := tg_of (tbl_5 (List.mem_of_getElem? (i := 126) (by decide +kernel))) (by decide +kernel)
theorem tm_sX10_bare : Cond.selects RX10 yX10_bare yX10_bare ∈ tg := tg_of (tbl_4 (List.mem_of_getElem? (i := 163) (by decide +kernel))) (by decide +kernel)
theorem tm_sX10_best : Cond.selects RX10 yX10_best yX10_best ∈ tg := tg_of (tbl_4 (List.mem_of_getElem? (i := 184) (by decide +kernel))) (by decide +kernel)
theorem tm_sX10_count : Cond.selects RX10 yX10_count yX10_count ∈ tg := tg_of (tbl_5 (List.mem_of_getElem? (i := 107) (by decide +kernel))) (by decide +kernel)
theorem tm_sX10_end : Cond.selects RX10 yX10_end yX10_end ∈ tg := tg_of (tbl_2 (List.mem_of_getElem? (i := 192) (by decide +kernel))) (by decide +kernel)
theorem tm_sX10_feed : Cond.selects RX10 yX10_feed yX10_feed ∈ tg := tg_of (tbl_2 (List.mem_of_getElem? (i := 184) (by decide +kernel))) (by decide +kernel)
theorem tm_sX10_fight : Cond.selects RX10 yX10_fight yX10_fight ∈ tg := tg_of (tbl_4 (List.mem_of_getElem? (i := 131) (by decide +kernel))) (by decide +kernel)
theorem tm_sX10_force : Cond.selects RX10 yX10_force yX10_force ∈ tg := tg_of (tbl_4 (List.mem_of_getElem? (i := 1) (by decide +kernel))) (by decide +kernel)
theorem tm_sX10_game : Cond.selects RX10 yX10_game yX10_game ∈ tg := tg_of (tbl_4 (List.mem_of_getElem? (i := 236) (by decide +kernel))) (by decide +kernel)
theorem tm_sX10_give : Cond.selects RX10 yX10_give yX10_give ∈ tg := tg_of (tbl_4 (List.mem_of_getElem? (i := 126) (by decide +kernel))) (by decide +kernel)
theorem tm_sX10_image : Cond.selects RX10 yX10_image yX10_image ∈ tg := tg_of (tbl_5 (List.mem_of_getElem? (i := 112) (by decide +kernel))) (by decide +kernel)
theorem tm_sX10_land : Cond.selects RX10 yX10_land yX10_land ∈ tg := tg_of (tbl_4 (List.mem_of_getElem? (i := 5) (by decide +kernel))) (by decide +kernel)
theorem tm_sX10_look : Cond.selects RX10 yX10_look yX10_look ∈ tg := tg_of (tbl_5 (List.mem_of_getElem? (i := 77) (by decide +kernel))) (by decide +kernel)
theorem tm_sX10_mother : Cond.selects RX10 yX10_mother yX10_mother ∈ tg := tg_of (tbl_5 (List.mem_of_getElem? (i := 29) (by decide +kernel))) (by decide +kernel)
theorem tm_sX10_need : Cond.selects RX10 yX10_need yX10_need ∈ tg := tg_of (tbl_4 (List.mem_of_getElem? (i := 227) (by decide +kernel))) (by decide +kernel)
theorem tm_sX10_note : Cond.selects RX10 yX10_note yX10_note ∈ tg := tg_of (tbl_5 (List.mem_of_getElem? (i := 46) (by decide +kernel))) (by decide +kernel)
theorem tm_sX10_parts : Cond.selects RX10 yX10_parts yX10_parts ∈ tg := tg_of (tbl_5 (List.mem_of_getElem? (i := 37) (by decide +kernel))) (by decide +kernel)
theorem tm_sX10_quiet : Cond.selects RX10 yX10_quiet yX10_quiet ∈ tg := tg_of (tbl_4 (List.mem_of_getElem? (i := 209) (by decide +kernel))) (by decide +kernel)
theorem tm_sX10_row : Cond.selects RX10 yX10_row yX10_row ∈ tg := tg_of (tbl_4 (List.mem_of_getElem? (i := 171) (by decide +kernel))) (by decide +kernel)
theorem tm_sX10_rule : Cond.selects RX10 yX10_rule yX10_rule ∈ tg := tg_of (tbl_3 (List.mem_of_getElem? (i := 191) (by decide +kernel))) (by decide +kernel)
theorem tm_sX10_ruled : Cond.selects RX10 yX10_ruled yX10_ruled ∈ tg := tg_of (tbl_5 (List.mem_of_getElem? (i := 54) (by decide +kernel))) (by decide +kernel)
theorem tm_sX10_seed : Cond.selects RX10 yX10_seed yX10_seed ∈ tg := tg_of (tbl_5 (List.mem_of_getElem? (i := 89) (by decide +kernel))) (by decide +kernel)
theorem tm_sX10_set : Cond.selects RX10 yX10_set yX10_set ∈ tg := tg_of (tbl_4 (List.mem_of_getElem? (i := 135) (by decide +kernel))) (by decide +kernel)
theorem tm_sX10_shun : Cond.selects RX10 yX10_shun yX10_shun ∈ tg := tg_of (tbl_5 (List.mem_of_getElem? (i := 10) (by decide +kernel))) (by decide +kernel)
theorem tm_sX10_summers : Cond.selects RX10 yX10_summers yX10_summers ∈ tg := tg_of (tbl_5 (List.mem_of_getElem? (i := 93) (by decide +kernel))) (by decide +kernel)
theorem tm_sX10_swap : Cond.selects RX10 yX10_swap yX10_swap ∈ tg := tg_of (tbl_4 (List.mem_of_getElem? (i := 116) (by decide +kernel))) (by decide +kernel)
theorem tm_sX10_table : Cond.selects RX10 yX10_table yX10_table ∈ tg := tg_of (tbl_2 (List.mem_of_getElem? (i := 199) (by decide +kernel))) (by decide +kernel)
theorem tm_sX10_told : Cond.selects RX10 yX10_told yX10_told ∈ tg := tg_of (tbl_4 (List.mem_of_getElem? (i := 21) (by decide +kernel))) (by decide +kernel)
theorem tm_sX10_undo : Cond.selects RX10 yX10_undo yX10_undo ∈ tg := tg_of (tbl_4 (List.mem_of_getElem? (i := 139) (by decide +kernel))) (by decide +kernel)
theorem tm_sX10_week : Cond.selects RX10 yX10_week yX10_week ∈ tg := tg_of (tbl_4 (List.mem_of_getElem? (i := 25) (by decide +kernel))) (by decide +kernel)
theorem tm_sX10_worth : Cond.selects RX10 yX10_worth yX10_worth ∈ tg := tg_of (tbl_4 (List.mem_of_getElem? (i := 217) (by decide +kernel))) (by decide +kernel)
theorem tm_sX11_ahead : Cond.selects RX11 yX11_ahead yX11_ahead ∈ tg := tg_of (tbl_7 (List.mem_of_getElem? (i := 113) (by decide +kernel))) (by decide +kernel)
theorem tm_sX11_back : Cond.selects RX11 yX11_back yX11_back ∈ tg := tg_of (tbl_8 (List.mem_of_getElem? (i := 18) (by decide +kernel))) (by decide +kernel)
theorem tm_sX11_bare : Cond.selects RX11 yX11_bare yX11_bare ∈ tg := tg_of (tbl_7 (List.mem_of_getElem? (i := 139) (by decide +kernel))) (by decide +kernel)
theorem tm_sX11_best : Cond.selects RX11 yX11_best yX11_best ∈ tg := tg_of (tbl_7 (List.mem_of_getElem? (i := 152) (by decide +kernel))) (by decide +kernel)
theorem tm_sX11_count : Cond.selects RX11 yX11_count yX11_count ∈ tg := tg_of (tbl_8 (List.mem_of_getElem? (i := 10) (by decide +kernel))) (by decide +kernel)
theorem tm_sX11_end : Cond.selects RX11 yX11_end yX11_end ∈ tg := tg_of (tbl_6 (List.mem_of_getElem? (i := 78) (by decide +kernel))) (by decide +kernel)
theorem tm_sX11_feed : Cond.selects RX11 yX11_feed yX11_feed ∈ tg := tg_of (tbl_6 (List.mem_of_getElem? (i := 70) (by decide +kernel))) (by decide +kernel)
theorem tm_sX11_fight : Cond.selects RX11 yX11_fight yX11_fight ∈ tg := tg_of (tbl_7 (List.mem_of_getElem? (i := 104) (by decide +kernel))) (by decide +kernel)
theorem tm_sX11_force : Cond.selects RX11 yX11_force yX11_force ∈ tg := tg_of (tbl_6 (List.mem_of_getElem? (i := 233) (by decide +kernel))) (by decide +kernel)
theorem tm_sX11_game : Cond.selects RX11 yX11_game yX11_game ∈ tg := tg_of (tbl_7 (List.mem_of_getElem? (i := 182) (by decide +kernel))) (by decide +kernel)
theorem tm_sX11_give : Cond.selects RX11 yX11_give yX11_give ∈ tg := tg_of (tbl_7 (List.mem_of_getElem? (i := 99) (by decide +kernel))) (by decide +kernel)
theorem tm_sX11_image : Cond.selects RX11 yX11_image yX11_image ∈ tg := tg_of (tbl_8 (List.mem_of_getElem? (i := 14) (by decide +kernel))) (by decide +kernel)
theorem tm_sX11_land : Cond.selects RX11 yX11_land yX11_land ∈ tg := tg_of (tbl_6 (List.mem_of_getElem? (i := 238) (by decide +kernel))) (by decide +kernel)
theorem tm_sX11_look : Cond.selects RX11 yX11_look yX11_look ∈ tg := tg_of (tbl_7 (List.mem_of_getElem? (i := 221) (by decide +kernel))) (by decide +kernel)
theorem tm_sX11_mother : Cond.selects RX11 yX11_mother yX11_mother ∈ tg := tg_of (tbl_7 (List.mem_of_getElem? (i := 201) (by decide +kernel))) (by decide +kernel)
theorem tm_sX11_need : Cond.selects RX11 yX11_need yX11_need ∈ tg := tg_of (tbl_7 (List.mem_of_getElem? (i := 177) (by decide +kernel))) (by decide +kernel)
theorem tm_sX11_note : Cond.selects RX11 yX11_note yX11_note ∈ tg := tg_of (tbl_7 (List.mem_of_getElem? (i := 209) (by decide +kernel))) (by decide +kernel)
theorem tm_sX11_parts : Cond.selects RX11 yX11_parts yX11_parts ∈ tg := tg_of (tbl_7 (List.mem_of_getElem? (i := 205) (by decide +kernel))) (by decide +kernel)
theorem tm_sX11_quiet : Cond.selects RX11 yX11_quiet yX11_quiet ∈ tg := tg_of (tbl_7 (List.mem_of_getElem? (i := 164) (by decide +kernel))) (by decide +kernel)
theorem tm_sX11_row : Cond.selects RX11 yX11_row yX11_row ∈ tg := tg_of (tbl_7 (List.mem_of_getElem? (i := 143) (by decide +kernel))) (by decide +kernel)
theorem tm_sX11_rule : Cond.selects RX11 yX11_rule yX11_rule ∈ tg := tg_of (tbl_6 (List.mem_of_getElem? (i := 159) (by decide +kernel))) (by decide +kernel)
theorem tm_sX11_ruled : Cond.selects RX11 yX11_ruled yX11_ruled ∈ tg := tg_of (tbl_7 (List.mem_of_getElem? (i := 213) (by decide +kernel))) (by decide +kernel)
theorem tm_sX11_seed : Cond.selects RX11 yX11_seed yX11_seed ∈ tg := tg_of (tbl_7 (List.mem_of_getElem? (i := 229) (by decide +kernel))) (by decide +kernel)
theorem tm_sX11_set : Cond.selects RX11 yX11_set yX11_set ∈ tg := tg_of (tbl_7 (List.mem_of_getElem? (i := 108) (by decide +kernel))) (by decide +kernel)
theorem tm_sX11_shun : Cond.selects RX11 yX11_shun yX11_shun ∈ tg := tg_of (tbl_7 (List.mem_of_getElem? (i := 193) (by decide +kernel))) (by decide +kernel)
theorem tm_sX11_summers : Cond.selects RX11 yX11_summers yX11_summers ∈ tg := tg_of (tbl_7 (List.mem_of_getElem? (i := 233) (by decide +kernel))) (by decide +kernel)
theorem tm_sX11_swap : Cond.selects RX11 yX11_swap yX11_swap ∈ tg := tg_of (tbl_7 (List.mem_of_getElem? (i := 95) (by decide +kernel))) (by decide +kernel)
theorem tm_sX11_table : Cond.selects RX11 yX11_table yX11_table ∈ tg := tg_of (tbl_6 (List.mem_of_getElem? (i := 82) (by decide +kernel))) (by decide +kernel)
theorem tm_sX11_told : Cond.selects RX11 yX11_told yX11_told ∈ tg := tg_of (tbl_7 (List.mem_of_getElem? (i := 17) (by decide +kernel))) (by decide +kernel)
theorem tm_sX11_undo : Cond.selects RX11 yX11_undo yX11_undo ∈ tg := tg_of (tbl_7 (List.mem_of_getElem? (i := 22) (by decide +kernel))) (by decide +kernel)
theorem tm_sX11_week : Cond.selects RX11 yX11_week yX11_week ∈ tg := tg_of (tbl_7 (List.mem_of_getElem? (i := 38) (by decide +kernel))) (by decide +kernel)
theorem tm_sX11_worth : Cond.selects RX11 yX11_worth yX11_worth ∈ tg := tg_of (tbl_7 (List.mem_of_getElem? (i := 168) (by decide +kernel))) (by decide +kernel)
theorem cl_L_102 : CV RL 102 yX11_game 11 cX11_game 7 (some .int) 4 := ⟨Or.inl (tg_of (tbl_7 (List.mem_of_getElem? (i := 180) (by decide +kernel))) (by decide +kernel)), tm_mX11_game, tm_sX11_game, tm_iX11, tm_cX11_game, rfl, ⟨by decide, by decide, by decide +kernel⟩, by decide, by decide⟩
theorem cl_L_103 : CV RL 103 yX10_shun 10 cX10_shun 3 (some .int) 2 := ⟨Or.inl (tg_of (tbl_5 (List.mem_of_getElem? (i := 8) (by decide +kernel))) (by decide +kernel)), tm_mX10_shun, tm_sX10_shun, tm_iX10, tm_cX10_shun, rfl, ⟨by decide, by decide, by decide +kernel⟩, by decide, by decide⟩
theorem cl_L_106 : CV RL 106 yX11_shun 11 cX11_shun 7 (some .int) 2 := ⟨Or.inl (tg_of (tbl_7 (List.mem_of_getElem? (i := 191) (by decide +kernel))) (by decide +kernel)), tm_mX11_shun, tm_sX11_shun, tm_iX11, tm_cX11_shun, rfl, ⟨by decide, by decide, by decide +kernel⟩, by decide, by decide⟩
theorem cl_L_107 : CV RL 107 yX10_mother 10 cX10_mother 3 (some .int) 2 := ⟨Or.inl (tg_of (tbl_5 (List.mem_of_getElem? (i := 27) (by decide +kernel))) (by decide +kernel)), tm_mX10_mother, tm_sX10_mother, tm_iX10, tm_cX10_mother, rfl, ⟨by decide, by decide, by decide +kernel⟩, by decide, by decide⟩
theorem cl_L_110 : CV RL 110 yX11_mother 11 cX11_mother 7 (some .int) 2 := ⟨Or.inl (tg_of (tbl_7 (List.mem_of_getElem? (i := 199) (by decide +kernel))) (by decide +kernel)), tm_mX11_mother, tm_sX11_mother, tm_iX11, tm_cX11_mother, rfl, ⟨by decide, by decide, by decide +kernel⟩, by decide, by decide⟩
theorem cl_L_111 : CV RL 111 yX10_parts 10 cX10_parts 3 (some .int) 2 := ⟨Or.inl (tg_of (tbl_5 (List.mem_of_getElem? (i := 35) (by decide +kernel))) (by decide +kernel)), tm_mX10_parts, tm_sX10_parts, tm_iX10, tm_cX10_parts, rfl, ⟨by decide, by decide, by decide +kernel⟩, by decide, by decide⟩
theorem cl_L_114 : CV RL 114 yX11_parts 11 cX11_parts 8 (some .int) 2 := ⟨Or.inl (tg_of (tbl_7 (List.mem_of_getElem? (i := 203) (by decide +kernel))) (by decide +kernel)), tm_mX11_parts, tm_sX11_parts, tm_iX11, tm_cX11_parts, rfl, ⟨by decide, by decide, by decide +kernel⟩, by decide, by decide⟩
theorem cl_L_115 : CV RL 115 yX10_note 10 cX10_note 4 (some .int) 3 := ⟨Or.inl (tg_of (tbl_5 (List.mem_of_getElem? (i := 44) (by decide +kernel))) (by decide +kernel)), tm_mX10_note, tm_sX10_note, tm_iX10, tm_cX10_note, rfl, ⟨by decide, by decide, by decide +kernel⟩, by decide, by decide⟩
theorem cl_L_118 : CV RL 118 yX11_note 11 cX11_note 5 (some .int) 3 := ⟨Or.inl (tg_of (tbl_7 (List.mem_of_getElem? (i := 207) (by decide +kernel))) (by decide +kernel)), tm_mX11_note, tm_sX11_note, tm_iX11, tm_cX11_note, rfl, ⟨by decide, by decide, by decide +kernel⟩, by decide, by decide⟩
theorem cl_L_119 : CV RL 119 yX10_ruled 10 cX10_ruled 2 (some .int) 1 := ⟨Or.inl (tg_of (tbl_5 (List.mem_of_getElem? (i := 52) (by decide +kernel))) (by decide +kernel)), tm_mX10_ruled, tm_sX10_ruled, tm_iX10, tm_cX10_ruled, rfl, ⟨by decide, by decide, by decide +kernel⟩, by decide, by decide⟩
theorem cl_L_122 : CV RL 122 yX11_ruled 11 cX11_ruled 5 (some .int) 1 := ⟨Or.inl (tg_of (tbl_7 (List.mem_of_getElem? (i := 211) (by decide +kernel))) (by decide +kernel)), tm_mX11_ruled, tm_sX11_ruled, tm_iX11, tm_cX11_ruled, rfl, ⟨by decide, by decide, by decide +kernel⟩, by decide, by decide⟩
theorem cl_L_123 : CV RL 123 yX10_look 10 cX10_look 3 (some .int) 2 := ⟨Or.inl (tg_of (tbl_5 (List.mem_of_getElem? (i := 75) (by decide +kernel))) (by decide +kernel)), tm_mX10_look, tm_sX10_look, tm_iX10, tm_cX10_look, rfl, ⟨by decide, by decide, by decide +kernel⟩, by decide, by decide⟩
theorem cl_L_126 : CV RL 126 yX11_look 11 cX11_look 6 (some .int) 2 := ⟨Or.inl (tg_of (tbl_7 (List.mem_of_getElem? (i := 219) (by decide +kernel))) (by decide +kernel)), tm_mX11_look, tm_sX11_look, tm_iX11, tm_cX11_look, rfl, ⟨by decide, by decide, by decide +kernel⟩, by decide, by decide⟩
theorem cl_L_127 : CV RL 127 yX10_seed 10 cX10_seed 3 (some .int) 1 := ⟨Or.inl (tg_of (tbl_5 (List.mem_of_getElem? (i := 87) (by decide +kernel))) (by decide +kernel)), tm_mX10_seed, tm_sX10_seed, tm_iX10, tm_cX10_seed, rfl, ⟨by decide, by decide, by decide +kernel⟩, by decide, by decide⟩
theorem cl_L_13 : CV RL 13 yX10_feed 10 cX10_feed 6 (some .int) 5 := ⟨Or.inl (tg_of (tbl_2 (List.mem_of_getElem? (i := 182) (by decide +kernel))) (by decide +kernel)), tm_mX10_feed, tm_sX10_feed, tm_iX10, tm_cX10_feed, rfl, ⟨by decide, by decide, by decide +kernel⟩, by decide, by decide⟩
theorem cl_L_130 : CV RL 130 yX11_seed 11 cX11_seed 3 (some .int) 1 := ⟨Or.inl (tg_of (tbl_7 (List.mem_of_getElem? (i := 227) (by decide +kernel))) (by decide +kernel)), tm_mX11_seed, tm_sX11_seed, tm_iX11, tm_cX11_seed, rfl, ⟨by decide, by decide, by decide +kernel⟩, by decide, by decide⟩
theorem cl_L_131 : CV RL 131 yX10_summers 10 cX10_summers 5 (some .int) 4 := ⟨Or.inl (tg_of (tbl_5 (List.mem_of_getElem? (i := 91) (by decide +kernel))) (by decide +kernel)), tm_mX10_summers, tm_sX10_summers, tm_iX10, tm_cX10_summers, rfl, ⟨by decide, by decide, by decide +kernel⟩, by decide, by decide⟩
theorem cl_L_134 : CV RL 134 yX11_summers 11 cX11_summers 11 (some .int) 4 := ⟨Or.inl (tg_of (tbl_7 (List.mem_of_getElem? (i := 231) (by decide +kernel))) (by decide +kernel)), tm_mX11_summers, tm_sX11_summers, tm_iX11, tm_cX11_summers, rfl, ⟨by decide, by decide, by decide +kernel⟩, by decide, by decide⟩
theorem cl_L_135 : CV RL 135 yX10_count 10 cX10_count 2 (some .int) 1 := ⟨Or.inl (tg_of (tbl_5 (List.mem_of_getElem? (i := 105) (by decide +kernel))) (by decide +kernel)), tm_mX10_count, tm_sX10_count, tm_iX10, tm_cX10_count, rfl, ⟨by decide, by decide, by decide +kernel⟩, by decide, by decide⟩
theorem cl_L_138 : CV RL 138 yX11_count 11 cX11_count 2 (some .int) 1 := ⟨Or.inl (tg_of (tbl_8 (List.mem_of_getElem? (i := 8) (by decide +kernel))) (by decide +kernel)), tm_mX11_count, tm_sX11_count, tm_iX11, tm_cX11_count, rfl, ⟨by decide, by decide, by decide +kernel⟩, by decide, by decide⟩
theorem cl_L_139 : CV RL 139 yX10_image 10 cX10_image 2 (some .int) 1 := ⟨Or.inl (tg_of (tbl_5 (List.mem_of_getElem? (i := 110) (by decide +kernel))) (by decide +kernel)), tm_mX10_image, tm_sX10_image, tm_iX10, tm_cX10_image, rfl, ⟨by decide, by decide, by decide +kernel⟩, by decide, by decide⟩
theorem cl_L_142 : CV RL 142 yX11_image 11 cX11_image 2 (some .int) 1 := ⟨Or.inl (tg_of (tbl_8 (List.mem_of_getElem? (i := 12) (by decide +kernel))) (by decide +kernel)), tm_mX11_image, tm_sX11_image, tm_iX11, tm_cX11_image, rfl, ⟨by decide, by decide, by decide +kernel⟩, by decide, by decide⟩
theorem cl_L_143 : CV RL 143 yX10_back 10 cX10_back 2 (some .int) 1 := ⟨Or.inl (tg_of (tbl_5 (List.mem_of_getElem? (i := 124) (by decide +kernel))) (by decide +kernel)), tm_mX10_back, tm_sX10_back, tm_iX10, tm_cX10_back, rfl, ⟨by decide, by decide, by decide +kernel⟩, by decide, by decide⟩
theorem cl_L_146 : CV RL 146 yX11_back 11 cX11_back 2 (some .int) 1 := ⟨Or.inl (tg_of (tbl_8 (List.mem_of_getElem? (i := 16) (by decide +kernel))) (by decide +kernel)), tm_mX11_back, tm_sX11_back, tm_iX11, tm_cX11_back, rfl, ⟨by decide, by decide, by decide +kernel⟩, by decide, by decide⟩
theorem cl_L_17 : CV RL 17 yX11_feed 11 cX11_feed 6 (some .int) 5 := ⟨Or.inl (tg_of (tbl_6 (List.mem_of_getElem? (i := 68) (by decide +kernel))) (by decide +kernel)), tm_mX11_feed, tm_sX11_feed, tm_iX11, tm_cX11_feed, rfl, ⟨by decide, by decide, by decide +kernel⟩, by decide, by decide⟩
theorem cl_L_18 : CV RL 18 yX10_end 10 cX10_end 2 (some .int) 1 := ⟨Or.inl (tg_of (tbl_2 (List.mem_of_getElem? (i := 190) (by decide +kernel))) (by decide +kernel)), tm_mX10_end, tm_sX10_end, tm_iX10, tm_cX10_end, rfl, ⟨by decide, by decide, by decide +kernel⟩, by decide, by decide⟩
theorem cl_L_22 : CV RL 22 yX11_end 11 cX11_end 2 (some .int) 1 := ⟨Or.inl (tg_of (tbl_6 (List.mem_of_getElem? (i := 76) (by decide +kernel))) (by decide +kernel)), tm_mX11_end, tm_sX11_end, tm_iX11, tm_cX11_end, rfl, ⟨by decide, by decide, by decide +kernel⟩, by decide, by decide⟩
theorem cl_L_23 : CV RL 23 yX10_table 10 cX10_table 2 (some .int) 0 := ⟨Or.inl (tg_of (tbl_2 (List.mem_of_getElem? (i := 197) (by decide +kernel))) (by decide +kernel)), tm_mX10_table, tm_sX10_table, tm_iX10, tm_cX10_table, rfl, ⟨by decide, by decide, by decide +kernel⟩, by decide, by decide⟩
theorem cl_L_27 : CV RL 27 yX11_table 11 cX11_table 2 (some .int) 0 := ⟨Or.inl (tg_of (tbl_6 (List.mem_of_getElem? (i := 80) (by decide +kernel))) (by decide +kernel)), tm_mX11_table, tm_sX11_table, tm_iX11, tm_cX11_table, rfl, ⟨by decide, by decide, by decide +kernel⟩, by decide, by decide⟩
theorem cl_L_28 : CV RL 28 yX10_rule 10 cX10_rule 2 (some .int) 0 := ⟨Or.inl (tg_of (tbl_3 (List.mem_of_getElem? (i := 189) (by decide +kernel))) (by decide +kernel)), tm_mX10_rule, tm_sX10_rule, tm_iX10, tm_cX10_rule, rfl, ⟨by decide, by decide, by decide +kernel⟩, by decide, by decide⟩
theorem cl_L_31 : CV RL 31 yX11_rule 11 cX11_rule 3 (some .int) 0 := ⟨Or.inl (tg_of (tbl_6 (List.mem_of_getElem? (i := 157) (by decide +kernel))) (by decide +kernel)), tm_mX11_rule, tm_sX11_rule, tm_iX11, tm_cX11_rule, rfl, ⟨by decide, by decide, by decide +kernel⟩, by decide, by decide⟩
theorem cl_L_32 : CV RL 32 yX10_force 10 cX10_force 3 (some .int) 1 := ⟨Or.inl (tg_of (tbl_3 (List.mem_of_getElem? (i := 239) (by decide +kernel))) (by decide +kernel)), tm_mX10_force, tm_sX10_force, tm_iX10, tm_cX10_force, rfl, ⟨by decide, by decide, by decide +kernel⟩, by decide, by decide⟩
theorem cl_L_35 : CV RL 35 yX11_force 11 cX11_force 3 (some .int) 1 := ⟨Or.inl (tg_of (tbl_6 (List.mem_of_getElem? (i := 231) (by decide +kernel))) (by decide +kernel)), tm_mX11_force, tm_sX11_force, tm_iX11, tm_cX11_force, rfl, ⟨by decide, by decide, by decide +kernel⟩, by decide, by decide⟩
theorem cl_L_36 : CV RL 36 yX10_land 10 cX10_land 3 (some .int) 2 := ⟨Or.inl (tg_of (tbl_4 (List.mem_of_getElem? (i := 3) (by decide +kernel))) (by decide +kernel)), tm_mX10_land, tm_sX10_land, tm_iX10, tm_cX10_land, rfl, ⟨by decide, by decide, by decide +kernel⟩, by decide, by decide⟩
theorem cl_L_40 : CV RL 40 yX11_land 11 cX11_land 3 (some .int) 2 := ⟨Or.inl (tg_of (tbl_6 (List.mem_of_getElem? (i := 236) (by decide +kernel))) (by decide +kernel)), tm_mX11_land, tm_sX11_land, tm_iX11, tm_cX11_land, rfl, ⟨by decide, by decide, by decide +kernel⟩, by decide, by decide⟩
theorem cl_L_41 : CV RL 41 yX10_told 10 cX10_told 3 (some .int) 2 := ⟨Or.inl (tg_of (tbl_4 (List.mem_of_getElem? (i := 19) (by decide +kernel))) (by decide +kernel)), tm_mX10_told, tm_sX10_told, tm_iX10, tm_cX10_told, rfl, ⟨by decide, by decide, by decide +kernel⟩, by decide, by decide⟩
theorem cl_L_44 : CV RL 44 yX11_told 11 cX11_told 3 (some .int) 2 := ⟨Or.inl (tg_of (tbl_7 (List.mem_of_getElem? (i := 15) (by decide +kernel))) (by decide +kernel)), tm_mX11_told, tm_sX11_told, tm_iX11, tm_cX11_told, rfl, ⟨by decide, by decide, by decide +kernel⟩, by decide, by decide⟩
theorem cl_L_45 : CV RL 45 yX10_week 10 cX10_week 1 (some .int) 0 := ⟨Or.inl (tg_of (tbl_4 (List.mem_of_getElem? (i := 23) (by decide +kernel))) (by decide +kernel)), tm_mX10_week, tm_sX10_week, tm_iX10, tm_cX10_week, rfl, ⟨by decide, by decide, by decide +kernel⟩, by decide, by decide⟩
theorem cl_L_48 : CV RL 48 yX11_week 11 cX11_week 1 (some .int) 0 := ⟨Or.inl (tg_of (tbl_7 (List.mem_of_getElem? (i := 36) (by decide +kernel))) (by decide +kernel)), tm_mX11_week, tm_sX11_week, tm_iX11, tm_cX11_week, rfl, ⟨by decide, by decide, by decide +kernel⟩, by decide, by decide⟩
theorem cl_L_49 : CV RL 49 yX10_swap 10 cX10_swap 3 (some .int) 2 := ⟨Or.inl (tg_of (tbl_4 (List.mem_of_getElem? (i := 114) (by decide +kernel))) (by decide +kernel)), tm_mX10_swap, tm_sX10_swap, tm_iX10, tm_cX10_swap, rfl, ⟨by decide, by decide, by decide +kernel⟩, by decide, by decide⟩
theorem cl_L_52 : CV RL 52 yX11_swap 11 cX11_swap 3 (some .int) 2 := ⟨Or.inl (tg_of (tbl_7 (List.mem_of_getElem? (i := 93) (by decide +kernel))) (by decide +kernel)), tm_mX11_swap, tm_sX11_swap, tm_iX11, tm_cX11_swap, rfl, ⟨by decide, by decide, by decide +kernel⟩, by decide, by decide⟩
theorem cl_L_53 : CV RL 53 yX10_give 10 cX10_give 4 (some .int) 3 := ⟨Or.inl (tg_of (tbl_4 (List.mem_of_getElem? (i := 124) (by decide +kernel))) (by decide +kernel)), tm_mX10_give, tm_sX10_give, tm_iX10, tm_cX10_give, rfl, ⟨by decide, by decide, by decide +kernel⟩, by decide, by decide⟩
theorem cl_L_57 : CV RL 57 yX11_give 11 cX11_give 4 (some .int) 3 := ⟨Or.inl (tg_of (tbl_7 (List.mem_of_getElem? (i := 97) (by decide +kernel))) (by decide +kernel)), tm_mX11_give, tm_sX11_give, tm_iX11, tm_cX11_give, rfl, ⟨by decide, by decide, by decide +kernel⟩, by decide, by decide⟩
theorem cl_L_58 : CV RL 58 yX10_fight 10 cX10_fight 6 (some .int) 2 := ⟨Or.inl (tg_of (tbl_4 (List.mem_of_getElem? (i := 129) (by decide +kernel))) (by decide +kernel)), tm_mX10_fight, tm_sX10_fight, tm_iX10, tm_cX10_fight, rfl, ⟨by decide, by decide, by decide +kernel⟩, by decide, by decide⟩
theorem cl_L_61 : CV RL 61 yX11_fight 11 cX11_fight 4 (some .int) 2 := ⟨Or.inl (tg_of (tbl_7 (List.mem_of_getElem? (i := 102) (by decide +kernel))) (by decide +kernel)), tm_mX11_fight, tm_sX11_fight, tm_iX11, tm_cX11_fight, rfl, ⟨by decide, by decide, by decide +kernel⟩, by decide, by decide⟩
theorem cl_L_62 : CV RL 62 yX10_set 10 cX10_set 3 (some .int) 1 := ⟨Or.inl (tg_of (tbl_4 (List.mem_of_getElem? (i := 133) (by decide +kernel))) (by decide +kernel)), tm_mX10_set, tm_sX10_set, tm_iX10, tm_cX10_set, rfl, ⟨by decide, by decide, by decide +kernel⟩, by decide, by decide⟩
theorem cl_L_65 : CV RL 65 yX11_set 11 cX11_set 3 (some .int) 1 := ⟨Or.inl (tg_of (tbl_7 (List.mem_of_getElem? (i := 106) (by decide +kernel))) (by decide +kernel)), tm_mX11_set, tm_sX11_set, tm_iX11, tm_cX11_set, rfl, ⟨by decide, by decide, by decide +kernel⟩, by decide, by decide⟩
theorem cl_L_66 : CV RL 66 yX10_undo 10 cX10_undo 1 (some .int) 0 := ⟨Or.inl (tg_of (tbl_4 (List.mem_of_getElem? (i := 137) (by decide +kernel))) (by decide +kernel)), tm_mX10_undo, tm_sX10_undo, tm_iX10, tm_cX10_undo, rfl, ⟨by decide, by decide, by decide +kernel⟩, by decide, by decide⟩
theorem cl_L_69 : CV RL 69 yX11_undo 11 cX11_undo 1 (some .int) 0 := ⟨Or.inl (tg_of (tbl_7 (List.mem_of_getElem? (i := 20) (by decide +kernel))) (by decide +kernel)), tm_mX11_undo, tm_sX11_undo, tm_iX11, tm_cX11_undo, rfl, ⟨by decide, by decide, by decide +kernel⟩, by decide, by decide⟩
theorem cl_L_70 : CV RL 70 yX10_ahead 10 cX10_ahead 5 (some .int) 3 := ⟨Or.inl (tg_of (tbl_4 (List.mem_of_getElem? (i := 145) (by decide +kernel))) (by decide +kernel)), tm_mX10_ahead, tm_sX10_ahead, tm_iX10, tm_cX10_ahead, rfl, ⟨by decide, by decide, by decide +kernel⟩, by decide, by decide⟩
theorem cl_L_73 : CV RL 73 yX11_ahead 11 cX11_ahead 5 (some .int) 3 := ⟨Or.inl (tg_of (tbl_7 (List.mem_of_getElem? (i := 111) (by decide +kernel))) (by decide +kernel)), tm_mX11_ahead, tm_sX11_ahead, tm_iX11, tm_cX11_ahead, rfl, ⟨by decide, by decide, by decide +kernel⟩, by decide, by decide⟩
theorem cl_L_74 : CV RL 74 yX10_bare 10 cX10_bare 2 (some .int) 1 := ⟨Or.inl (tg_of (tbl_4 (List.mem_of_getElem? (i := 161) (by decide +kernel))) (by decide +kernel)), tm_mX10_bare, tm_sX10_bare, tm_iX10, tm_cX10_bare, rfl, ⟨by decide, by decide, by decide +kernel⟩, by decide, by decide⟩
theorem cl_L_77 : CV RL 77 yX11_bare 11 cX11_bare 4 (some .int) 1 := ⟨Or.inl (tg_of (tbl_7 (List.mem_of_getElem? (i := 137) (by decide +kernel))) (by decide +kernel)), tm_mX11_bare, tm_sX11_bare, tm_iX11, tm_cX11_bare, rfl, ⟨by decide, by decide, by decide +kernel⟩, by decide, by decide⟩
theorem cl_L_78 : CV RL 78 yX10_row 10 cX10_row 4 (some .int) 3 := ⟨Or.inl (tg_of (tbl_4 (List.mem_of_getElem? (i := 169) (by decide +kernel))) (by decide +kernel)), tm_mX10_row, tm_sX10_row, tm_iX10, tm_cX10_row, rfl, ⟨by decide, by decide, by decide +kernel⟩, by decide, by decide⟩
theorem cl_L_81 : CV RL 81 yX11_row 11 cX11_row 8 (some .int) 3 := ⟨Or.inl (tg_of (tbl_7 (List.mem_of_getElem? (i := 141) (by decide +kernel))) (by decide +kernel)), tm_mX11_row, tm_sX11_row, tm_iX11, tm_cX11_row, rfl, ⟨by decide, by decide, by decide +kernel⟩, by decide, by decide⟩
theorem cl_L_82 : CV RL 82 yX10_best 10 cX10_best 3 (some .int) 2 := ⟨Or.inl (tg_of (tbl_4 (List.mem_of_getElem? (i := 182) (by decide +kernel))) (by decide +kernel)), tm_mX10_best, tm_sX10_best, tm_iX10, tm_cX10_best, rfl, ⟨by decide, by decide, by decide +kernel⟩, by decide, by decide⟩
theorem cl_L_85 : CV RL 85 yX11_best 11 cX11_best 7 (some .int) 2 := ⟨Or.inl (tg_of (tbl_7 (List.mem_of_getElem? (i := 150) (by decide +kernel))) (by decide +kernel)), tm_mX11_best, tm_sX11_best, tm_iX11, tm_cX11_best, rfl, ⟨by decide, by decide, by decide +kernel⟩, by decide, by decide⟩
theorem cl_L_86 : CV RL 86 yX10_quiet 10 cX10_quiet 1 (some .int) 0 := ⟨Or.inl (tg_of (tbl_4 (List.mem_of_getElem? (i := 207) (by decide +kernel))) (by decide +kernel)), tm_mX10_quiet, tm_sX10_quiet, tm_iX10, tm_cX10_quiet, rfl, ⟨by decide, by decide, by decide +kernel⟩, by decide, by decide⟩
theorem cl_L_89 : CV RL 89 yX11_quiet 11 cX11_quiet 5 (some .int) 0 := ⟨Or.inl (tg_of (tbl_7 (List.mem_of_getElem? (i := 162) (by decide +kernel))) (by decide +kernel)), tm_mX11_quiet, tm_sX11_quiet, tm_iX11, tm_cX11_quiet, rfl, ⟨by decide, by decide, by decide +kernel⟩, by decide, by decide⟩
theorem cl_L_90 : CV RL 90 yX10_worth 10 cX10_worth 4 (some .int) 3 := ⟨Or.inl (tg_of (tbl_4 (List.mem_of_getElem? (i := 215) (by decide +kernel))) (by decide +kernel)), tm_mX10_worth, tm_sX10_worth, tm_iX10, tm_cX10_worth, rfl, ⟨by decide, by decide, by decide +kernel⟩, by decide, by decide⟩
theorem cl_L_93 : CV RL 93 yX11_worth 11 cX11_worth 5 (some .int) 3 := ⟨Or.inl (tg_of (tbl_7 (List.mem_of_getElem? (i := 166) (by decide +kernel))) (by decide +kernel)), tm_mX11_worth, tm_sX11_worth, tm_iX11, tm_cX11_worth, rfl, ⟨by decide, by decide, by decide +kernel⟩, by decide, by decide⟩
theorem cl_L_94 : CV RL 94 yX10_need 10 cX10_need 4 (some .int) 3 := ⟨Or.inl (tg_of (tbl_4 (List.mem_of_getElem? (i := 225) (by decide +kernel))) (by decide +kernel)), tm_mX10_need, tm_sX10_need, tm_iX10, tm_cX10_need, rfl, ⟨by decide, by decide, by decide +kernel⟩, by decide, by decide⟩
theorem cl_L_97 : CV RL 97 yX11_need 11 cX11_need 6 (some .int) 3 := ⟨Or.inl (tg_of (tbl_7 (List.mem_of_getElem? (i := 175) (by decide +kernel))) (by decide +kernel)), tm_mX11_need, tm_sX11_need, tm_iX11, tm_cX11_need, rfl, ⟨by decide, by decide, by decide +kernel⟩, by decide, by decide⟩
theorem cl_L_98 : CV RL 98 yX10_game 10 cX10_game 5 (some .int) 4 := ⟨Or.inl (tg_of (tbl_4 (List.mem_of_getElem? (i := 234) (by decide +kernel))) (by decide +kernel)), tm_mX10_game, tm_sX10_game, tm_iX10, tm_cX10_game, rfl, ⟨by decide, by decide, by decide +kernel⟩, by decide, by decide⟩
def F_L_law_b1172 (xs : Nat → Int32) (Ln : Nat) (k18 : Int32 → Dt → Option Dt) (l3 : Int32) (D : Dt) : Option Dt := (bnd (l3 + (6 : Int32)) (fun v16 => (k18 v16 D)))
set_option maxRecDepth 100000 in
set_option maxHeartbeats 4000000 in
theorem T_L_law_b1172 {D' : Dt} {X : Ctx} {l : Launch} {G : Gt} {A : Nat → Prop} {lv : Nat} {xs : Nat → Int32} {Ln : Nat} {b : Nat} {k18 : Int32 → Dt → Option Dt} (hG : Gok G A) (hlv : 70 ≤ lv) (hS : Scr X b Ln xs) (C : Cx X cL_law RL G l A lv 4 (some .boolean) none D') (hk18 : ∀ (l3 : Int32) (D : Dt), k18 l3 D = some D' → J X (Rep G D) 18 [(0, .ref b), (1, .ref (ad G (10, 0, 0, 0))), (2, .ref (ad G (11, 0, 0, 0))), (3, .int l3)] []) : ∀ (l3 : Int32) (D : Dt), F_L_law_b1172 xs Ln k18 l3 D = some D' → J X (Rep G D) 1172 [(0, .ref b), (1, .ref (ad G (10, 0, 0, 0))), (2, .ref (ad G (11, 0, 0, 0))), (3, .int l3)] [] := by
  intro l3 D h
  unfold F_L_law_b1172 at h
  obtain ⟨v16, ev16, h⟩ := bnd_x h
  refine j_iinc C 3 [(3, .int v16), (0, .ref b), (1, .ref (ad G (10, 0, 0, 0))), (2, .ref (ad G (11, 0, 0, 0)))] dL_law_1172 rfl (Nat.le_of_ble_eq_true rfl) (ev16.trans (congrArg (l3 + ·) (by decide))) rfl ?_
  refine j_goto C 18 dL_law_1175 (by decide) ?_
  refine j_sub [1, 2, 3, 0] [(0, .ref b), (1, .ref (ad G (10, 0, 0, 0))), (2, .ref (ad G (11, 0, 0, 0))), (3, .int v16)] rfl ?_
  exact hk18 v16 D h
def F_L_law_b18 (xs : Nat → Int32) (Ln : Nat) (k1178 : Dt → Option Dt) : Nat → Int32 → Dt → Option Dt
  | 0, _, _ => none
  | f + 1, l3, D => (if ((Int32.ofNat Ln) - (6 : Int32)) < l3 then (k1178  D) else (grd (inB l3 Ln = true) (if ((xs l3.toNatClampNeg) &&& (31 : Int32)) = (0 : Int32) then (grd (inB (l3 + (1 : Int32)) Ln = true) (grd (inB (l3 + (2 : Int32)) Ln = true) (grd (inB (l3 + (3 : Int32)) Ln = true) (grd (inB (l3 + (4 : Int32)) Ln = true) (grd (inB (l3 + (5 : Int32)) Ln = true) (cbd (F_X10_feed (xs (l3 + (1 : Int32)).toNatClampNeg) (xs (l3 + (2 : Int32)).toNatClampNeg) (xs (l3 + (3 : Int32)).toNatClampNeg) (xs (l3 + (4 : Int32)).toNatClampNeg) (xs (l3 + (5 : Int32)).toNatClampNeg) D) (fun r10 D11 => (cbd (F_X11_feed (xs (l3 + (1 : Int32)).toNatClampNeg) (xs (l3 + (2 : Int32)).toNatClampNeg) (xs (l3 + (3 : Int32)).toNatClampNeg) (xs (l3 + (4 : Int32)).toNatClampNeg) (xs (l3 + (5 : Int32)).toNatClampNeg) D11) (fun r13 D14 => (if r10 = r13 then (F_L_law_b1172 xs Ln (fun l3_17 D18 => (F_L_law_b18 xs Ln k1178 f l3_17 D18)) l3 D14) else none)))))))))) else if ((xs l3.toNatClampNeg) &&& (31 : Int32)) = (1 : Int32) then (grd (inB (l3 + (1 : Int32)) Ln = true) (cbd (F_X10_end (xs (l3 + (1 : Int32)).toNatClampNeg) D) (fun r22 D23 => (cbd (F_X11_end (xs (l3 + (1 : Int32)).toNatClampNeg) D23) (fun r25 D26 => (if r22 = r25 then (F_L_law_b1172 xs Ln (fun l3_28 D29 => (F_L_law_b18 xs Ln k1178 f l3_28 D29)) l3 D26) else none)))))) else if ((xs l3.toNatClampNeg) &&& (31 : Int32)) = (2 : Int32) then (cbd (F_X10_table  D) (fun r32 D33 => (cbd (F_X11_table  D33) (fun r35 D36 => (if r32 = r35 then (F_L_law_b1172 xs Ln (fun l3_38 D39 => (F_L_law_b18 xs Ln k1178 f l3_38 D39)) l3 D36) else none))))) else if ((xs l3.toNatClampNeg) &&& (31 : Int32)) = (3 : Int32) then (cbd (F_X10_rule  D) (fun r42 D43 => (cbd (F_X11_rule  D43) (fun r45 D46 => (if r42 = r45 then (F_L_law_b1172 xs Ln (fun l3_48 D49 => (F_L_law_b18 xs Ln k1178 f l3_48 D49)) l3 D46) else none))))) else if ((xs l3.toNatClampNeg) &&& (31 : Int32)) = (4 : Int32) then (grd (inB (l3 + (1 : Int32)) Ln = true) (cbd (F_X10_force (xs (l3 + (1 : Int32)).toNatClampNeg) D) (fun r53 D54 => (cbd (F_X11_force (xs (l3 + (1 : Int32)).toNatClampNeg) D54) (fun r56 D57 => (if r53 = r56 then (F_L_law_b1172 xs Ln (fun l3_59 D60 => (F_L_law_b18 xs Ln k1178 f l3_59 D60)) l3 D57) else none)))))) else if ((xs l3.toNatClampNeg) &&& (31 : Int32)) = (5 : Int32) then (grd (inB (l3 + (1 : Int32)) Ln = true) (grd (inB (l3 + (2 : Int32)) Ln = true) (cbd (F_X10_land (xs (l3 + (1 : Int32)).toNatClampNeg) (xs (l3 + (2 : Int32)).toNatClampNeg) D) (fun r65 D66 => (cbd (F_X11_land (xs (l3 + (1 : Int32)).toNatClampNeg) (xs (l3 + (2 : Int32)).toNatClampNeg) D66) (fun r68 D69 => (if r65 = r68 then (F_L_law_b1172 xs Ln (fun l3_71 D72 => (F_L_law_b18 xs Ln k1178 f l3_71 D72)) l3 D69) else none))))))) else if ((xs l3.toNatClampNeg) &&& (31 : Int32)) = (6 : Int32) then (grd (inB (l3 + (1 : Int32)) Ln = true) (grd (inB (l3 + (2 : Int32)) Ln = true) (cbd (F_X10_told (xs (l3 + (1 : Int32)).toNatClampNeg) (xs (l3 + (2 : Int32)).toNatClampNeg) D) (fun r77 D78 => (cbd (F_X11_told (xs (l3 + (1 : Int32)).toNatClampNeg) (xs (l3 + (2 : Int32)).toNatClampNeg) D78) (fun r80 D81 => (if r77 = r80 then (F_L_law_b1172 xs Ln (fun l3_83 D84 => (F_L_law_b18 xs Ln k1178 f l3_83 D84)) l3 D81) else none))))))) else if ((xs l3.toNatClampNeg) &&& (31 : Int32)) = (7 : Int32) then (cbd (F_X10_week  D) (fun r87 D88 => (cbd (F_X11_week  D88) (fun r90 D91 => (if r87 = r90 then (F_L_law_b1172 xs Ln (fun l3_93 D94 => (F_L_law_b18 xs Ln k1178 f l3_93 D94)) l3 D91) else none))))) else if ((xs l3.toNatClampNeg) &&& (31 : Int32)) = (8 : Int32) then (grd (inB (l3 + (1 : Int32)) Ln = true) (grd (inB (l3 + (2 : Int32)) Ln = true) (cbd (F_X10_swap (xs (l3 + (1 : Int32)).toNatClampNeg) (xs (l3 + (2 : Int32)).toNatClampNeg) D) (fun r99 D100 => (cbd (F_X11_swap (xs (l3 + (1 : Int32)).toNatClampNeg) (xs (l3 + (2 : Int32)).toNatClampNeg) D100) (fun r102 D103 => (if r99 = r102 then (F_L_law_b1172 xs Ln (fun l3_105 D106 => (F_L_law_b18 xs Ln k1178 f l3_105 D106)) l3 D103) else none))))))) else if ((xs l3.toNatClampNeg) &&& (31 : Int32)) = (9 : Int32) then (grd (inB (l3 + (1 : Int32)) Ln = true) (grd (inB (l3 + (2 : Int32)) Ln = true) (grd (inB (l3 + (3 : Int32)) Ln = true) (cbd (F_X10_give (xs (l3 + (1 : Int32)).toNatClampNeg) (xs (l3 + (2 : Int32)).toNatClampNeg) (xs (l3 + (3 : Int32)).toNatClampNeg) D) (fun r112 D113 => (cbd (F_X11_give (xs (l3 + (1 : Int32)).toNatClampNeg) (xs (l3 + (2 : Int32)).toNatClampNeg) (xs (l3 + (3 : Int32)).toNatClampNeg) D113) (fun r115 D116 => (if r112 = r115 then (F_L_law_b1172 xs Ln (fun l3_118 D119 => (F_L_law_b18 xs Ln k1178 f l3_118 D119)) l3 D116) else none)))))))) else if ((xs l3.toNatClampNeg) &&& (31 : Int32)) = (10 : Int32) then (grd (inB (l3 + (1 : Int32)) Ln = true) (grd (inB (l3 + (2 : Int32)) Ln = true) (cbd (F_X10_fight (xs (l3 + (1 : Int32)).toNatClampNeg) (xs (l3 + (2 : Int32)).toNatClampNeg) D) (fun r124 D125 => (cbd (F_X11_fight (xs (l3 + (1 : Int32)).toNatClampNeg) (xs (l3 + (2 : Int32)).toNatClampNeg) D125) (fun r127 D128 => (if r124 = r127 then (F_L_law_b1172 xs Ln (fun l3_130 D131 => (F_L_law_b18 xs Ln k1178 f l3_130 D131)) l3 D128) else none))))))) else if ((xs l3.toNatClampNeg) &&& (31 : Int32)) = (11 : Int32) then (grd (inB (l3 + (1 : Int32)) Ln = true) (cbd (F_X10_set (xs (l3 + (1 : Int32)).toNatClampNeg) D) (fun r135 D136 => (cbd (F_X11_set (xs (l3 + (1 : Int32)).toNatClampNeg) D136) (fun r138 D139 => (if r135 = r138 then (F_L_law_b1172 xs Ln (fun l3_141 D142 => (F_L_law_b18 xs Ln k1178 f l3_141 D142)) l3 D139) else none)))))) else if ((xs l3.toNatClampNeg) &&& (31 : Int32)) = (12 : Int32) then (cbd (F_X10_undo  D) (fun r145 D146 => (cbd (F_X11_undo  D146) (fun r148 D149 => (if r145 = r148 then (F_L_law_b1172 xs Ln (fun l3_151 D152 => (F_L_law_b18 xs Ln k1178 f l3_151 D152)) l3 D149) else none))))) else if ((xs l3.toNatClampNeg) &&& (31 : Int32)) = (13 : Int32) then (grd (inB (l3 + (1 : Int32)) Ln = true) (grd (inB (l3 + (2 : Int32)) Ln = true) (grd (inB (l3 + (3 : Int32)) Ln = true) (cbd (F_X10_ahead (xs (l3 + (1 : Int32)).toNatClampNeg) (xs (l3 + (2 : Int32)).toNatClampNeg) (xs (l3 + (3 : Int32)).toNatClampNeg) D) (fun r158 D159 => (cbd (F_X11_ahead (xs (l3 + (1 : Int32)).toNatClampNeg) (xs (l3 + (2 : Int32)).toNatClampNeg) (xs (l3 + (3 : Int32)).toNatClampNeg) D159) (fun r161 D162 => (if r158 = r161 then (F_L_law_b1172 xs Ln (fun l3_164 D165 => (F_L_law_b18 xs Ln k1178 f l3_164 D165)) l3 D162) else none)))))))) else if ((xs l3.toNatClampNeg) &&& (31 : Int32)) = (14 : Int32) then (grd (inB (l3 + (1 : Int32)) Ln = true) (cbd (F_X10_bare (xs (l3 + (1 : Int32)).toNatClampNeg) D) (fun r169 D170 => (cbd (F_X11_bare (xs (l3 + (1 : Int32)).toNatClampNeg) D170) (fun r172 D173 => (if r169 = r172 then (F_L_law_b1172 xs Ln (fun l3_175 D176 => (F_L_law_b18 xs Ln k1178 f l3_175 D176)) l3 D173) else none)))))) else if ((xs l3.toNatClampNeg) &&& (31 : Int32)) = (15 : Int32) then (grd (inB (l3 + (1 : Int32)) Ln = true) (grd (inB (l3 + (2 : Int32)) Ln = true) (grd (inB (l3 + (3 : Int32)) Ln = true) (cbd (F_X10_row (xs (l3 + (1 : Int32)).toNatClampNeg) (xs (l3 + (2 : Int32)).toNatClampNeg) (xs (l3 + (3 : Int32)).toNatClampNeg) D) (fun r182 D183 => (cbd (F_X11_row (xs (l3 + (1 : Int32)).toNatClampNeg) (xs (l3 + (2 : Int32)).toNatClampNeg) (xs (l3 + (3 : Int32)).toNatClampNeg) D183) (fun r185 D186 => (if r182 = r185 then (F_L_law_b1172 xs Ln (fun l3_188 D189 => (F_L_law_b18 xs Ln k1178 f l3_188 D189)) l3 D186) else none)))))))) else if ((xs l3.toNatClampNeg) &&& (31 : Int32)) = (16 : Int32) then (grd (inB (l3 + (1 : Int32)) Ln = true) (grd (inB (l3 + (2 : Int32)) Ln = true) (cbd (F_X10_best (xs (l3 + (1 : Int32)).toNatClampNeg) (xs (l3 + (2 : Int32)).toNatClampNeg) D) (fun r194 D195 => (cbd (F_X11_best (xs (l3 + (1 : Int32)).toNatClampNeg) (xs (l3 + (2 : Int32)).toNatClampNeg) D195) (fun r197 D198 => (if r194 = r197 then (F_L_law_b1172 xs Ln (fun l3_200 D201 => (F_L_law_b18 xs Ln k1178 f l3_200 D201)) l3 D198) else none))))))) else if ((xs l3.toNatClampNeg) &&& (31 : Int32)) = (17 : Int32) then (cbd (F_X10_quiet  D) (fun r204 D205 => (cbd (F_X11_quiet  D205) (fun r207 D208 => (if r204 = r207 then (F_L_law_b1172 xs Ln (fun l3_210 D211 => (F_L_law_b18 xs Ln k1178 f l3_210 D211)) l3 D208) else none))))) else if ((xs l3.toNatClampNeg) &&& (31 : Int32)) = (18 : Int32) then (grd (inB (l3 + (1 : Int32)) Ln = true) (grd (inB (l3 + (2 : Int32)) Ln = true) (grd (inB (l3 + (3 : Int32)) Ln = true) (cbd (F_X10_worth (xs (l3 + (1 : Int32)).toNatClampNeg) (xs (l3 + (2 : Int32)).toNatClampNeg) (xs (l3 + (3 : Int32)).toNatClampNeg) D) (fun r217 D218 => (cbd (F_X11_worth (xs (l3 + (1 : Int32)).toNatClampNeg) (xs (l3 + (2 : Int32)).toNatClampNeg) (xs (l3 + (3 : Int32)).toNatClampNeg) D218) (fun r220 D221 => (if r217 = r220 then (F_L_law_b1172 xs Ln (fun l3_223 D224 => (F_L_law_b18 xs Ln k1178 f l3_223 D224)) l3 D221) else none)))))))) else if ((xs l3.toNatClampNeg) &&& (31 : Int32)) = (19 : Int32) then (grd (inB (l3 + (1 : Int32)) Ln = true) (grd (inB (l3 + (2 : Int32)) Ln = true) (grd (inB (l3 + (3 : Int32)) Ln = true) (cbd (F_X10_need (xs (l3 + (1 : Int32)).toNatClampNeg) (xs (l3 + (2 : Int32)).toNatClampNeg) (xs (l3 + (3 : Int32)).toNatClampNeg) D) (fun r230 D231 => (cbd (F_X11_need (xs (l3 + (1 : Int32)).toNatClampNeg) (xs (l3 + (2 : Int32)).toNatClampNeg) (xs (l3 + (3 : Int32)).toNatClampNeg) D231) (fun r233 D234 => (if r230 = r233 then (F_L_law_b1172 xs Ln (fun l3_236 D237 => (F_L_law_b18 xs Ln k1178 f l3_236 D237)) l3 D234) else none)))))))) else if ((xs l3.toNatClampNeg) &&& (31 : Int32)) = (20 : Int32) then (grd (inB (l3 + (1 : Int32)) Ln = true) (grd (inB (l3 + (2 : Int32)) Ln = true) (grd (inB (l3 + (3 : Int32)) Ln = true) (grd (inB (l3 + (4 : Int32)) Ln = true) (cbd (F_X10_game (xs (l3 + (1 : Int32)).toNatClampNeg) (xs (l3 + (2 : Int32)).toNatClampNeg) (xs (l3 + (3 : Int32)).toNatClampNeg) (xs (l3 + (4 : Int32)).toNatClampNeg) D) (fun r244 D245 => (cbd (F_X11_game (xs (l3 + (1 : Int32)).toNatClampNeg) (xs (l3 + (2 : Int32)).toNatClampNeg) (xs (l3 + (3 : Int32)).toNatClampNeg) (xs (l3 + (4 : Int32)).toNatClampNeg) D245) (fun r247 D248 => (if r244 = r247 then (F_L_law_b1172 xs Ln (fun l3_250 D251 => (F_L_law_b18 xs Ln k1178 f l3_250 D251)) l3 D248) else none))))))))) else if ((xs l3.toNatClampNeg) &&& (31 : Int32)) = (21 : Int32) then (grd (inB (l3 + (1 : Int32)) Ln = true) (grd (inB (l3 + (2 : Int32)) Ln = true) (cbd (F_X10_shun (xs (l3 + (1 : Int32)).toNatClampNeg) (xs (l3 + (2 : Int32)).toNatClampNeg) D) (fun r256 D257 => (cbd (F_X11_shun (xs (l3 + (1 : Int32)).toNatClampNeg) (xs (l3 + (2 : Int32)).toNatClampNeg) D257) (fun r259 D260 => (if r256 = r259 then (F_L_law_b1172 xs Ln (fun l3_262 D263 => (F_L_law_b18 xs Ln k1178 f l3_262 D263)) l3 D260) else none))))))) else if ((xs l3.toNatClampNeg) &&& (31 : Int32)) = (22 : Int32) then (grd (inB (l3 + (1 : Int32)) Ln = true) (grd (inB (l3 + (2 : Int32)) Ln = true) (cbd (F_X10_mother (xs (l3 + (1 : Int32)).toNatClampNeg) (xs (l3 + (2 : Int32)).toNatClampNeg) D) (fun r268 D269 => (cbd (F_X11_mother (xs (l3 + (1 : Int32)).toNatClampNeg) (xs (l3 + (2 : Int32)).toNatClampNeg) D269) (fun r271 D272 => (if r268 = r271 then (F_L_law_b1172 xs Ln (fun l3_274 D275 => (F_L_law_b18 xs Ln k1178 f l3_274 D275)) l3 D272) else none))))))) else if ((xs l3.toNatClampNeg) &&& (31 : Int32)) = (23 : Int32) then (grd (inB (l3 + (1 : Int32)) Ln = true) (grd (inB (l3 + (2 : Int32)) Ln = true) (cbd (F_X10_parts (xs (l3 + (1 : Int32)).toNatClampNeg) (xs (l3 + (2 : Int32)).toNatClampNeg) D) (fun r280 D281 => (cbd (F_X11_parts (xs (l3 + (1 : Int32)).toNatClampNeg) (xs (l3 + (2 : Int32)).toNatClampNeg) D281) (fun r283 D284 => (if r280 = r283 then (F_L_law_b1172 xs Ln (fun l3_286 D287 => (F_L_law_b18 xs Ln k1178 f l3_286 D287)) l3 D284) else none))))))) else if ((xs l3.toNatClampNeg) &&& (31 : Int32)) = (24 : Int32) then (grd (inB (l3 + (1 : Int32)) Ln = true) (grd (inB (l3 + (2 : Int32)) Ln = true) (grd (inB (l3 + (3 : Int32)) Ln = true) (cbd (F_X10_note (xs (l3 + (1 : Int32)).toNatClampNeg) (xs (l3 + (2 : Int32)).toNatClampNeg) (xs (l3 + (3 : Int32)).toNatClampNeg) D) (fun r293 D294 => (cbd (F_X11_note (xs (l3 + (1 : Int32)).toNatClampNeg) (xs (l3 + (2 : Int32)).toNatClampNeg) (xs (l3 + (3 : Int32)).toNatClampNeg) D294) (fun r296 D297 => (if r293 = r296 then (F_L_law_b1172 xs Ln (fun l3_299 D300 => (F_L_law_b18 xs Ln k1178 f l3_299 D300)) l3 D297) else none)))))))) else if ((xs l3.toNatClampNeg) &&& (31 : Int32)) = (25 : Int32) then (grd (inB (l3 + (1 : Int32)) Ln = true) (cbd (F_X10_ruled (xs (l3 + (1 : Int32)).toNatClampNeg) D) (fun r304 D305 => (cbd (F_X11_ruled (xs (l3 + (1 : Int32)).toNatClampNeg) D305) (fun r307 D308 => (if r304 = r307 then (F_L_law_b1172 xs Ln (fun l3_310 D311 => (F_L_law_b18 xs Ln k1178 f l3_310 D311)) l3 D308) else none)))))) else if ((xs l3.toNatClampNeg) &&& (31 : Int32)) = (26 : Int32) then (grd (inB (l3 + (1 : Int32)) Ln = true) (grd (inB (l3 + (2 : Int32)) Ln = true) (cbd (F_X10_look (xs (l3 + (1 : Int32)).toNatClampNeg) (xs (l3 + (2 : Int32)).toNatClampNeg) D) (fun r316 D317 => (cbd (F_X11_look (xs (l3 + (1 : Int32)).toNatClampNeg) (xs (l3 + (2 : Int32)).toNatClampNeg) D317) (fun r319 D320 => (if r316 = r319 then (F_L_law_b1172 xs Ln (fun l3_322 D323 => (F_L_law_b18 xs Ln k1178 f l3_322 D323)) l3 D320) else none))))))) else if ((xs l3.toNatClampNeg) &&& (31 : Int32)) = (27 : Int32) then (grd (inB (l3 + (1 : Int32)) Ln = true) (cbd (F_X10_seed (xs (l3 + (1 : Int32)).toNatClampNeg) D) (fun r327 D328 => (cbd (F_X11_seed (xs (l3 + (1 : Int32)).toNatClampNeg) D328) (fun r330 D331 => (if r327 = r330 then (F_L_law_b1172 xs Ln (fun l3_333 D334 => (F_L_law_b18 xs Ln k1178 f l3_333 D334)) l3 D331) else none)))))) else if ((xs l3.toNatClampNeg) &&& (31 : Int32)) = (28 : Int32) then (grd (inB (l3 + (1 : Int32)) Ln = true) (grd (inB (l3 + (2 : Int32)) Ln = true) (grd (inB (l3 + (3 : Int32)) Ln = true) (grd (inB (l3 + (4 : Int32)) Ln = true) (cbd (F_X10_summers (xs (l3 + (1 : Int32)).toNatClampNeg) (xs (l3 + (2 : Int32)).toNatClampNeg) (xs (l3 + (3 : Int32)).toNatClampNeg) (xs (l3 + (4 : Int32)).toNatClampNeg) D) (fun r341 D342 => (cbd (F_X11_summers (xs (l3 + (1 : Int32)).toNatClampNeg) (xs (l3 + (2 : Int32)).toNatClampNeg) (xs (l3 + (3 : Int32)).toNatClampNeg) (xs (l3 + (4 : Int32)).toNatClampNeg) D342) (fun r344 D345 => (if r341 = r344 then (F_L_law_b1172 xs Ln (fun l3_347 D348 => (F_L_law_b18 xs Ln k1178 f l3_347 D348)) l3 D345) else none))))))))) else if ((xs l3.toNatClampNeg) &&& (31 : Int32)) = (29 : Int32) then (grd (inB (l3 + (1 : Int32)) Ln = true) (cbd (F_X10_count (xs (l3 + (1 : Int32)).toNatClampNeg) D) (fun r352 D353 => (cbd (F_X11_count (xs (l3 + (1 : Int32)).toNatClampNeg) D353) (fun r355 D356 => (if r352 = r355 then (F_L_law_b1172 xs Ln (fun l3_358 D359 => (F_L_law_b18 xs Ln k1178 f l3_358 D359)) l3 D356) else none)))))) else if ((xs l3.toNatClampNeg) &&& (31 : Int32)) = (30 : Int32) then (grd (inB (l3 + (1 : Int32)) Ln = true) (cbd (F_X10_image (xs (l3 + (1 : Int32)).toNatClampNeg) D) (fun r363 D364 => (cbd (F_X11_image (xs (l3 + (1 : Int32)).toNatClampNeg) D364) (fun r366 D367 => (if r363 = r366 then (F_L_law_b1172 xs Ln (fun l3_369 D370 => (F_L_law_b18 xs Ln k1178 f l3_369 D370)) l3 D367) else none)))))) else if ((xs l3.toNatClampNeg) &&& (31 : Int32)) = (31 : Int32) then (grd (inB (l3 + (1 : Int32)) Ln = true) (cbd (F_X10_back (xs (l3 + (1 : Int32)).toNatClampNeg) D) (fun r374 D375 => (cbd (F_X11_back (xs (l3 + (1 : Int32)).toNatClampNeg) D375) (fun r377 D378 => (if r374 = r377 then (F_L_law_b1172 xs Ln (fun l3_380 D381 => (F_L_law_b18 xs Ln k1178 f l3_380 D381)) l3 D378) else none)))))) else (F_L_law_b1172 xs Ln (fun l3_382 D383 => (F_L_law_b18 xs Ln k1178 f l3_382 D383)) l3 D))))
set_option maxRecDepth 100000 in
set_option maxHeartbeats 4000000 in
theorem T_L_law_b18 {D' : Dt} {X : Ctx} {l : Launch} {G : Gt} {A : Nat → Prop} {lv : Nat} {xs : Nat → Int32} {Ln : Nat} {b : Nat} {k1178 : Dt → Option Dt} (hG : Gok G A) (hlv : 70 ≤ lv) (hS : Scr X b Ln xs) (C : Cx X cL_law RL G l A lv 4 (some .boolean) none D') (hk1178 : ∀  (D : Dt), k1178  D = some D' → J X (Rep G D) 1178 [] []) : ∀ (f : Nat) (l3 : Int32) (D : Dt), F_L_law_b18 xs Ln k1178 f l3 D = some D' → J X (Rep G D) 18 [(0, .ref b), (1, .ref (ad G (10, 0, 0, 0))), (2, .ref (ad G (11, 0, 0, 0))), (3, .int l3)] [] := by
  intro f
  induction f with
  | zero =>
    intro l3 D h
    exact nomatch h
  | succ f ih =>
    intro l3 D h
    rw [F_L_law_b18] at h
    refine j_iload_n C 3 dL_law_18 rfl rfl ?_
    refine j_aload_n C 0 dL_law_19 rfl rfl ?_
    refine j_scl C hS dL_law_20 ?_
    refine j_bipush C (6 : Int32) (by decide) dL_law_21 ?_
    refine j_isub C dL_law_23 ?_
    refine j_icmp_gt C 1178 dL_law_24 (by decide) (fun c1 => ?_) (fun c1 => ?_)
    · have h := ite_t c1 h
      refine j_sub [] [] rfl ?_
      exact hk1178  D h
    · have h := ite_f c1 h
      refine j_aload_n C 0 dL_law_27 rfl rfl ?_
      refine j_iload_n C 3 dL_law_28 rfl rfl ?_
      obtain ⟨g2, h⟩ := grd_x h
      refine j_scr C hS g2 dL_law_29 ?_
      refine j_bipush C (31 : Int32) (by decide) dL_law_30 ?_
      refine j_iand C dL_law_32 ?_
      by_cases c3 : ((xs l3.toNatClampNeg) &&& (31 : Int32)) = (0 : Int32)
      · have h := ite_t c3 h
        refine j_tabIn C (off := 143) (0 : Int32) 176 dL_law_33 c3 ⟨by decide, by decide⟩ (by decide +kernel) (by decide) ?_
        refine j_aload_n C 1 dL_law_176 rfl rfl ?_
        refine j_aload_n C 0 dL_law_177 rfl rfl ?_
        refine j_iload_n C 3 dL_law_178 rfl rfl ?_
        refine j_iconst C (1 : Int32) (by decide) dL_law_179 ?_
        refine j_iadd C dL_law_180 ?_
        obtain ⟨g4, h⟩ := grd_x h
        refine j_scr C hS g4 dL_law_181 ?_
        refine j_aload_n C 0 dL_law_182 rfl rfl ?_
        refine j_iload_n C 3 dL_law_183 rfl rfl ?_
        refine j_iconst C (2 : Int32) (by decide) dL_law_184 ?_
        refine j_iadd C dL_law_185 ?_
        obtain ⟨g5, h⟩ := grd_x h
        refine j_scr C hS g5 dL_law_186 ?_
        refine j_aload_n C 0 dL_law_187 rfl rfl ?_
        refine j_iload_n C 3 dL_law_188 rfl rfl ?_
        refine j_iconst C (3 : Int32) (by decide) dL_law_189 ?_
        refine j_iadd C dL_law_190 ?_
        obtain ⟨g6, h⟩ := grd_x h
        refine j_scr C hS g6 dL_law_191 ?_
        refine j_aload_n C 0 dL_law_192 rfl rfl ?_
        refine j_iload_n C 3 dL_law_193 rfl rfl ?_
        refine j_iconst C (4 : Int32) (by decide) dL_law_194 ?_
        refine j_iadd C dL_law_195 ?_
        obtain ⟨g7, h⟩ := grd_x h
        refine j_scr C hS g7 dL_law_196 ?_
        refine j_aload_n C 0 dL_law_197 rfl rfl ?_
        refine j_iload_n C 3 dL_law_198 rfl rfl ?_
        refine j_iconst C (5 : Int32) (by decide) dL_law_199 ?_
        refine j_iadd C dL_law_200 ?_
        obtain ⟨g8, h⟩ := grd_x h
        refine j_scr C hS g8 dL_law_201 ?_
        obtain ⟨r10, D11, h9, h⟩ := cbd_x h
        refine j_callV C [.int (xs (l3 + (1 : Int32)).toNatClampNeg), .int (xs (l3 + (2 : Int32)).toNatClampNeg), .int (xs (l3 + (3 : Int32)).toNatClampNeg), .int (xs (l3 + (4 : Int32)).toNatClampNeg), .int (xs (l3 + (5 : Int32)).toNatClampNeg)] [] cl_L_13 (M_X10_feed (lv := lv - 1) hG (by omega) h9) (by omega) dL_law_202 (by decide) ⟨rfl, rfl⟩ rfl rfl (Nat.le_of_ble_eq_true rfl) ?_
        refine j_st (st' := [.int r10]) rfl ?_
        refine j_aload_n C 2 dL_law_205 rfl rfl ?_
        refine j_aload_n C 0 dL_law_206 rfl rfl ?_
        refine j_iload_n C 3 dL_law_207 rfl rfl ?_
        refine j_iconst C (1 : Int32) (by decide) dL_law_208 ?_
        refine j_iadd C dL_law_209 ?_
        refine j_scr C hS g4 dL_law_210 ?_
        refine j_aload_n C 0 dL_law_211 rfl rfl ?_
        refine j_iload_n C 3 dL_law_212 rfl rfl ?_
        refine j_iconst C (2 : Int32) (by decide) dL_law_213 ?_
        refine j_iadd C dL_law_214 ?_
        refine j_scr C hS g5 dL_law_215 ?_
        refine j_aload_n C 0 dL_law_216 rfl rfl ?_
        refine j_iload_n C 3 dL_law_217 rfl rfl ?_
        refine j_iconst C (3 : Int32) (by decide) dL_law_218 ?_
        refine j_iadd C dL_law_219 ?_
        refine j_scr C hS g6 dL_law_220 ?_
        refine j_aload_n C 0 dL_law_221 rfl rfl ?_
        refine j_iload_n C 3 dL_law_222 rfl rfl ?_
        refine j_iconst C (4 : Int32) (by decide) dL_law_223 ?_
        refine j_iadd C dL_law_224 ?_
        refine j_scr C hS g7 dL_law_225 ?_
        refine j_aload_n C 0 dL_law_226 rfl rfl ?_
        refine j_iload_n C 3 dL_law_227 rfl rfl ?_
        refine j_iconst C (5 : Int32) (by decide) dL_law_228 ?_
        refine j_iadd C dL_law_229 ?_
        refine j_scr C hS g8 dL_law_230 ?_
        obtain ⟨r13, D14, h12, h⟩ := cbd_x h
        refine j_callV C [.int (xs (l3 + (1 : Int32)).toNatClampNeg), .int (xs (l3 + (2 : Int32)).toNatClampNeg), .int (xs (l3 + (3 : Int32)).toNatClampNeg), .int (xs (l3 + (4 : Int32)).toNatClampNeg), .int (xs (l3 + (5 : Int32)).toNatClampNeg)] [.int r10] cl_L_17 (M_X11_feed (lv := lv - 1) hG (by omega) h12) (by omega) dL_law_231 (by decide) ⟨rfl, rfl⟩ rfl rfl (Nat.le_of_ble_eq_true rfl) ?_
        refine j_st (st' := [.int r13, .int r10]) rfl ?_
        refine j_icmp_eq C 1172 dL_law_234 (by decide) (fun c15 => ?_) (fun c15 => ?_)
        · have h := ite_t c15 h
          refine T_L_law_b1172 hG hlv hS C (fun l3_17 D18 h => ?_) l3 D14 h
          · exact ih l3_17 D18 h
        · have h := ite_f c15 h
          exact nomatch h
      have h := ite_f c3 h
      by_cases c19 : ((xs l3.toNatClampNeg) &&& (31 : Int32)) = (1 : Int32)
      · have h := ite_t c19 h
        refine j_tabIn C (off := 206) (1 : Int32) 239 dL_law_33 c19 ⟨by decide, by decide⟩ (by decide +kernel) (by decide) ?_
        refine j_aload_n C 1 dL_law_239 rfl rfl ?_
        refine j_aload_n C 0 dL_law_240 rfl rfl ?_
        refine j_iload_n C 3 dL_law_241 rfl rfl ?_
        refine j_iconst C (1 : Int32) (by decide) dL_law_242 ?_
        refine j_iadd C dL_law_243 ?_
        obtain ⟨g20, h⟩ := grd_x h
        refine j_scr C hS g20 dL_law_244 ?_
        obtain ⟨r22, D23, h21, h⟩ := cbd_x h
        refine j_callV C [.int (xs (l3 + (1 : Int32)).toNatClampNeg)] [] cl_L_18 (M_X10_end (lv := lv - 1) hG (by omega) h21) (by omega) dL_law_245 (by decide) ⟨rfl, rfl⟩ rfl rfl (Nat.le_of_ble_eq_true rfl) ?_
        refine j_st (st' := [.int r22]) rfl ?_
        refine j_aload_n C 2 dL_law_248 rfl rfl ?_
        refine j_aload_n C 0 dL_law_249 rfl rfl ?_
        refine j_iload_n C 3 dL_law_250 rfl rfl ?_
        refine j_iconst C (1 : Int32) (by decide) dL_law_251 ?_
        refine j_iadd C dL_law_252 ?_
        refine j_scr C hS g20 dL_law_253 ?_
        obtain ⟨r25, D26, h24, h⟩ := cbd_x h
        refine j_callV C [.int (xs (l3 + (1 : Int32)).toNatClampNeg)] [.int r22] cl_L_22 (M_X11_end (lv := lv - 1) hG (by omega) h24) (by omega) dL_law_254 (by decide) ⟨rfl, rfl⟩ rfl rfl (Nat.le_of_ble_eq_true rfl) ?_
        refine j_st (st' := [.int r25, .int r22]) rfl ?_
        refine j_icmp_eq C 1172 dL_law_257 (by decide) (fun c27 => ?_) (fun c27 => ?_)
        · have h := ite_t c27 h
          refine T_L_law_b1172 hG hlv hS C (fun l3_28 D29 h => ?_) l3 D26 h
          · exact ih l3_28 D29 h
        · have h := ite_f c27 h
          exact nomatch h
      have h := ite_f c19 h
      by_cases c30 : ((xs l3.toNatClampNeg) &&& (31 : Int32)) = (2 : Int32)
      · have h := ite_t c30 h
        refine j_tabIn C (off := 229) (2 : Int32) 262 dL_law_33 c30 ⟨by decide, by decide⟩ (by decide +kernel) (by decide) ?_
        refine j_aload_n C 1 dL_law_262 rfl rfl ?_
        obtain ⟨r32, D33, h31, h⟩ := cbd_x h
        refine j_callV C [] [] cl_L_23 (M_X10_table (lv := lv - 1) hG (by omega) h31) (by omega) dL_law_263 (by decide) ⟨rfl, rfl⟩ rfl rfl (Nat.le_of_ble_eq_true rfl) ?_
        refine j_st (st' := [.int r32]) rfl ?_
        refine j_aload_n C 2 dL_law_266 rfl rfl ?_
        obtain ⟨r35, D36, h34, h⟩ := cbd_x h
        refine j_callV C [] [.int r32] cl_L_27 (M_X11_table (lv := lv - 1) hG (by omega) h34) (by omega) dL_law_267 (by decide) ⟨rfl, rfl⟩ rfl rfl (Nat.le_of_ble_eq_true rfl) ?_
        refine j_st (st' := [.int r35, .int r32]) rfl ?_
        refine j_icmp_eq C 1172 dL_law_270 (by decide) (fun c37 => ?_) (fun c37 => ?_)
        · have h := ite_t c37 h
          refine T_L_law_b1172 hG hlv hS C (fun l3_38 D39 h => ?_) l3 D36 h
          · exact ih l3_38 D39 h
        · have h := ite_f c37 h
          exact nomatch h
      have h := ite_f c30 h
      by_cases c40 : ((xs l3.toNatClampNeg) &&& (31 : Int32)) = (3 : Int32)
      · have h := ite_t c40 h
        refine j_tabIn C (off := 242) (3 : Int32) 275 dL_law_33 c40 ⟨by decide, by decide⟩ (by decide +kernel) (by decide) ?_
        refine j_aload_n C 1 dL_law_275 rfl rfl ?_
        obtain ⟨r42, D43, h41, h⟩ := cbd_x h
        refine j_callV C [] [] cl_L_28 (M_X10_rule (lv := lv - 1) hG (by omega) h41) (by omega) dL_law_276 (by decide) ⟨rfl, rfl⟩ rfl rfl (Nat.le_of_ble_eq_true rfl) ?_
        refine j_st (st' := [.int r42]) rfl ?_
        refine j_aload_n C 2 dL_law_279 rfl rfl ?_
        obtain ⟨r45, D46, h44, h⟩ := cbd_x h
        refine j_callV C [] [.int r42] cl_L_31 (M_X11_rule (lv := lv - 1) hG (by omega) h44) (by omega) dL_law_280 (by decide) ⟨rfl, rfl⟩ rfl rfl (Nat.le_of_ble_eq_true rfl) ?_
        refine j_st (st' := [.int r45, .int r42]) rfl ?_
        refine j_icmp_eq C 1172 dL_law_283 (by decide) (fun c47 => ?_) (fun c47 => ?_)
        · have h := ite_t c47 h
          refine T_L_law_b1172 hG hlv hS C (fun l3_48 D49 h => ?_) l3 D46 h
          · exact ih l3_48 D49 h
        · have h := ite_f c47 h
          exact nomatch h
      have h := ite_f c40 h
      by_cases c50 : ((xs l3.toNatClampNeg) &&& (31 : Int32)) = (4 : Int32)
      · have h := ite_t c50 h
        refine j_tabIn C (off := 255) (4 : Int32) 288 dL_law_33 c50 ⟨by decide, by decide⟩ (by decide +kernel) (by decide) ?_
        refine j_aload_n C 1 dL_law_288 rfl rfl ?_
        refine j_aload_n C 0 dL_law_289 rfl rfl ?_
        refine j_iload_n C 3 dL_law_290 rfl rfl ?_
        refine j_iconst C (1 : Int32) (by decide) dL_law_291 ?_
        refine j_iadd C dL_law_292 ?_
        obtain ⟨g51, h⟩ := grd_x h
        refine j_scr C hS g51 dL_law_293 ?_
        obtain ⟨r53, D54, h52, h⟩ := cbd_x h
        refine j_callV C [.int (xs (l3 + (1 : Int32)).toNatClampNeg)] [] cl_L_32 (M_X10_force (lv := lv - 1) hG (by omega) h52) (by omega) dL_law_294 (by decide) ⟨rfl, rfl⟩ rfl rfl (Nat.le_of_ble_eq_true rfl) ?_
        refine j_st (st' := [.int r53]) rfl ?_
        refine j_aload_n C 2 dL_law_297 rfl rfl ?_
        refine j_aload_n C 0 dL_law_298 rfl rfl ?_
        refine j_iload_n C 3 dL_law_299 rfl rfl ?_
        refine j_iconst C (1 : Int32) (by decide) dL_law_300 ?_
        refine j_iadd C dL_law_301 ?_
        refine j_scr C hS g51 dL_law_302 ?_
        obtain ⟨r56, D57, h55, h⟩ := cbd_x h
        refine j_callV C [.int (xs (l3 + (1 : Int32)).toNatClampNeg)] [.int r53] cl_L_35 (M_X11_force (lv := lv - 1) hG (by omega) h55) (by omega) dL_law_303 (by decide) ⟨rfl, rfl⟩ rfl rfl (Nat.le_of_ble_eq_true rfl) ?_
        refine j_st (st' := [.int r56, .int r53]) rfl ?_
        refine j_icmp_eq C 1172 dL_law_306 (by decide) (fun c58 => ?_) (fun c58 => ?_)
        · have h := ite_t c58 h
          refine T_L_law_b1172 hG hlv hS C (fun l3_59 D60 h => ?_) l3 D57 h
          · exact ih l3_59 D60 h
        · have h := ite_f c58 h
          exact nomatch h
      have h := ite_f c50 h
      by_cases c61 : ((xs l3.toNatClampNeg) &&& (31 : Int32)) = (5 : Int32)
      · have h := ite_t c61 h
        refine j_tabIn C (off := 278) (5 : Int32) 311 dL_law_33 c61 ⟨by decide, by decide⟩ (by decide +kernel) (by decide) ?_
        refine j_aload_n C 1 dL_law_311 rfl rfl ?_
        refine j_aload_n C 0 dL_law_312 rfl rfl ?_
        refine j_iload_n C 3 dL_law_313 rfl rfl ?_
        refine j_iconst C (1 : Int32) (by decide) dL_law_314 ?_
        refine j_iadd C dL_law_315 ?_
        obtain ⟨g62, h⟩ := grd_x h
        refine j_scr C hS g62 dL_law_316 ?_
        refine j_aload_n C 0 dL_law_317 rfl rfl ?_
        refine j_iload_n C 3 dL_law_318 rfl rfl ?_
        refine j_iconst C (2 : Int32) (by decide) dL_law_319 ?_
        refine j_iadd C dL_law_320 ?_
        obtain ⟨g63, h⟩ := grd_x h
        refine j_scr C hS g63 dL_law_321 ?_
        obtain ⟨r65, D66, h64, h⟩ := cbd_x h
        refine j_callV C [.int (xs (l3 + (1 : Int32)).toNatClampNeg), .int (xs (l3 + (2 : Int32)).toNatClampNeg)] [] cl_L_36 (M_X10_land (lv := lv - 1) hG (by omega) h64) (by omega) dL_law_322 (by decide) ⟨rfl, rfl⟩ rfl rfl (Nat.le_of_ble_eq_true rfl) ?_
        refine j_st (st' := [.int r65]) rfl ?_
        refine j_aload_n C 2 dL_law_325 rfl rfl ?_
        refine j_aload_n C 0 dL_law_326 rfl rfl ?_
        refine j_iload_n C 3 dL_law_327 rfl rfl ?_
        refine j_iconst C (1 : Int32) (by decide) dL_law_328 ?_
        refine j_iadd C dL_law_329 ?_
        refine j_scr C hS g62 dL_law_330 ?_
        refine j_aload_n C 0 dL_law_331 rfl rfl ?_
        refine j_iload_n C 3 dL_law_332 rfl rfl ?_
        refine j_iconst C (2 : Int32) (by decide) dL_law_333 ?_
        refine j_iadd C dL_law_334 ?_
        refine j_scr C hS g63 dL_law_335 ?_
        obtain ⟨r68, D69, h67, h⟩ := cbd_x h
        refine j_callV C [.int (xs (l3 + (1 : Int32)).toNatClampNeg), .int (xs (l3 + (2 : Int32)).toNatClampNeg)] [.int r65] cl_L_40 (M_X11_land (lv := lv - 1) hG (by omega) h67) (by omega) dL_law_336 (by decide) ⟨rfl, rfl⟩ rfl rfl (Nat.le_of_ble_eq_true rfl) ?_
        refine j_st (st' := [.int r68, .int r65]) rfl ?_
        refine j_icmp_eq C 1172 dL_law_339 (by decide) (fun c70 => ?_) (fun c70 => ?_)
        · have h := ite_t c70 h
          refine T_L_law_b1172 hG hlv hS C (fun l3_71 D72 h => ?_) l3 D69 h
          · exact ih l3_71 D72 h
        · have h := ite_f c70 h
          exact nomatch h
      have h := ite_f c61 h
      by_cases c73 : ((xs l3.toNatClampNeg) &&& (31 : Int32)) = (6 : Int32)
      · have h := ite_t c73 h
        refine j_tabIn C (off := 311) (6 : Int32) 344 dL_law_33 c73 ⟨by decide, by decide⟩ (by decide +kernel) (by decide) ?_
        refine j_aload_n C 1 dL_law_344 rfl rfl ?_
        refine j_aload_n C 0 dL_law_345 rfl rfl ?_
        refine j_iload_n C 3 dL_law_346 rfl rfl ?_
        refine j_iconst C (1 : Int32) (by decide) dL_law_347 ?_
        refine j_iadd C dL_law_348 ?_
        obtain ⟨g74, h⟩ := grd_x h
        refine j_scr C hS g74 dL_law_349 ?_
        refine j_aload_n C 0 dL_law_350 rfl rfl ?_
        refine j_iload_n C 3 dL_law_351 rfl rfl ?_
        refine j_iconst C (2 : Int32) (by decide) dL_law_352 ?_
        refine j_iadd C dL_law_353 ?_
        obtain ⟨g75, h⟩ := grd_x h
        refine j_scr C hS g75 dL_law_354 ?_
        obtain ⟨r77, D78, h76, h⟩ := cbd_x h
        refine j_callV C [.int (xs (l3 + (1 : Int32)).toNatClampNeg), .int (xs (l3 + (2 : Int32)).toNatClampNeg)] [] cl_L_41 (M_X10_told (lv := lv - 1) hG (by omega) h76) (by omega) dL_law_355 (by decide) ⟨rfl, rfl⟩ rfl rfl (Nat.le_of_ble_eq_true rfl) ?_
        refine j_st (st' := [.int r77]) rfl ?_
        refine j_aload_n C 2 dL_law_358 rfl rfl ?_
        refine j_aload_n C 0 dL_law_359 rfl rfl ?_
        refine j_iload_n C 3 dL_law_360 rfl rfl ?_
        refine j_iconst C (1 : Int32) (by decide) dL_law_361 ?_
        refine j_iadd C dL_law_362 ?_
        refine j_scr C hS g74 dL_law_363 ?_
        refine j_aload_n C 0 dL_law_364 rfl rfl ?_
        refine j_iload_n C 3 dL_law_365 rfl rfl ?_
        refine j_iconst C (2 : Int32) (by decide) dL_law_366 ?_
        refine j_iadd C dL_law_367 ?_
        refine j_scr C hS g75 dL_law_368 ?_
        obtain ⟨r80, D81, h79, h⟩ := cbd_x h
        refine j_callV C [.int (xs (l3 + (1 : Int32)).toNatClampNeg), .int (xs (l3 + (2 : Int32)).toNatClampNeg)] [.int r77] cl_L_44 (M_X11_told (lv := lv - 1) hG (by omega) h79) (by omega) dL_law_369 (by decide) ⟨rfl, rfl⟩ rfl rfl (Nat.le_of_ble_eq_true rfl) ?_
        refine j_st (st' := [.int r80, .int r77]) rfl ?_
        refine j_icmp_eq C 1172 dL_law_372 (by decide) (fun c82 => ?_) (fun c82 => ?_)
        · have h := ite_t c82 h
          refine T_L_law_b1172 hG hlv hS C (fun l3_83 D84 h => ?_) l3 D81 h
          · exact ih l3_83 D84 h
        · have h := ite_f c82 h
          exact nomatch h
      have h := ite_f c73 h
      by_cases c85 : ((xs l3.toNatClampNeg) &&& (31 : Int32)) = (7 : Int32)
      · have h := ite_t c85 h
        refine j_tabIn C (off := 344) (7 : Int32) 377 dL_law_33 c85 ⟨by decide, by decide⟩ (by decide +kernel) (by decide) ?_
        refine j_aload_n C 1 dL_law_377 rfl rfl ?_
        obtain ⟨r87, D88, h86, h⟩ := cbd_x h
        refine j_callV C [] [] cl_L_45 (M_X10_week (lv := lv - 1) hG (by omega) h86) (by omega) dL_law_378 (by decide) ⟨rfl, rfl⟩ rfl rfl (Nat.le_of_ble_eq_true rfl) ?_
        refine j_st (st' := [.int r87]) rfl ?_
        refine j_aload_n C 2 dL_law_381 rfl rfl ?_
        obtain ⟨r90, D91, h89, h⟩ := cbd_x h
        refine j_callV C [] [.int r87] cl_L_48 (M_X11_week (lv := lv - 1) hG (by omega) h89) (by omega) dL_law_382 (by decide) ⟨rfl, rfl⟩ rfl rfl (Nat.le_of_ble_eq_true rfl) ?_
        refine j_st (st' := [.int r90, .int r87]) rfl ?_
        refine j_icmp_eq C 1172 dL_law_385 (by decide) (fun c92 => ?_) (fun c92 => ?_)
        · have h := ite_t c92 h
          refine T_L_law_b1172 hG hlv hS C (fun l3_93 D94 h => ?_) l3 D91 h
          · exact ih l3_93 D94 h
        · have h := ite_f c92 h
          exact nomatch h
      have h := ite_f c85 h
      by_cases c95 : ((xs l3.toNatClampNeg) &&& (31 : Int32)) = (8 : Int32)
      · have h := ite_t c95 h
        refine j_tabIn C (off := 357) (8 : Int32) 390 dL_law_33 c95 ⟨by decide, by decide⟩ (by decide +kernel) (by decide) ?_
        refine j_aload_n C 1 dL_law_390 rfl rfl ?_
        refine j_aload_n C 0 dL_law_391 rfl rfl ?_
        refine j_iload_n C 3 dL_law_392 rfl rfl ?_
        refine j_iconst C (1 : Int32) (by decide) dL_law_393 ?_
        refine j_iadd C dL_law_394 ?_
        obtain ⟨g96, h⟩ := grd_x h
        refine j_scr C hS g96 dL_law_395 ?_
        refine j_aload_n C 0 dL_law_396 rfl rfl ?_
        refine j_iload_n C 3 dL_law_397 rfl rfl ?_
        refine j_iconst C (2 : Int32) (by decide) dL_law_398 ?_
        refine j_iadd C dL_law_399 ?_
        obtain ⟨g97, h⟩ := grd_x h
        refine j_scr C hS g97 dL_law_400 ?_
        obtain ⟨r99, D100, h98, h⟩ := cbd_x h
        refine j_callV C [.int (xs (l3 + (1 : Int32)).toNatClampNeg), .int (xs (l3 + (2 : Int32)).toNatClampNeg)] [] cl_L_49 (M_X10_swap (lv := lv - 1) hG (by omega) h98) (by omega) dL_law_401 (by decide) ⟨rfl, rfl⟩ rfl rfl (Nat.le_of_ble_eq_true rfl) ?_
        refine j_st (st' := [.int r99]) rfl ?_
        refine j_aload_n C 2 dL_law_404 rfl rfl ?_
        refine j_aload_n C 0 dL_law_405 rfl rfl ?_
        refine j_iload_n C 3 dL_law_406 rfl rfl ?_
        refine j_iconst C (1 : Int32) (by decide) dL_law_407 ?_
        refine j_iadd C dL_law_408 ?_
        refine j_scr C hS g96 dL_law_409 ?_
        refine j_aload_n C 0 dL_law_410 rfl rfl ?_
        refine j_iload_n C 3 dL_law_411 rfl rfl ?_
        refine j_iconst C (2 : Int32) (by decide) dL_law_412 ?_
        refine j_iadd C dL_law_413 ?_
        refine j_scr C hS g97 dL_law_414 ?_
        obtain ⟨r102, D103, h101, h⟩ := cbd_x h
        refine j_callV C [.int (xs (l3 + (1 : Int32)).toNatClampNeg), .int (xs (l3 + (2 : Int32)).toNatClampNeg)] [.int r99] cl_L_52 (M_X11_swap (lv := lv - 1) hG (by omega) h101) (by omega) dL_law_415 (by decide) ⟨rfl, rfl⟩ rfl rfl (Nat.le_of_ble_eq_true rfl) ?_
        refine j_st (st' := [.int r102, .int r99]) rfl ?_
        refine j_icmp_eq C 1172 dL_law_418 (by decide) (fun c104 => ?_) (fun c104 => ?_)
        · have h := ite_t c104 h
          refine T_L_law_b1172 hG hlv hS C (fun l3_105 D106 h => ?_) l3 D103 h
          · exact ih l3_105 D106 h
        · have h := ite_f c104 h
          exact nomatch h
      have h := ite_f c95 h
      by_cases c107 : ((xs l3.toNatClampNeg) &&& (31 : Int32)) = (9 : Int32)
      · have h := ite_t c107 h
        refine j_tabIn C (off := 390) (9 : Int32) 423 dL_law_33 c107 ⟨by decide, by decide⟩ (by decide +kernel) (by decide) ?_
        refine j_aload_n C 1 dL_law_423 rfl rfl ?_
        refine j_aload_n C 0 dL_law_424 rfl rfl ?_
        refine j_iload_n C 3 dL_law_425 rfl rfl ?_
        refine j_iconst C (1 : Int32) (by decide) dL_law_426 ?_
        refine j_iadd C dL_law_427 ?_
        obtain ⟨g108, h⟩ := grd_x h
        refine j_scr C hS g108 dL_law_428 ?_
        refine j_aload_n C 0 dL_law_429 rfl rfl ?_
        refine j_iload_n C 3 dL_law_430 rfl rfl ?_
        refine j_iconst C (2 : Int32) (by decide) dL_law_431 ?_
        refine j_iadd C dL_law_432 ?_
        obtain ⟨g109, h⟩ := grd_x h
        refine j_scr C hS g109 dL_law_433 ?_
        refine j_aload_n C 0 dL_law_434 rfl rfl ?_
        refine j_iload_n C 3 dL_law_435 rfl rfl ?_
        refine j_iconst C (3 : Int32) (by decide) dL_law_436 ?_
        refine j_iadd C dL_law_437 ?_
        obtain ⟨g110, h⟩ := grd_x h
        refine j_scr C hS g110 dL_law_438 ?_
        obtain ⟨r112, D113, h111, h⟩ := cbd_x h
        refine j_callV C [.int (xs (l3 + (1 : Int32)).toNatClampNeg), .int (xs (l3 + (2 : Int32)).toNatClampNeg), .int (xs (l3 + (3 : Int32)).toNatClampNeg)] [] cl_L_53 (M_X10_give (lv := lv - 1) hG (by omega) h111) (by omega) dL_law_439 (by decide) ⟨rfl, rfl⟩ rfl rfl (Nat.le_of_ble_eq_true rfl) ?_
        refine j_st (st' := [.int r112]) rfl ?_
        refine j_aload_n C 2 dL_law_442 rfl rfl ?_
        refine j_aload_n C 0 dL_law_443 rfl rfl ?_
        refine j_iload_n C 3 dL_law_444 rfl rfl ?_
        refine j_iconst C (1 : Int32) (by decide) dL_law_445 ?_
        refine j_iadd C dL_law_446 ?_
        refine j_scr C hS g108 dL_law_447 ?_
        refine j_aload_n C 0 dL_law_448 rfl rfl ?_
        refine j_iload_n C 3 dL_law_449 rfl rfl ?_
        refine j_iconst C (2 : Int32) (by decide) dL_law_450 ?_
        refine j_iadd C dL_law_451 ?_
        refine j_scr C hS g109 dL_law_452 ?_
        refine j_aload_n C 0 dL_law_453 rfl rfl ?_
        refine j_iload_n C 3 dL_law_454 rfl rfl ?_
        refine j_iconst C (3 : Int32) (by decide) dL_law_455 ?_
        refine j_iadd C dL_law_456 ?_
        refine j_scr C hS g110 dL_law_457 ?_
        obtain ⟨r115, D116, h114, h⟩ := cbd_x h
        refine j_callV C [.int (xs (l3 + (1 : Int32)).toNatClampNeg), .int (xs (l3 + (2 : Int32)).toNatClampNeg), .int (xs (l3 + (3 : Int32)).toNatClampNeg)] [.int r112] cl_L_57 (M_X11_give (lv := lv - 1) hG (by omega) h114) (by omega) dL_law_458 (by decide) ⟨rfl, rfl⟩ rfl rfl (Nat.le_of_ble_eq_true rfl) ?_
        refine j_st (st' := [.int r115, .int r112]) rfl ?_
        refine j_icmp_eq C 1172 dL_law_461 (by decide) (fun c117 => ?_) (fun c117 => ?_)
        · have h := ite_t c117 h
          refine T_L_law_b1172 hG hlv hS C (fun l3_118 D119 h => ?_) l3 D116 h
          · exact ih l3_118 D119 h
        · have h := ite_f c117 h
          exact nomatch h
      have h := ite_f c107 h
      by_cases c120 : ((xs l3.toNatClampNeg) &&& (31 : Int32)) = (10 : Int32)
      · have h := ite_t c120 h
        refine j_tabIn C (off := 433) (10 : Int32) 466 dL_law_33 c120 ⟨by decide, by decide⟩ (by decide +kernel) (by decide) ?_
        refine j_aload_n C 1 dL_law_466 rfl rfl ?_
        refine j_aload_n C 0 dL_law_467 rfl rfl ?_
        refine j_iload_n C 3 dL_law_468 rfl rfl ?_
        refine j_iconst C (1 : Int32) (by decide) dL_law_469 ?_
        refine j_iadd C dL_law_470 ?_
        obtain ⟨g121, h⟩ := grd_x h
        refine j_scr C hS g121 dL_law_471 ?_
        refine j_aload_n C 0 dL_law_472 rfl rfl ?_
        refine j_iload_n C 3 dL_law_473 rfl rfl ?_
        refine j_iconst C (2 : Int32) (by decide) dL_law_474 ?_
        refine j_iadd C dL_law_475 ?_
        obtain ⟨g122, h⟩ := grd_x h
        refine j_scr C hS g122 dL_law_476 ?_
        obtain ⟨r124, D125, h123, h⟩ := cbd_x h
        refine j_callV C [.int (xs (l3 + (1 : Int32)).toNatClampNeg), .int (xs (l3 + (2 : Int32)).toNatClampNeg)] [] cl_L_58 (M_X10_fight (lv := lv - 1) hG (by omega) h123) (by omega) dL_law_477 (by decide) ⟨rfl, rfl⟩ rfl rfl (Nat.le_of_ble_eq_true rfl) ?_
        refine j_st (st' := [.int r124]) rfl ?_
        refine j_aload_n C 2 dL_law_480 rfl rfl ?_
        refine j_aload_n C 0 dL_law_481 rfl rfl ?_
        refine j_iload_n C 3 dL_law_482 rfl rfl ?_
        refine j_iconst C (1 : Int32) (by decide) dL_law_483 ?_
        refine j_iadd C dL_law_484 ?_
        refine j_scr C hS g121 dL_law_485 ?_
        refine j_aload_n C 0 dL_law_486 rfl rfl ?_
        refine j_iload_n C 3 dL_law_487 rfl rfl ?_
        refine j_iconst C (2 : Int32) (by decide) dL_law_488 ?_
        refine j_iadd C dL_law_489 ?_
        refine j_scr C hS g122 dL_law_490 ?_
        obtain ⟨r127, D128, h126, h⟩ := cbd_x h
        refine j_callV C [.int (xs (l3 + (1 : Int32)).toNatClampNeg), .int (xs (l3 + (2 : Int32)).toNatClampNeg)] [.int r124] cl_L_61 (M_X11_fight (lv := lv - 1) hG (by omega) h126) (by omega) dL_law_491 (by decide) ⟨rfl, rfl⟩ rfl rfl (Nat.le_of_ble_eq_true rfl) ?_
        refine j_st (st' := [.int r127, .int r124]) rfl ?_
        refine j_icmp_eq C 1172 dL_law_494 (by decide) (fun c129 => ?_) (fun c129 => ?_)
        · have h := ite_t c129 h
          refine T_L_law_b1172 hG hlv hS C (fun l3_130 D131 h => ?_) l3 D128 h
          · exact ih l3_130 D131 h
        · have h := ite_f c129 h
          exact nomatch h
      have h := ite_f c120 h
      by_cases c132 : ((xs l3.toNatClampNeg) &&& (31 : Int32)) = (11 : Int32)
      · have h := ite_t c132 h
        refine j_tabIn C (off := 466) (11 : Int32) 499 dL_law_33 c132 ⟨by decide, by decide⟩ (by decide +kernel) (by decide) ?_
        refine j_aload_n C 1 dL_law_499 rfl rfl ?_
        refine j_aload_n C 0 dL_law_500 rfl rfl ?_
        refine j_iload_n C 3 dL_law_501 rfl rfl ?_
        refine j_iconst C (1 : Int32) (by decide) dL_law_502 ?_
        refine j_iadd C dL_law_503 ?_
        obtain ⟨g133, h⟩ := grd_x h
        refine j_scr C hS g133 dL_law_504 ?_
        obtain ⟨r135, D136, h134, h⟩ := cbd_x h
        refine j_callV C [.int (xs (l3 + (1 : Int32)).toNatClampNeg)] [] cl_L_62 (M_X10_set (lv := lv - 1) hG (by omega) h134) (by omega) dL_law_505 (by decide) ⟨rfl, rfl⟩ rfl rfl (Nat.le_of_ble_eq_true rfl) ?_
        refine j_st (st' := [.int r135]) rfl ?_
        refine j_aload_n C 2 dL_law_508 rfl rfl ?_
        refine j_aload_n C 0 dL_law_509 rfl rfl ?_
        refine j_iload_n C 3 dL_law_510 rfl rfl ?_
        refine j_iconst C (1 : Int32) (by decide) dL_law_511 ?_
        refine j_iadd C dL_law_512 ?_
        refine j_scr C hS g133 dL_law_513 ?_
        obtain ⟨r138, D139, h137, h⟩ := cbd_x h
        refine j_callV C [.int (xs (l3 + (1 : Int32)).toNatClampNeg)] [.int r135] cl_L_65 (M_X11_set (lv := lv - 1) hG (by omega) h137) (by omega) dL_law_514 (by decide) ⟨rfl, rfl⟩ rfl rfl (Nat.le_of_ble_eq_true rfl) ?_
        refine j_st (st' := [.int r138, .int r135]) rfl ?_
        refine j_icmp_eq C 1172 dL_law_517 (by decide) (fun c140 => ?_) (fun c140 => ?_)
        · have h := ite_t c140 h
          refine T_L_law_b1172 hG hlv hS C (fun l3_141 D142 h => ?_) l3 D139 h
          · exact ih l3_141 D142 h
        · have h := ite_f c140 h
          exact nomatch h
      have h := ite_f c132 h
      by_cases c143 : ((xs l3.toNatClampNeg) &&& (31 : Int32)) = (12 : Int32)
      · have h := ite_t c143 h
        refine j_tabIn C (off := 489) (12 : Int32) 522 dL_law_33 c143 ⟨by decide, by decide⟩ (by decide +kernel) (by decide) ?_
        refine j_aload_n C 1 dL_law_522 rfl rfl ?_
        obtain ⟨r145, D146, h144, h⟩ := cbd_x h
        refine j_callV C [] [] cl_L_66 (M_X10_undo (lv := lv - 1) hG (by omega) h144) (by omega) dL_law_523 (by decide) ⟨rfl, rfl⟩ rfl rfl (Nat.le_of_ble_eq_true rfl) ?_
        refine j_st (st' := [.int r145]) rfl ?_
        refine j_aload_n C 2 dL_law_526 rfl rfl ?_
        obtain ⟨r148, D149, h147, h⟩ := cbd_x h
        refine j_callV C [] [.int r145] cl_L_69 (M_X11_undo (lv := lv - 1) hG (by omega) h147) (by omega) dL_law_527 (by decide) ⟨rfl, rfl⟩ rfl rfl (Nat.le_of_ble_eq_true rfl) ?_
        refine j_st (st' := [.int r148, .int r145]) rfl ?_
        refine j_icmp_eq C 1172 dL_law_530 (by decide) (fun c150 => ?_) (fun c150 => ?_)
        · have h := ite_t c150 h
          refine T_L_law_b1172 hG hlv hS C (fun l3_151 D152 h => ?_) l3 D149 h
          · exact ih l3_151 D152 h
        · have h := ite_f c150 h
          exact nomatch h
      have h := ite_f c143 h
      by_cases c153 : ((xs l3.toNatClampNeg) &&& (31 : Int32)) = (13 : Int32)
      · have h := ite_t c153 h
        refine j_tabIn C (off := 502) (13 : Int32) 535 dL_law_33 c153 ⟨by decide, by decide⟩ (by decide +kernel) (by decide) ?_
        refine j_aload_n C 1 dL_law_535 rfl rfl ?_
        refine j_aload_n C 0 dL_law_536 rfl rfl ?_
        refine j_iload_n C 3 dL_law_537 rfl rfl ?_
        refine j_iconst C (1 : Int32) (by decide) dL_law_538 ?_
        refine j_iadd C dL_law_539 ?_
        obtain ⟨g154, h⟩ := grd_x h
        refine j_scr C hS g154 dL_law_540 ?_
        refine j_aload_n C 0 dL_law_541 rfl rfl ?_
        refine j_iload_n C 3 dL_law_542 rfl rfl ?_
        refine j_iconst C (2 : Int32) (by decide) dL_law_543 ?_
        refine j_iadd C dL_law_544 ?_
        obtain ⟨g155, h⟩ := grd_x h
        refine j_scr C hS g155 dL_law_545 ?_
        refine j_aload_n C 0 dL_law_546 rfl rfl ?_
        refine j_iload_n C 3 dL_law_547 rfl rfl ?_
        refine j_iconst C (3 : Int32) (by decide) dL_law_548 ?_
        refine j_iadd C dL_law_549 ?_
        obtain ⟨g156, h⟩ := grd_x h
        refine j_scr C hS g156 dL_law_550 ?_
        obtain ⟨r158, D159, h157, h⟩ := cbd_x h
        refine j_callV C [.int (xs (l3 + (1 : Int32)).toNatClampNeg), .int (xs (l3 + (2 : Int32)).toNatClampNeg), .int (xs (l3 + (3 : Int32)).toNatClampNeg)] [] cl_L_70 (M_X10_ahead (lv := lv - 1) hG (by omega) h157) (by omega) dL_law_551 (by decide) ⟨rfl, rfl⟩ rfl rfl (Nat.le_of_ble_eq_true rfl) ?_
        refine j_st (st' := [.int r158]) rfl ?_
        refine j_aload_n C 2 dL_law_554 rfl rfl ?_
        refine j_aload_n C 0 dL_law_555 rfl rfl ?_
        refine j_iload_n C 3 dL_law_556 rfl rfl ?_
        refine j_iconst C (1 : Int32) (by decide) dL_law_557 ?_
        refine j_iadd C dL_law_558 ?_
        refine j_scr C hS g154 dL_law_559 ?_
        refine j_aload_n C 0 dL_law_560 rfl rfl ?_
        refine j_iload_n C 3 dL_law_561 rfl rfl ?_
        refine j_iconst C (2 : Int32) (by decide) dL_law_562 ?_
        refine j_iadd C dL_law_563 ?_
        refine j_scr C hS g155 dL_law_564 ?_
        refine j_aload_n C 0 dL_law_565 rfl rfl ?_
        refine j_iload_n C 3 dL_law_566 rfl rfl ?_
        refine j_iconst C (3 : Int32) (by decide) dL_law_567 ?_
        refine j_iadd C dL_law_568 ?_
        refine j_scr C hS g156 dL_law_569 ?_
        obtain ⟨r161, D162, h160, h⟩ := cbd_x h
        refine j_callV C [.int (xs (l3 + (1 : Int32)).toNatClampNeg), .int (xs (l3 + (2 : Int32)).toNatClampNeg), .int (xs (l3 + (3 : Int32)).toNatClampNeg)] [.int r158] cl_L_73 (M_X11_ahead (lv := lv - 1) hG (by omega) h160) (by omega) dL_law_570 (by decide) ⟨rfl, rfl⟩ rfl rfl (Nat.le_of_ble_eq_true rfl) ?_
        refine j_st (st' := [.int r161, .int r158]) rfl ?_
        refine j_icmp_eq C 1172 dL_law_573 (by decide) (fun c163 => ?_) (fun c163 => ?_)
        · have h := ite_t c163 h
          refine T_L_law_b1172 hG hlv hS C (fun l3_164 D165 h => ?_) l3 D162 h
          · exact ih l3_164 D165 h
        · have h := ite_f c163 h
          exact nomatch h
      have h := ite_f c153 h
      by_cases c166 : ((xs l3.toNatClampNeg) &&& (31 : Int32)) = (14 : Int32)
      · have h := ite_t c166 h
        refine j_tabIn C (off := 545) (14 : Int32) 578 dL_law_33 c166 ⟨by decide, by decide⟩ (by decide +kernel) (by decide) ?_
        refine j_aload_n C 1 dL_law_578 rfl rfl ?_
        refine j_aload_n C 0 dL_law_579 rfl rfl ?_
        refine j_iload_n C 3 dL_law_580 rfl rfl ?_
        refine j_iconst C (1 : Int32) (by decide) dL_law_581 ?_
        refine j_iadd C dL_law_582 ?_
        obtain ⟨g167, h⟩ := grd_x h
        refine j_scr C hS g167 dL_law_583 ?_
        obtain ⟨r169, D170, h168, h⟩ := cbd_x h
        refine j_callV C [.int (xs (l3 + (1 : Int32)).toNatClampNeg)] [] cl_L_74 (M_X10_bare (lv := lv - 1) hG (by omega) h168) (by omega) dL_law_584 (by decide) ⟨rfl, rfl⟩ rfl rfl (Nat.le_of_ble_eq_true rfl) ?_
        refine j_st (st' := [.int r169]) rfl ?_
        refine j_aload_n C 2 dL_law_587 rfl rfl ?_
        refine j_aload_n C 0 dL_law_588 rfl rfl ?_
        refine j_iload_n C 3 dL_law_589 rfl rfl ?_
        refine j_iconst C (1 : Int32) (by decide) dL_law_590 ?_
        refine j_iadd C dL_law_591 ?_
        refine j_scr C hS g167 dL_law_592 ?_
        obtain ⟨r172, D173, h171, h⟩ := cbd_x h
        refine j_callV C [.int (xs (l3 + (1 : Int32)).toNatClampNeg)] [.int r169] cl_L_77 (M_X11_bare (lv := lv - 1) hG (by omega) h171) (by omega) dL_law_593 (by decide) ⟨rfl, rfl⟩ rfl rfl (Nat.le_of_ble_eq_true rfl) ?_
        refine j_st (st' := [.int r172, .int r169]) rfl ?_
        refine j_icmp_eq C 1172 dL_law_596 (by decide) (fun c174 => ?_) (fun c174 => ?_)
        · have h := ite_t c174 h
          refine T_L_law_b1172 hG hlv hS C (fun l3_175 D176 h => ?_) l3 D173 h
          · exact ih l3_175 D176 h
        · have h := ite_f c174 h
          exact nomatch h
      have h := ite_f c166 h
      by_cases c177 : ((xs l3.toNatClampNeg) &&& (31 : Int32)) = (15 : Int32)
      · have h := ite_t c177 h
        refine j_tabIn C (off := 568) (15 : Int32) 601 dL_law_33 c177 ⟨by decide, by decide⟩ (by decide +kernel) (by decide) ?_
        refine j_aload_n C 1 dL_law_601 rfl rfl ?_
        refine j_aload_n C 0 dL_law_602 rfl rfl ?_
        refine j_iload_n C 3 dL_law_603 rfl rfl ?_
        refine j_iconst C (1 : Int32) (by decide) dL_law_604 ?_
        refine j_iadd C dL_law_605 ?_
        obtain ⟨g178, h⟩ := grd_x h
        refine j_scr C hS g178 dL_law_606 ?_
        refine j_aload_n C 0 dL_law_607 rfl rfl ?_
        refine j_iload_n C 3 dL_law_608 rfl rfl ?_
        refine j_iconst C (2 : Int32) (by decide) dL_law_609 ?_
        refine j_iadd C dL_law_610 ?_
        obtain ⟨g179, h⟩ := grd_x h
        refine j_scr C hS g179 dL_law_611 ?_
        refine j_aload_n C 0 dL_law_612 rfl rfl ?_
        refine j_iload_n C 3 dL_law_613 rfl rfl ?_
        refine j_iconst C (3 : Int32) (by decide) dL_law_614 ?_
        refine j_iadd C dL_law_615 ?_
        obtain ⟨g180, h⟩ := grd_x h
        refine j_scr C hS g180 dL_law_616 ?_
        obtain ⟨r182, D183, h181, h⟩ := cbd_x h
        refine j_callV C [.int (xs (l3 + (1 : Int32)).toNatClampNeg), .int (xs (l3 + (2 : Int32)).toNatClampNeg), .int (xs (l3 + (3 : Int32)).toNatClampNeg)] [] cl_L_78 (M_X10_row (lv := lv - 1) hG (by omega) h181) (by omega) dL_law_617 (by decide) ⟨rfl, rfl⟩ rfl rfl (Nat.le_of_ble_eq_true rfl) ?_
        refine j_st (st' := [.int r182]) rfl ?_
        refine j_aload_n C 2 dL_law_620 rfl rfl ?_
        refine j_aload_n C 0 dL_law_621 rfl rfl ?_
        refine j_iload_n C 3 dL_law_622 rfl rfl ?_
        refine j_iconst C (1 : Int32) (by decide) dL_law_623 ?_
        refine j_iadd C dL_law_624 ?_
        refine j_scr C hS g178 dL_law_625 ?_
        refine j_aload_n C 0 dL_law_626 rfl rfl ?_
        refine j_iload_n C 3 dL_law_627 rfl rfl ?_
        refine j_iconst C (2 : Int32) (by decide) dL_law_628 ?_
        refine j_iadd C dL_law_629 ?_
        refine j_scr C hS g179 dL_law_630 ?_
        refine j_aload_n C 0 dL_law_631 rfl rfl ?_
        refine j_iload_n C 3 dL_law_632 rfl rfl ?_
        refine j_iconst C (3 : Int32) (by decide) dL_law_633 ?_
        refine j_iadd C dL_law_634 ?_
        refine j_scr C hS g180 dL_law_635 ?_
        obtain ⟨r185, D186, h184, h⟩ := cbd_x h
        refine j_callV C [.int (xs (l3 + (1 : Int32)).toNatClampNeg), .int (xs (l3 + (2 : Int32)).toNatClampNeg), .int (xs (l3 + (3 : Int32)).toNatClampNeg)] [.int r182] cl_L_81 (M_X11_row (lv := lv - 1) hG (by omega) h184) (by omega) dL_law_636 (by decide) ⟨rfl, rfl⟩ rfl rfl (Nat.le_of_ble_eq_true rfl) ?_
        refine j_st (st' := [.int r185, .int r182]) rfl ?_
        refine j_icmp_eq C 1172 dL_law_639 (by decide) (fun c187 => ?_) (fun c187 => ?_)
        · have h := ite_t c187 h
          refine T_L_law_b1172 hG hlv hS C (fun l3_188 D189 h => ?_) l3 D186 h
          · exact ih l3_188 D189 h
        · have h := ite_f c187 h
          exact nomatch h
      have h := ite_f c177 h
      by_cases c190 : ((xs l3.toNatClampNeg) &&& (31 : Int32)) = (16 : Int32)
      · have h := ite_t c190 h
        refine j_tabIn C (off := 611) (16 : Int32) 644 dL_law_33 c190 ⟨by decide, by decide⟩ (by decide +kernel) (by decide) ?_
        refine j_aload_n C 1 dL_law_644 rfl rfl ?_
        refine j_aload_n C 0 dL_law_645 rfl rfl ?_
        refine j_iload_n C 3 dL_law_646 rfl rfl ?_
        refine j_iconst C (1 : Int32) (by decide) dL_law_647 ?_
        refine j_iadd C dL_law_648 ?_
        obtain ⟨g191, h⟩ := grd_x h
        refine j_scr C hS g191 dL_law_649 ?_
        refine j_aload_n C 0 dL_law_650 rfl rfl ?_
        refine j_iload_n C 3 dL_law_651 rfl rfl ?_
        refine j_iconst C (2 : Int32) (by decide) dL_law_652 ?_
        refine j_iadd C dL_law_653 ?_
        obtain ⟨g192, h⟩ := grd_x h
        refine j_scr C hS g192 dL_law_654 ?_
        obtain ⟨r194, D195, h193, h⟩ := cbd_x h
        refine j_callV C [.int (xs (l3 + (1 : Int32)).toNatClampNeg), .int (xs (l3 + (2 : Int32)).toNatClampNeg)] [] cl_L_82 (M_X10_best (lv := lv - 1) hG (by omega) h193) (by omega) dL_law_655 (by decide) ⟨rfl, rfl⟩ rfl rfl (Nat.le_of_ble_eq_true rfl) ?_
        refine j_st (st' := [.int r194]) rfl ?_
        refine j_aload_n C 2 dL_law_658 rfl rfl ?_
        refine j_aload_n C 0 dL_law_659 rfl rfl ?_
        refine j_iload_n C 3 dL_law_660 rfl rfl ?_
        refine j_iconst C (1 : Int32) (by decide) dL_law_661 ?_
        refine j_iadd C dL_law_662 ?_
        refine j_scr C hS g191 dL_law_663 ?_
        refine j_aload_n C 0 dL_law_664 rfl rfl ?_
        refine j_iload_n C 3 dL_law_665 rfl rfl ?_
        refine j_iconst C (2 : Int32) (by decide) dL_law_666 ?_
        refine j_iadd C dL_law_667 ?_
        refine j_scr C hS g192 dL_law_668 ?_
        obtain ⟨r197, D198, h196, h⟩ := cbd_x h
        refine j_callV C [.int (xs (l3 + (1 : Int32)).toNatClampNeg), .int (xs (l3 + (2 : Int32)).toNatClampNeg)] [.int r194] cl_L_85 (M_X11_best (lv := lv - 1) hG (by omega) h196) (by omega) dL_law_669 (by decide) ⟨rfl, rfl⟩ rfl rfl (Nat.le_of_ble_eq_true rfl) ?_
        refine j_st (st' := [.int r197, .int r194]) rfl ?_
        refine j_icmp_eq C 1172 dL_law_672 (by decide) (fun c199 => ?_) (fun c199 => ?_)
        · have h := ite_t c199 h
          refine T_L_law_b1172 hG hlv hS C (fun l3_200 D201 h => ?_) l3 D198 h
          · exact ih l3_200 D201 h
        · have h := ite_f c199 h
          exact nomatch h
      have h := ite_f c190 h
      by_cases c202 : ((xs l3.toNatClampNeg) &&& (31 : Int32)) = (17 : Int32)
      · have h := ite_t c202 h
        refine j_tabIn C (off := 644) (17 : Int32) 677 dL_law_33 c202 ⟨by decide, by decide⟩ (by decide +kernel) (by decide) ?_
        refine j_aload_n C 1 dL_law_677 rfl rfl ?_
        obtain ⟨r204, D205, h203, h⟩ := cbd_x h
        refine j_callV C [] [] cl_L_86 (M_X10_quiet (lv := lv - 1) hG (by omega) h203) (by omega) dL_law_678 (by decide) ⟨rfl, rfl⟩ rfl rfl (Nat.le_of_ble_eq_true rfl) ?_
        refine j_st (st' := [.int r204]) rfl ?_
        refine j_aload_n C 2 dL_law_681 rfl rfl ?_
        obtain ⟨r207, D208, h206, h⟩ := cbd_x h
        refine j_callV C [] [.int r204] cl_L_89 (M_X11_quiet (lv := lv - 1) hG (by omega) h206) (by omega) dL_law_682 (by decide) ⟨rfl, rfl⟩ rfl rfl (Nat.le_of_ble_eq_true rfl) ?_
        refine j_st (st' := [.int r207, .int r204]) rfl ?_
        refine j_icmp_eq C 1172 dL_law_685 (by decide) (fun c209 => ?_) (fun c209 => ?_)
        · have h := ite_t c209 h
          refine T_L_law_b1172 hG hlv hS C (fun l3_210 D211 h => ?_) l3 D208 h
          · exact ih l3_210 D211 h
        · have h := ite_f c209 h
          exact nomatch h
      have h := ite_f c202 h
      by_cases c212 : ((xs l3.toNatClampNeg) &&& (31 : Int32)) = (18 : Int32)
      · have h := ite_t c212 h
        refine j_tabIn C (off := 657) (18 : Int32) 690 dL_law_33 c212 ⟨by decide, by decide⟩ (by decide +kernel) (by decide) ?_
        refine j_aload_n C 1 dL_law_690 rfl rfl ?_
        refine j_aload_n C 0 dL_law_691 rfl rfl ?_
        refine j_iload_n C 3 dL_law_692 rfl rfl ?_
        refine j_iconst C (1 : Int32) (by decide) dL_law_693 ?_
        refine j_iadd C dL_law_694 ?_
        obtain ⟨g213, h⟩ := grd_x h
        refine j_scr C hS g213 dL_law_695 ?_
        refine j_aload_n C 0 dL_law_696 rfl rfl ?_
        refine j_iload_n C 3 dL_law_697 rfl rfl ?_
        refine j_iconst C (2 : Int32) (by decide) dL_law_698 ?_
        refine j_iadd C dL_law_699 ?_
        obtain ⟨g214, h⟩ := grd_x h
        refine j_scr C hS g214 dL_law_700 ?_
        refine j_aload_n C 0 dL_law_701 rfl rfl ?_
        refine j_iload_n C 3 dL_law_702 rfl rfl ?_
        refine j_iconst C (3 : Int32) (by decide) dL_law_703 ?_
        refine j_iadd C dL_law_704 ?_
        obtain ⟨g215, h⟩ := grd_x h
        refine j_scr C hS g215 dL_law_705 ?_
        obtain ⟨r217, D218, h216, h⟩ := cbd_x h
        refine j_callV C [.int (xs (l3 + (1 : Int32)).toNatClampNeg), .int (xs (l3 + (2 : Int32)).toNatClampNeg), .int (xs (l3 + (3 : Int32)).toNatClampNeg)] [] cl_L_90 (M_X10_worth (lv := lv - 1) hG (by omega) h216) (by omega) dL_law_706 (by decide) ⟨rfl, rfl⟩ rfl rfl (Nat.le_of_ble_eq_true rfl) ?_
        refine j_st (st' := [.int r217]) rfl ?_
        refine j_aload_n C 2 dL_law_709 rfl rfl ?_
        refine j_aload_n C 0 dL_law_710 rfl rfl ?_
        refine j_iload_n C 3 dL_law_711 rfl rfl ?_
        refine j_iconst C (1 : Int32) (by decide) dL_law_712 ?_
        refine j_iadd C dL_law_713 ?_
        refine j_scr C hS g213 dL_law_714 ?_
        refine j_aload_n C 0 dL_law_715 rfl rfl ?_
        refine j_iload_n C 3 dL_law_716 rfl rfl ?_
        refine j_iconst C (2 : Int32) (by decide) dL_law_717 ?_
        refine j_iadd C dL_law_718 ?_
        refine j_scr C hS g214 dL_law_719 ?_
        refine j_aload_n C 0 dL_law_720 rfl rfl ?_
        refine j_iload_n C 3 dL_law_721 rfl rfl ?_
        refine j_iconst C (3 : Int32) (by decide) dL_law_722 ?_
        refine j_iadd C dL_law_723 ?_
        refine j_scr C hS g215 dL_law_724 ?_
        obtain ⟨r220, D221, h219, h⟩ := cbd_x h
        refine j_callV C [.int (xs (l3 + (1 : Int32)).toNatClampNeg), .int (xs (l3 + (2 : Int32)).toNatClampNeg), .int (xs (l3 + (3 : Int32)).toNatClampNeg)] [.int r217] cl_L_93 (M_X11_worth (lv := lv - 1) hG (by omega) h219) (by omega) dL_law_725 (by decide) ⟨rfl, rfl⟩ rfl rfl (Nat.le_of_ble_eq_true rfl) ?_
        refine j_st (st' := [.int r220, .int r217]) rfl ?_
        refine j_icmp_eq C 1172 dL_law_728 (by decide) (fun c222 => ?_) (fun c222 => ?_)
        · have h := ite_t c222 h
          refine T_L_law_b1172 hG hlv hS C (fun l3_223 D224 h => ?_) l3 D221 h
          · exact ih l3_223 D224 h
        · have h := ite_f c222 h
          exact nomatch h
      have h := ite_f c212 h
      by_cases c225 : ((xs l3.toNatClampNeg) &&& (31 : Int32)) = (19 : Int32)
      · have h := ite_t c225 h
        refine j_tabIn C (off := 700) (19 : Int32) 733 dL_law_33 c225 ⟨by decide, by decide⟩ (by decide +kernel) (by decide) ?_
        refine j_aload_n C 1 dL_law_733 rfl rfl ?_
        refine j_aload_n C 0 dL_law_734 rfl rfl ?_
        refine j_iload_n C 3 dL_law_735 rfl rfl ?_
        refine j_iconst C (1 : Int32) (by decide) dL_law_736 ?_
        refine j_iadd C dL_law_737 ?_
        obtain ⟨g226, h⟩ := grd_x h
        refine j_scr C hS g226 dL_law_738 ?_
        refine j_aload_n C 0 dL_law_739 rfl rfl ?_
        refine j_iload_n C 3 dL_law_740 rfl rfl ?_
        refine j_iconst C (2 : Int32) (by decide) dL_law_741 ?_
        refine j_iadd C dL_law_742 ?_
        obtain ⟨g227, h⟩ := grd_x h
        refine j_scr C hS g227 dL_law_743 ?_
        refine j_aload_n C 0 dL_law_744 rfl rfl ?_
        refine j_iload_n C 3 dL_law_745 rfl rfl ?_
        refine j_iconst C (3 : Int32) (by decide) dL_law_746 ?_
        refine j_iadd C dL_law_747 ?_
        obtain ⟨g228, h⟩ := grd_x h
        refine j_scr C hS g228 dL_law_748 ?_
        obtain ⟨r230, D231, h229, h⟩ := cbd_x h
        refine j_callV C [.int (xs (l3 + (1 : Int32)).toNatClampNeg), .int (xs (l3 + (2 : Int32)).toNatClampNeg), .int (xs (l3 + (3 : Int32)).toNatClampNeg)] [] cl_L_94 (M_X10_need (lv := lv - 1) hG (by omega) h229) (by omega) dL_law_749 (by decide) ⟨rfl, rfl⟩ rfl rfl (Nat.le_of_ble_eq_true rfl) ?_
        refine j_st (st' := [.int r230]) rfl ?_
        refine j_aload_n C 2 dL_law_752 rfl rfl ?_
        refine j_aload_n C 0 dL_law_753 rfl rfl ?_
        refine j_iload_n C 3 dL_law_754 rfl rfl ?_
        refine j_iconst C (1 : Int32) (by decide) dL_law_755 ?_
        refine j_iadd C dL_law_756 ?_
        refine j_scr C hS g226 dL_law_757 ?_
        refine j_aload_n C 0 dL_law_758 rfl rfl ?_
        refine j_iload_n C 3 dL_law_759 rfl rfl ?_
        refine j_iconst C (2 : Int32) (by decide) dL_law_760 ?_
        refine j_iadd C dL_law_761 ?_
        refine j_scr C hS g227 dL_law_762 ?_
        refine j_aload_n C 0 dL_law_763 rfl rfl ?_
        refine j_iload_n C 3 dL_law_764 rfl rfl ?_
        refine j_iconst C (3 : Int32) (by decide) dL_law_765 ?_
        refine j_iadd C dL_law_766 ?_
        refine j_scr C hS g228 dL_law_767 ?_
        obtain ⟨r233, D234, h232, h⟩ := cbd_x h
        refine j_callV C [.int (xs (l3 + (1 : Int32)).toNatClampNeg), .int (xs (l3 + (2 : Int32)).toNatClampNeg), .int (xs (l3 + (3 : Int32)).toNatClampNeg)] [.int r230] cl_L_97 (M_X11_need (lv := lv - 1) hG (by omega) h232) (by omega) dL_law_768 (by decide) ⟨rfl, rfl⟩ rfl rfl (Nat.le_of_ble_eq_true rfl) ?_
        refine j_st (st' := [.int r233, .int r230]) rfl ?_
        refine j_icmp_eq C 1172 dL_law_771 (by decide) (fun c235 => ?_) (fun c235 => ?_)
        · have h := ite_t c235 h
          refine T_L_law_b1172 hG hlv hS C (fun l3_236 D237 h => ?_) l3 D234 h
          · exact ih l3_236 D237 h
        · have h := ite_f c235 h
          exact nomatch h
      have h := ite_f c225 h
      by_cases c238 : ((xs l3.toNatClampNeg) &&& (31 : Int32)) = (20 : Int32)
      · have h := ite_t c238 h
        refine j_tabIn C (off := 743) (20 : Int32) 776 dL_law_33 c238 ⟨by decide, by decide⟩ (by decide +kernel) (by decide) ?_
        refine j_aload_n C 1 dL_law_776 rfl rfl ?_
        refine j_aload_n C 0 dL_law_777 rfl rfl ?_
        refine j_iload_n C 3 dL_law_778 rfl rfl ?_
        refine j_iconst C (1 : Int32) (by decide) dL_law_779 ?_
        refine j_iadd C dL_law_780 ?_
        obtain ⟨g239, h⟩ := grd_x h
        refine j_scr C hS g239 dL_law_781 ?_
        refine j_aload_n C 0 dL_law_782 rfl rfl ?_
        refine j_iload_n C 3 dL_law_783 rfl rfl ?_
        refine j_iconst C (2 : Int32) (by decide) dL_law_784 ?_
        refine j_iadd C dL_law_785 ?_
        obtain ⟨g240, h⟩ := grd_x h
        refine j_scr C hS g240 dL_law_786 ?_
        refine j_aload_n C 0 dL_law_787 rfl rfl ?_
        refine j_iload_n C 3 dL_law_788 rfl rfl ?_
        refine j_iconst C (3 : Int32) (by decide) dL_law_789 ?_
        refine j_iadd C dL_law_790 ?_
        obtain ⟨g241, h⟩ := grd_x h
        refine j_scr C hS g241 dL_law_791 ?_
        refine j_aload_n C 0 dL_law_792 rfl rfl ?_
        refine j_iload_n C 3 dL_law_793 rfl rfl ?_
        refine j_iconst C (4 : Int32) (by decide) dL_law_794 ?_
        refine j_iadd C dL_law_795 ?_
        obtain ⟨g242, h⟩ := grd_x h
        refine j_scr C hS g242 dL_law_796 ?_
        obtain ⟨r244, D245, h243, h⟩ := cbd_x h
        refine j_callV C [.int (xs (l3 + (1 : Int32)).toNatClampNeg), .int (xs (l3 + (2 : Int32)).toNatClampNeg), .int (xs (l3 + (3 : Int32)).toNatClampNeg), .int (xs (l3 + (4 : Int32)).toNatClampNeg)] [] cl_L_98 (M_X10_game (lv := lv - 1) hG (by omega) h243) (by omega) dL_law_797 (by decide) ⟨rfl, rfl⟩ rfl rfl (Nat.le_of_ble_eq_true rfl) ?_
        refine j_st (st' := [.int r244]) rfl ?_
        refine j_aload_n C 2 dL_law_800 rfl rfl ?_
        refine j_aload_n C 0 dL_law_801 rfl rfl ?_
        refine j_iload_n C 3 dL_law_802 rfl rfl ?_
        refine j_iconst C (1 : Int32) (by decide) dL_law_803 ?_
        refine j_iadd C dL_law_804 ?_
        refine j_scr C hS g239 dL_law_805 ?_
        refine j_aload_n C 0 dL_law_806 rfl rfl ?_
        refine j_iload_n C 3 dL_law_807 rfl rfl ?_
        refine j_iconst C (2 : Int32) (by decide) dL_law_808 ?_
        refine j_iadd C dL_law_809 ?_
        refine j_scr C hS g240 dL_law_810 ?_
        refine j_aload_n C 0 dL_law_811 rfl rfl ?_
        refine j_iload_n C 3 dL_law_812 rfl rfl ?_
        refine j_iconst C (3 : Int32) (by decide) dL_law_813 ?_
        refine j_iadd C dL_law_814 ?_
        refine j_scr C hS g241 dL_law_815 ?_
        refine j_aload_n C 0 dL_law_816 rfl rfl ?_
        refine j_iload_n C 3 dL_law_817 rfl rfl ?_
        refine j_iconst C (4 : Int32) (by decide) dL_law_818 ?_
        refine j_iadd C dL_law_819 ?_
        refine j_scr C hS g242 dL_law_820 ?_
        obtain ⟨r247, D248, h246, h⟩ := cbd_x h
        refine j_callV C [.int (xs (l3 + (1 : Int32)).toNatClampNeg), .int (xs (l3 + (2 : Int32)).toNatClampNeg), .int (xs (l3 + (3 : Int32)).toNatClampNeg), .int (xs (l3 + (4 : Int32)).toNatClampNeg)] [.int r244] cl_L_102 (M_X11_game (lv := lv - 1) hG (by omega) h246) (by omega) dL_law_821 (by decide) ⟨rfl, rfl⟩ rfl rfl (Nat.le_of_ble_eq_true rfl) ?_
        refine j_st (st' := [.int r247, .int r244]) rfl ?_
        refine j_icmp_eq C 1172 dL_law_824 (by decide) (fun c249 => ?_) (fun c249 => ?_)
        · have h := ite_t c249 h
          refine T_L_law_b1172 hG hlv hS C (fun l3_250 D251 h => ?_) l3 D248 h
          · exact ih l3_250 D251 h
        · have h := ite_f c249 h
          exact nomatch h
      have h := ite_f c238 h
      by_cases c252 : ((xs l3.toNatClampNeg) &&& (31 : Int32)) = (21 : Int32)
      · have h := ite_t c252 h
        refine j_tabIn C (off := 796) (21 : Int32) 829 dL_law_33 c252 ⟨by decide, by decide⟩ (by decide +kernel) (by decide) ?_
        refine j_aload_n C 1 dL_law_829 rfl rfl ?_
        refine j_aload_n C 0 dL_law_830 rfl rfl ?_
        refine j_iload_n C 3 dL_law_831 rfl rfl ?_
        refine j_iconst C (1 : Int32) (by decide) dL_law_832 ?_
        refine j_iadd C dL_law_833 ?_
        obtain ⟨g253, h⟩ := grd_x h
        refine j_scr C hS g253 dL_law_834 ?_
        refine j_aload_n C 0 dL_law_835 rfl rfl ?_
        refine j_iload_n C 3 dL_law_836 rfl rfl ?_
        refine j_iconst C (2 : Int32) (by decide) dL_law_837 ?_
        refine j_iadd C dL_law_838 ?_
        obtain ⟨g254, h⟩ := grd_x h
        refine j_scr C hS g254 dL_law_839 ?_
        obtain ⟨r256, D257, h255, h⟩ := cbd_x h
        refine j_callV C [.int (xs (l3 + (1 : Int32)).toNatClampNeg), .int (xs (l3 + (2 : Int32)).toNatClampNeg)] [] cl_L_103 (M_X10_shun (lv := lv - 1) hG (by omega) h255) (by omega) dL_law_840 (by decide) ⟨rfl, rfl⟩ rfl rfl (Nat.le_of_ble_eq_true rfl) ?_
        refine j_st (st' := [.int r256]) rfl ?_
        refine j_aload_n C 2 dL_law_843 rfl rfl ?_
        refine j_aload_n C 0 dL_law_844 rfl rfl ?_
        refine j_iload_n C 3 dL_law_845 rfl rfl ?_
        refine j_iconst C (1 : Int32) (by decide) dL_law_846 ?_
        refine j_iadd C dL_law_847 ?_
        refine j_scr C hS g253 dL_law_848 ?_
        refine j_aload_n C 0 dL_law_849 rfl rfl ?_
        refine j_iload_n C 3 dL_law_850 rfl rfl ?_
        refine j_iconst C (2 : Int32) (by decide) dL_law_851 ?_
        refine j_iadd C dL_law_852 ?_
        refine j_scr C hS g254 dL_law_853 ?_
        obtain ⟨r259, D260, h258, h⟩ := cbd_x h
        refine j_callV C [.int (xs (l3 + (1 : Int32)).toNatClampNeg), .int (xs (l3 + (2 : Int32)).toNatClampNeg)] [.int r256] cl_L_106 (M_X11_shun (lv := lv - 1) hG (by omega) h258) (by omega) dL_law_854 (by decide) ⟨rfl, rfl⟩ rfl rfl (Nat.le_of_ble_eq_true rfl) ?_
        refine j_st (st' := [.int r259, .int r256]) rfl ?_
        refine j_icmp_eq C 1172 dL_law_857 (by decide) (fun c261 => ?_) (fun c261 => ?_)
        · have h := ite_t c261 h
          refine T_L_law_b1172 hG hlv hS C (fun l3_262 D263 h => ?_) l3 D260 h
          · exact ih l3_262 D263 h
        · have h := ite_f c261 h
          exact nomatch h
      have h := ite_f c252 h
      by_cases c264 : ((xs l3.toNatClampNeg) &&& (31 : Int32)) = (22 : Int32)
      · have h := ite_t c264 h
        refine j_tabIn C (off := 829) (22 : Int32) 862 dL_law_33 c264 ⟨by decide, by decide⟩ (by decide +kernel) (by decide) ?_
        refine j_aload_n C 1 dL_law_862 rfl rfl ?_
        refine j_aload_n C 0 dL_law_863 rfl rfl ?_
        refine j_iload_n C 3 dL_law_864 rfl rfl ?_
        refine j_iconst C (1 : Int32) (by decide) dL_law_865 ?_
        refine j_iadd C dL_law_866 ?_
        obtain ⟨g265, h⟩ := grd_x h
        refine j_scr C hS g265 dL_law_867 ?_
        refine j_aload_n C 0 dL_law_868 rfl rfl ?_
        refine j_iload_n C 3 dL_law_869 rfl rfl ?_
        refine j_iconst C (2 : Int32) (by decide) dL_law_870 ?_
        refine j_iadd C dL_law_871 ?_
        obtain ⟨g266, h⟩ := grd_x h
        refine j_scr C hS g266 dL_law_872 ?_
        obtain ⟨r268, D269, h267, h⟩ := cbd_x h
        refine j_callV C [.int (xs (l3 + (1 : Int32)).toNatClampNeg), .int (xs (l3 + (2 : Int32)).toNatClampNeg)] [] cl_L_107 (M_X10_mother (lv := lv - 1) hG (by omega) h267) (by omega) dL_law_873 (by decide) ⟨rfl, rfl⟩ rfl rfl (Nat.le_of_ble_eq_true rfl) ?_
        refine j_st (st' := [.int r268]) rfl ?_
        refine j_aload_n C 2 dL_law_876 rfl rfl ?_
        refine j_aload_n C 0 dL_law_877 rfl rfl ?_
        refine j_iload_n C 3 dL_law_878 rfl rfl ?_
        refine j_iconst C (1 : Int32) (by decide) dL_law_879 ?_
        refine j_iadd C dL_law_880 ?_
        refine j_scr C hS g265 dL_law_881 ?_
        refine j_aload_n C 0 dL_law_882 rfl rfl ?_
        refine j_iload_n C 3 dL_law_883 rfl rfl ?_
        refine j_iconst C (2 : Int32) (by decide) dL_law_884 ?_
        refine j_iadd C dL_law_885 ?_
        refine j_scr C hS g266 dL_law_886 ?_
        obtain ⟨r271, D272, h270, h⟩ := cbd_x h
        refine j_callV C [.int (xs (l3 + (1 : Int32)).toNatClampNeg), .int (xs (l3 + (2 : Int32)).toNatClampNeg)] [.int r268] cl_L_110 (M_X11_mother (lv := lv - 1) hG (by omega) h270) (by omega) dL_law_887 (by decide) ⟨rfl, rfl⟩ rfl rfl (Nat.le_of_ble_eq_true rfl) ?_
        refine j_st (st' := [.int r271, .int r268]) rfl ?_
        refine j_icmp_eq C 1172 dL_law_890 (by decide) (fun c273 => ?_) (fun c273 => ?_)
        · have h := ite_t c273 h
          refine T_L_law_b1172 hG hlv hS C (fun l3_274 D275 h => ?_) l3 D272 h
          · exact ih l3_274 D275 h
        · have h := ite_f c273 h
          exact nomatch h
      have h := ite_f c264 h
      by_cases c276 : ((xs l3.toNatClampNeg) &&& (31 : Int32)) = (23 : Int32)
      · have h := ite_t c276 h
        refine j_tabIn C (off := 862) (23 : Int32) 895 dL_law_33 c276 ⟨by decide, by decide⟩ (by decide +kernel) (by decide) ?_
        refine j_aload_n C 1 dL_law_895 rfl rfl ?_
        refine j_aload_n C 0 dL_law_896 rfl rfl ?_
        refine j_iload_n C 3 dL_law_897 rfl rfl ?_
        refine j_iconst C (1 : Int32) (by decide) dL_law_898 ?_
        refine j_iadd C dL_law_899 ?_
        obtain ⟨g277, h⟩ := grd_x h
        refine j_scr C hS g277 dL_law_900 ?_
        refine j_aload_n C 0 dL_law_901 rfl rfl ?_
        refine j_iload_n C 3 dL_law_902 rfl rfl ?_
        refine j_iconst C (2 : Int32) (by decide) dL_law_903 ?_
        refine j_iadd C dL_law_904 ?_
        obtain ⟨g278, h⟩ := grd_x h
        refine j_scr C hS g278 dL_law_905 ?_
        obtain ⟨r280, D281, h279, h⟩ := cbd_x h
        refine j_callV C [.int (xs (l3 + (1 : Int32)).toNatClampNeg), .int (xs (l3 + (2 : Int32)).toNatClampNeg)] [] cl_L_111 (M_X10_parts (lv := lv - 1) hG (by omega) h279) (by omega) dL_law_906 (by decide) ⟨rfl, rfl⟩ rfl rfl (Nat.le_of_ble_eq_true rfl) ?_
        refine j_st (st' := [.int r280]) rfl ?_
        refine j_aload_n C 2 dL_law_909 rfl rfl ?_
        refine j_aload_n C 0 dL_law_910 rfl rfl ?_
        refine j_iload_n C 3 dL_law_911 rfl rfl ?_
        refine j_iconst C (1 : Int32) (by decide) dL_law_912 ?_
        refine j_iadd C dL_law_913 ?_
        refine j_scr C hS g277 dL_law_914 ?_
        refine j_aload_n C 0 dL_law_915 rfl rfl ?_
        refine j_iload_n C 3 dL_law_916 rfl rfl ?_
        refine j_iconst C (2 : Int32) (by decide) dL_law_917 ?_
        refine j_iadd C dL_law_918 ?_
        refine j_scr C hS g278 dL_law_919 ?_
        obtain ⟨r283, D284, h282, h⟩ := cbd_x h
        refine j_callV C [.int (xs (l3 + (1 : Int32)).toNatClampNeg), .int (xs (l3 + (2 : Int32)).toNatClampNeg)] [.int r280] cl_L_114 (M_X11_parts (lv := lv - 1) hG (by omega) h282) (by omega) dL_law_920 (by decide) ⟨rfl, rfl⟩ rfl rfl (Nat.le_of_ble_eq_true rfl) ?_
        refine j_st (st' := [.int r283, .int r280]) rfl ?_
        refine j_icmp_eq C 1172 dL_law_923 (by decide) (fun c285 => ?_) (fun c285 => ?_)
        · have h := ite_t c285 h
          refine T_L_law_b1172 hG hlv hS C (fun l3_286 D287 h => ?_) l3 D284 h
          · exact ih l3_286 D287 h
        · have h := ite_f c285 h
          exact nomatch h
      have h := ite_f c276 h
      by_cases c288 : ((xs l3.toNatClampNeg) &&& (31 : Int32)) = (24 : Int32)
      · have h := ite_t c288 h
        refine j_tabIn C (off := 895) (24 : Int32) 928 dL_law_33 c288 ⟨by decide, by decide⟩ (by decide +kernel) (by decide) ?_
        refine j_aload_n C 1 dL_law_928 rfl rfl ?_
        refine j_aload_n C 0 dL_law_929 rfl rfl ?_
        refine j_iload_n C 3 dL_law_930 rfl rfl ?_
        refine j_iconst C (1 : Int32) (by decide) dL_law_931 ?_
        refine j_iadd C dL_law_932 ?_
        obtain ⟨g289, h⟩ := grd_x h
        refine j_scr C hS g289 dL_law_933 ?_
        refine j_aload_n C 0 dL_law_934 rfl rfl ?_
        refine j_iload_n C 3 dL_law_935 rfl rfl ?_
        refine j_iconst C (2 : Int32) (by decide) dL_law_936 ?_
        refine j_iadd C dL_law_937 ?_
        obtain ⟨g290, h⟩ := grd_x h
        refine j_scr C hS g290 dL_law_938 ?_
        refine j_aload_n C 0 dL_law_939 rfl rfl ?_
        refine j_iload_n C 3 dL_law_940 rfl rfl ?_
        refine j_iconst C (3 : Int32) (by decide) dL_law_941 ?_
        refine j_iadd C dL_law_942 ?_
        obtain ⟨g291, h⟩ := grd_x h
        refine j_scr C hS g291 dL_law_943 ?_
        obtain ⟨r293, D294, h292, h⟩ := cbd_x h
        refine j_callV C [.int (xs (l3 + (1 : Int32)).toNatClampNeg), .int (xs (l3 + (2 : Int32)).toNatClampNeg), .int (xs (l3 + (3 : Int32)).toNatClampNeg)] [] cl_L_115 (M_X10_note (lv := lv - 1) hG (by omega) h292) (by omega) dL_law_944 (by decide) ⟨rfl, rfl⟩ rfl rfl (Nat.le_of_ble_eq_true rfl) ?_
        refine j_st (st' := [.int r293]) rfl ?_
        refine j_aload_n C 2 dL_law_947 rfl rfl ?_
        refine j_aload_n C 0 dL_law_948 rfl rfl ?_
        refine j_iload_n C 3 dL_law_949 rfl rfl ?_
        refine j_iconst C (1 : Int32) (by decide) dL_law_950 ?_
        refine j_iadd C dL_law_951 ?_
        refine j_scr C hS g289 dL_law_952 ?_
        refine j_aload_n C 0 dL_law_953 rfl rfl ?_
        refine j_iload_n C 3 dL_law_954 rfl rfl ?_
        refine j_iconst C (2 : Int32) (by decide) dL_law_955 ?_
        refine j_iadd C dL_law_956 ?_
        refine j_scr C hS g290 dL_law_957 ?_
        refine j_aload_n C 0 dL_law_958 rfl rfl ?_
        refine j_iload_n C 3 dL_law_959 rfl rfl ?_
        refine j_iconst C (3 : Int32) (by decide) dL_law_960 ?_
        refine j_iadd C dL_law_961 ?_
        refine j_scr C hS g291 dL_law_962 ?_
        obtain ⟨r296, D297, h295, h⟩ := cbd_x h
        refine j_callV C [.int (xs (l3 + (1 : Int32)).toNatClampNeg), .int (xs (l3 + (2 : Int32)).toNatClampNeg), .int (xs (l3 + (3 : Int32)).toNatClampNeg)] [.int r293] cl_L_118 (M_X11_note (lv := lv - 1) hG (by omega) h295) (by omega) dL_law_963 (by decide) ⟨rfl, rfl⟩ rfl rfl (Nat.le_of_ble_eq_true rfl) ?_
        refine j_st (st' := [.int r296, .int r293]) rfl ?_
        refine j_icmp_eq C 1172 dL_law_966 (by decide) (fun c298 => ?_) (fun c298 => ?_)
        · have h := ite_t c298 h
          refine T_L_law_b1172 hG hlv hS C (fun l3_299 D300 h => ?_) l3 D297 h
          · exact ih l3_299 D300 h
        · have h := ite_f c298 h
          exact nomatch h
      have h := ite_f c288 h
      by_cases c301 : ((xs l3.toNatClampNeg) &&& (31 : Int32)) = (25 : Int32)
      · have h := ite_t c301 h
        refine j_tabIn C (off := 938) (25 : Int32) 971 dL_law_33 c301 ⟨by decide, by decide⟩ (by decide +kernel) (by decide) ?_
        refine j_aload_n C 1 dL_law_971 rfl rfl ?_
        refine j_aload_n C 0 dL_law_972 rfl rfl ?_
        refine j_iload_n C 3 dL_law_973 rfl rfl ?_
        refine j_iconst C (1 : Int32) (by decide) dL_law_974 ?_
        refine j_iadd C dL_law_975 ?_
        obtain ⟨g302, h⟩ := grd_x h
        refine j_scr C hS g302 dL_law_976 ?_
        obtain ⟨r304, D305, h303, h⟩ := cbd_x h
        refine j_callV C [.int (xs (l3 + (1 : Int32)).toNatClampNeg)] [] cl_L_119 (M_X10_ruled (lv := lv - 1) hG (by omega) h303) (by omega) dL_law_977 (by decide) ⟨rfl, rfl⟩ rfl rfl (Nat.le_of_ble_eq_true rfl) ?_
        refine j_st (st' := [.int r304]) rfl ?_
        refine j_aload_n C 2 dL_law_980 rfl rfl ?_
        refine j_aload_n C 0 dL_law_981 rfl rfl ?_
        refine j_iload_n C 3 dL_law_982 rfl rfl ?_
        refine j_iconst C (1 : Int32) (by decide) dL_law_983 ?_
        refine j_iadd C dL_law_984 ?_
        refine j_scr C hS g302 dL_law_985 ?_
        obtain ⟨r307, D308, h306, h⟩ := cbd_x h
        refine j_callV C [.int (xs (l3 + (1 : Int32)).toNatClampNeg)] [.int r304] cl_L_122 (M_X11_ruled (lv := lv - 1) hG (by omega) h306) (by omega) dL_law_986 (by decide) ⟨rfl, rfl⟩ rfl rfl (Nat.le_of_ble_eq_true rfl) ?_
        refine j_st (st' := [.int r307, .int r304]) rfl ?_
        refine j_icmp_eq C 1172 dL_law_989 (by decide) (fun c309 => ?_) (fun c309 => ?_)
        · have h := ite_t c309 h
          refine T_L_law_b1172 hG hlv hS C (fun l3_310 D311 h => ?_) l3 D308 h
          · exact ih l3_310 D311 h
        · have h := ite_f c309 h
          exact nomatch h
      have h := ite_f c301 h
      by_cases c312 : ((xs l3.toNatClampNeg) &&& (31 : Int32)) = (26 : Int32)
      · have h := ite_t c312 h
        refine j_tabIn C (off := 961) (26 : Int32) 994 dL_law_33 c312 ⟨by decide, by decide⟩ (by decide +kernel) (by decide) ?_
        refine j_aload_n C 1 dL_law_994 rfl rfl ?_
        refine j_aload_n C 0 dL_law_995 rfl rfl ?_
        refine j_iload_n C 3 dL_law_996 rfl rfl ?_
        refine j_iconst C (1 : Int32) (by decide) dL_law_997 ?_
        refine j_iadd C dL_law_998 ?_
        obtain ⟨g313, h⟩ := grd_x h
        refine j_scr C hS g313 dL_law_999 ?_
        refine j_aload_n C 0 dL_law_1000 rfl rfl ?_
        refine j_iload_n C 3 dL_law_1001 rfl rfl ?_
        refine j_iconst C (2 : Int32) (by decide) dL_law_1002 ?_
        refine j_iadd C dL_law_1003 ?_
        obtain ⟨g314, h⟩ := grd_x h
        refine j_scr C hS g314 dL_law_1004 ?_
        obtain ⟨r316, D317, h315, h⟩ := cbd_x h
        refine j_callV C [.int (xs (l3 + (1 : Int32)).toNatClampNeg), .int (xs (l3 + (2 : Int32)).toNatClampNeg)] [] cl_L_123 (M_X10_look (lv := lv - 1) hG (by omega) h315) (by omega) dL_law_1005 (by decide) ⟨rfl, rfl⟩ rfl rfl (Nat.le_of_ble_eq_true rfl) ?_
        refine j_st (st' := [.int r316]) rfl ?_
        refine j_aload_n C 2 dL_law_1008 rfl rfl ?_
        refine j_aload_n C 0 dL_law_1009 rfl rfl ?_
        refine j_iload_n C 3 dL_law_1010 rfl rfl ?_
        refine j_iconst C (1 : Int32) (by decide) dL_law_1011 ?_
        refine j_iadd C dL_law_1012 ?_
        refine j_scr C hS g313 dL_law_1013 ?_
        refine j_aload_n C 0 dL_law_1014 rfl rfl ?_
        refine j_iload_n C 3 dL_law_1015 rfl rfl ?_
        refine j_iconst C (2 : Int32) (by decide) dL_law_1016 ?_
        refine j_iadd C dL_law_1017 ?_
        refine j_scr C hS g314 dL_law_1018 ?_
        obtain ⟨r319, D320, h318, h⟩ := cbd_x h
        refine j_callV C [.int (xs (l3 + (1 : Int32)).toNatClampNeg), .int (xs (l3 + (2 : Int32)).toNatClampNeg)] [.int r316] cl_L_126 (M_X11_look (lv := lv - 1) hG (by omega) h318) (by omega) dL_law_1019 (by decide) ⟨rfl, rfl⟩ rfl rfl (Nat.le_of_ble_eq_true rfl) ?_
        refine j_st (st' := [.int r319, .int r316]) rfl ?_
        refine j_icmp_eq C 1172 dL_law_1022 (by decide) (fun c321 => ?_) (fun c321 => ?_)
        · have h := ite_t c321 h
          refine T_L_law_b1172 hG hlv hS C (fun l3_322 D323 h => ?_) l3 D320 h
          · exact ih l3_322 D323 h
        · have h := ite_f c321 h
          exact nomatch h
      have h := ite_f c312 h
      by_cases c324 : ((xs l3.toNatClampNeg) &&& (31 : Int32)) = (27 : Int32)
      · have h := ite_t c324 h
        refine j_tabIn C (off := 994) (27 : Int32) 1027 dL_law_33 c324 ⟨by decide, by decide⟩ (by decide +kernel) (by decide) ?_
        refine j_aload_n C 1 dL_law_1027 rfl rfl ?_
        refine j_aload_n C 0 dL_law_1028 rfl rfl ?_
        refine j_iload_n C 3 dL_law_1029 rfl rfl ?_
        refine j_iconst C (1 : Int32) (by decide) dL_law_1030 ?_
        refine j_iadd C dL_law_1031 ?_
        obtain ⟨g325, h⟩ := grd_x h
        refine j_scr C hS g325 dL_law_1032 ?_
        obtain ⟨r327, D328, h326, h⟩ := cbd_x h
        refine j_callV C [.int (xs (l3 + (1 : Int32)).toNatClampNeg)] [] cl_L_127 (M_X10_seed (lv := lv - 1) hG (by omega) h326) (by omega) dL_law_1033 (by decide) ⟨rfl, rfl⟩ rfl rfl (Nat.le_of_ble_eq_true rfl) ?_
        refine j_st (st' := [.int r327]) rfl ?_
        refine j_aload_n C 2 dL_law_1036 rfl rfl ?_
        refine j_aload_n C 0 dL_law_1037 rfl rfl ?_
        refine j_iload_n C 3 dL_law_1038 rfl rfl ?_
        refine j_iconst C (1 : Int32) (by decide) dL_law_1039 ?_
        refine j_iadd C dL_law_1040 ?_
        refine j_scr C hS g325 dL_law_1041 ?_
        obtain ⟨r330, D331, h329, h⟩ := cbd_x h
        refine j_callV C [.int (xs (l3 + (1 : Int32)).toNatClampNeg)] [.int r327] cl_L_130 (M_X11_seed (lv := lv - 1) hG (by omega) h329) (by omega) dL_law_1042 (by decide) ⟨rfl, rfl⟩ rfl rfl (Nat.le_of_ble_eq_true rfl) ?_
        refine j_st (st' := [.int r330, .int r327]) rfl ?_
        refine j_icmp_eq C 1172 dL_law_1045 (by decide) (fun c332 => ?_) (fun c332 => ?_)
        · have h := ite_t c332 h
          refine T_L_law_b1172 hG hlv hS C (fun l3_333 D334 h => ?_) l3 D331 h
          · exact ih l3_333 D334 h
        · have h := ite_f c332 h
          exact nomatch h
      have h := ite_f c324 h
      by_cases c335 : ((xs l3.toNatClampNeg) &&& (31 : Int32)) = (28 : Int32)
      · have h := ite_t c335 h
        refine j_tabIn C (off := 1017) (28 : Int32) 1050 dL_law_33 c335 ⟨by decide, by decide⟩ (by decide +kernel) (by decide) ?_
        refine j_aload_n C 1 dL_law_1050 rfl rfl ?_
        refine j_aload_n C 0 dL_law_1051 rfl rfl ?_
        refine j_iload_n C 3 dL_law_1052 rfl rfl ?_
        refine j_iconst C (1 : Int32) (by decide) dL_law_1053 ?_
        refine j_iadd C dL_law_1054 ?_
        obtain ⟨g336, h⟩ := grd_x h
        refine j_scr C hS g336 dL_law_1055 ?_
        refine j_aload_n C 0 dL_law_1056 rfl rfl ?_
        refine j_iload_n C 3 dL_law_1057 rfl rfl ?_
        refine j_iconst C (2 : Int32) (by decide) dL_law_1058 ?_
        refine j_iadd C dL_law_1059 ?_
        obtain ⟨g337, h⟩ := grd_x h
        refine j_scr C hS g337 dL_law_1060 ?_
        refine j_aload_n C 0 dL_law_1061 rfl rfl ?_
        refine j_iload_n C 3 dL_law_1062 rfl rfl ?_
        refine j_iconst C (3 : Int32) (by decide) dL_law_1063 ?_
        refine j_iadd C dL_law_1064 ?_
        obtain ⟨g338, h⟩ := grd_x h
        refine j_scr C hS g338 dL_law_1065 ?_
        refine j_aload_n C 0 dL_law_1066 rfl rfl ?_
        refine j_iload_n C 3 dL_law_1067 rfl rfl ?_
        refine j_iconst C (4 : Int32) (by decide) dL_law_1068 ?_
        refine j_iadd C dL_law_1069 ?_
        obtain ⟨g339, h⟩ := grd_x h
        refine j_scr C hS g339 dL_law_1070 ?_
        obtain ⟨r341, D342, h340, h⟩ := cbd_x h
        refine j_callV C [.int (xs (l3 + (1 : Int32)).toNatClampNeg), .int (xs (l3 + (2 : Int32)).toNatClampNeg), .int (xs (l3 + (3 : Int32)).toNatClampNeg), .int (xs (l3 + (4 : Int32)).toNatClampNeg)] [] cl_L_131 (M_X10_summers (lv := lv - 1) hG (by omega) h340) (by omega) dL_law_1071 (by decide) ⟨rfl, rfl⟩ rfl rfl (Nat.le_of_ble_eq_true rfl) ?_
        refine j_st (st' := [.int r341]) rfl ?_
        refine j_aload_n C 2 dL_law_1074 rfl rfl ?_
        refine j_aload_n C 0 dL_law_1075 rfl rfl ?_
        refine j_iload_n C 3 dL_law_1076 rfl rfl ?_
        refine j_iconst C (1 : Int32) (by decide) dL_law_1077 ?_
        refine j_iadd C dL_law_1078 ?_
        refine j_scr C hS g336 dL_law_1079 ?_
        refine j_aload_n C 0 dL_law_1080 rfl rfl ?_
        refine j_iload_n C 3 dL_law_1081 rfl rfl ?_
        refine j_iconst C (2 : Int32) (by decide) dL_law_1082 ?_
        refine j_iadd C dL_law_1083 ?_
        refine j_scr C hS g337 dL_law_1084 ?_
        refine j_aload_n C 0 dL_law_1085 rfl rfl ?_
        refine j_iload_n C 3 dL_law_1086 rfl rfl ?_
        refine j_iconst C (3 : Int32) (by decide) dL_law_1087 ?_
        refine j_iadd C dL_law_1088 ?_
        refine j_scr C hS g338 dL_law_1089 ?_
        refine j_aload_n C 0 dL_law_1090 rfl rfl ?_
        refine j_iload_n C 3 dL_law_1091 rfl rfl ?_
        refine j_iconst C (4 : Int32) (by decide) dL_law_1092 ?_
        refine j_iadd C dL_law_1093 ?_
        refine j_scr C hS g339 dL_law_1094 ?_
        obtain ⟨r344, D345, h343, h⟩ := cbd_x h
        refine j_callV C [.int (xs (l3 + (1 : Int32)).toNatClampNeg), .int (xs (l3 + (2 : Int32)).toNatClampNeg), .int (xs (l3 + (3 : Int32)).toNatClampNeg), .int (xs (l3 + (4 : Int32)).toNatClampNeg)] [.int r341] cl_L_134 (M_X11_summers (lv := lv - 1) hG (by omega) h343) (by omega) dL_law_1095 (by decide) ⟨rfl, rfl⟩ rfl rfl (Nat.le_of_ble_eq_true rfl) ?_
        refine j_st (st' := [.int r344, .int r341]) rfl ?_
        refine j_icmp_eq C 1172 dL_law_1098 (by decide) (fun c346 => ?_) (fun c346 => ?_)
        · have h := ite_t c346 h
          refine T_L_law_b1172 hG hlv hS C (fun l3_347 D348 h => ?_) l3 D345 h
          · exact ih l3_347 D348 h
        · have h := ite_f c346 h
          exact nomatch h
      have h := ite_f c335 h
      by_cases c349 : ((xs l3.toNatClampNeg) &&& (31 : Int32)) = (29 : Int32)
      · have h := ite_t c349 h
        refine j_tabIn C (off := 1070) (29 : Int32) 1103 dL_law_33 c349 ⟨by decide, by decide⟩ (by decide +kernel) (by decide) ?_
        refine j_aload_n C 1 dL_law_1103 rfl rfl ?_
        refine j_aload_n C 0 dL_law_1104 rfl rfl ?_
        refine j_iload_n C 3 dL_law_1105 rfl rfl ?_
        refine j_iconst C (1 : Int32) (by decide) dL_law_1106 ?_
        refine j_iadd C dL_law_1107 ?_
        obtain ⟨g350, h⟩ := grd_x h
        refine j_scr C hS g350 dL_law_1108 ?_
        obtain ⟨r352, D353, h351, h⟩ := cbd_x h
        refine j_callV C [.int (xs (l3 + (1 : Int32)).toNatClampNeg)] [] cl_L_135 (M_X10_count (lv := lv - 1) hG (by omega) h351) (by omega) dL_law_1109 (by decide) ⟨rfl, rfl⟩ rfl rfl (Nat.le_of_ble_eq_true rfl) ?_
        refine j_st (st' := [.int r352]) rfl ?_
        refine j_aload_n C 2 dL_law_1112 rfl rfl ?_
        refine j_aload_n C 0 dL_law_1113 rfl rfl ?_
        refine j_iload_n C 3 dL_law_1114 rfl rfl ?_
        refine j_iconst C (1 : Int32) (by decide) dL_law_1115 ?_
        refine j_iadd C dL_law_1116 ?_
        refine j_scr C hS g350 dL_law_1117 ?_
        obtain ⟨r355, D356, h354, h⟩ := cbd_x h
        refine j_callV C [.int (xs (l3 + (1 : Int32)).toNatClampNeg)] [.int r352] cl_L_138 (M_X11_count (lv := lv - 1) hG (by omega) h354) (by omega) dL_law_1118 (by decide) ⟨rfl, rfl⟩ rfl rfl (Nat.le_of_ble_eq_true rfl) ?_
        refine j_st (st' := [.int r355, .int r352]) rfl ?_
        refine j_icmp_eq C 1172 dL_law_1121 (by decide) (fun c357 => ?_) (fun c357 => ?_)
        · have h := ite_t c357 h
          refine T_L_law_b1172 hG hlv hS C (fun l3_358 D359 h => ?_) l3 D356 h
          · exact ih l3_358 D359 h
        · have h := ite_f c357 h
          exact nomatch h
      have h := ite_f c349 h
      by_cases c360 : ((xs l3.toNatClampNeg) &&& (31 : Int32)) = (30 : Int32)
      · have h := ite_t c360 h
        refine j_tabIn C (off := 1093) (30 : Int32) 1126 dL_law_33 c360 ⟨by decide, by decide⟩ (by decide +kernel) (by decide) ?_
        refine j_aload_n C 1 dL_law_1126 rfl rfl ?_
        refine j_aload_n C 0 dL_law_1127 rfl rfl ?_
        refine j_iload_n C 3 dL_law_1128 rfl rfl ?_
        refine j_iconst C (1 : Int32) (by decide) dL_law_1129 ?_
        refine j_iadd C dL_law_1130 ?_
        obtain ⟨g361, h⟩ := grd_x h
        refine j_scr C hS g361 dL_law_1131 ?_
        obtain ⟨r363, D364, h362, h⟩ := cbd_x h
        refine j_callV C [.int (xs (l3 + (1 : Int32)).toNatClampNeg)] [] cl_L_139 (M_X10_image (lv := lv - 1) hG (by omega) h362) (by omega) dL_law_1132 (by decide) ⟨rfl, rfl⟩ rfl rfl (Nat.le_of_ble_eq_true rfl) ?_
        refine j_st (st' := [.int r363]) rfl ?_
        refine j_aload_n C 2 dL_law_1135 rfl rfl ?_
        refine j_aload_n C 0 dL_law_1136 rfl rfl ?_
        refine j_iload_n C 3 dL_law_1137 rfl rfl ?_
        refine j_iconst C (1 : Int32) (by decide) dL_law_1138 ?_
        refine j_iadd C dL_law_1139 ?_
        refine j_scr C hS g361 dL_law_1140 ?_
        obtain ⟨r366, D367, h365, h⟩ := cbd_x h
        refine j_callV C [.int (xs (l3 + (1 : Int32)).toNatClampNeg)] [.int r363] cl_L_142 (M_X11_image (lv := lv - 1) hG (by omega) h365) (by omega) dL_law_1141 (by decide) ⟨rfl, rfl⟩ rfl rfl (Nat.le_of_ble_eq_true rfl) ?_
        refine j_st (st' := [.int r366, .int r363]) rfl ?_
        refine j_icmp_eq C 1172 dL_law_1144 (by decide) (fun c368 => ?_) (fun c368 => ?_)
        · have h := ite_t c368 h
          refine T_L_law_b1172 hG hlv hS C (fun l3_369 D370 h => ?_) l3 D367 h
          · exact ih l3_369 D370 h
        · have h := ite_f c368 h
          exact nomatch h
      have h := ite_f c360 h
      by_cases c371 : ((xs l3.toNatClampNeg) &&& (31 : Int32)) = (31 : Int32)
      · have h := ite_t c371 h
        refine j_tabIn C (off := 1116) (31 : Int32) 1149 dL_law_33 c371 ⟨by decide, by decide⟩ (by decide +kernel) (by decide) ?_
        refine j_aload_n C 1 dL_law_1149 rfl rfl ?_
        refine j_aload_n C 0 dL_law_1150 rfl rfl ?_
        refine j_iload_n C 3 dL_law_1151 rfl rfl ?_
        refine j_iconst C (1 : Int32) (by decide) dL_law_1152 ?_
        refine j_iadd C dL_law_1153 ?_
        obtain ⟨g372, h⟩ := grd_x h
        refine j_scr C hS g372 dL_law_1154 ?_
        obtain ⟨r374, D375, h373, h⟩ := cbd_x h
        refine j_callV C [.int (xs (l3 + (1 : Int32)).toNatClampNeg)] [] cl_L_143 (M_X10_back (lv := lv - 1) hG (by omega) h373) (by omega) dL_law_1155 (by decide) ⟨rfl, rfl⟩ rfl rfl (Nat.le_of_ble_eq_true rfl) ?_
        refine j_st (st' := [.int r374]) rfl ?_
        refine j_aload_n C 2 dL_law_1158 rfl rfl ?_
        refine j_aload_n C 0 dL_law_1159 rfl rfl ?_
        refine j_iload_n C 3 dL_law_1160 rfl rfl ?_
        refine j_iconst C (1 : Int32) (by decide) dL_law_1161 ?_
        refine j_iadd C dL_law_1162 ?_
        refine j_scr C hS g372 dL_law_1163 ?_
        obtain ⟨r377, D378, h376, h⟩ := cbd_x h
        refine j_callV C [.int (xs (l3 + (1 : Int32)).toNatClampNeg)] [.int r374] cl_L_146 (M_X11_back (lv := lv - 1) hG (by omega) h376) (by omega) dL_law_1164 (by decide) ⟨rfl, rfl⟩ rfl rfl (Nat.le_of_ble_eq_true rfl) ?_
        refine j_st (st' := [.int r377, .int r374]) rfl ?_
        refine j_icmp_eq C 1172 dL_law_1167 (by decide) (fun c379 => ?_) (fun c379 => ?_)
        · have h := ite_t c379 h
          refine T_L_law_b1172 hG hlv hS C (fun l3_380 D381 h => ?_) l3 D378 h
          · exact ih l3_380 D381 h
        · have h := ite_f c379 h
          exact nomatch h
      have h := ite_f c371 h
      refine j_tabOut C 1172 dL_law_33 (by have z0 : ((xs l3.toNatClampNeg) &&& (31 : Int32)).toInt ≠ 0 := ne_toInt c3; have z1 : ((xs l3.toNatClampNeg) &&& (31 : Int32)).toInt ≠ 1 := ne_toInt c19; have z2 : ((xs l3.toNatClampNeg) &&& (31 : Int32)).toInt ≠ 2 := ne_toInt c30; have z3 : ((xs l3.toNatClampNeg) &&& (31 : Int32)).toInt ≠ 3 := ne_toInt c40; have z4 : ((xs l3.toNatClampNeg) &&& (31 : Int32)).toInt ≠ 4 := ne_toInt c50; have z5 : ((xs l3.toNatClampNeg) &&& (31 : Int32)).toInt ≠ 5 := ne_toInt c61; have z6 : ((xs l3.toNatClampNeg) &&& (31 : Int32)).toInt ≠ 6 := ne_toInt c73; have z7 : ((xs l3.toNatClampNeg) &&& (31 : Int32)).toInt ≠ 7 := ne_toInt c85; have z8 : ((xs l3.toNatClampNeg) &&& (31 : Int32)).toInt ≠ 8 := ne_toInt c95; have z9 : ((xs l3.toNatClampNeg) &&& (31 : Int32)).toInt ≠ 9 := ne_toInt c107; have z10 : ((xs l3.toNatClampNeg) &&& (31 : Int32)).toInt ≠ 10 := ne_toInt c120; have z11 : ((xs l3.toNatClampNeg) &&& (31 : Int32)).toInt ≠ 11 := ne_toInt c132; have z12 : ((xs l3.toNatClampNeg) &&& (31 : Int32)).toInt ≠ 12 := ne_toInt c143; have z13 : ((xs l3.toNatClampNeg) &&& (31 : Int32)).toInt ≠ 13 := ne_toInt c153; have z14 : ((xs l3.toNatClampNeg) &&& (31 : Int32)).toInt ≠ 14 := ne_toInt c166; have z15 : ((xs l3.toNatClampNeg) &&& (31 : Int32)).toInt ≠ 15 := ne_toInt c177; have z16 : ((xs l3.toNatClampNeg) &&& (31 : Int32)).toInt ≠ 16 := ne_toInt c190; have z17 : ((xs l3.toNatClampNeg) &&& (31 : Int32)).toInt ≠ 17 := ne_toInt c202; have z18 : ((xs l3.toNatClampNeg) &&& (31 : Int32)).toInt ≠ 18 := ne_toInt c212; have z19 : ((xs l3.toNatClampNeg) &&& (31 : Int32)).toInt ≠ 19 := ne_toInt c225; have z20 : ((xs l3.toNatClampNeg) &&& (31 : Int32)).toInt ≠ 20 := ne_toInt c238; have z21 : ((xs l3.toNatClampNeg) &&& (31 : Int32)).toInt ≠ 21 := ne_toInt c252; have z22 : ((xs l3.toNatClampNeg) &&& (31 : Int32)).toInt ≠ 22 := ne_toInt c264; have z23 : ((xs l3.toNatClampNeg) &&& (31 : Int32)).toInt ≠ 23 := ne_toInt c276; have z24 : ((xs l3.toNatClampNeg) &&& (31 : Int32)).toInt ≠ 24 := ne_toInt c288; have z25 : ((xs l3.toNatClampNeg) &&& (31 : Int32)).toInt ≠ 25 := ne_toInt c301; have z26 : ((xs l3.toNatClampNeg) &&& (31 : Int32)).toInt ≠ 26 := ne_toInt c312; have z27 : ((xs l3.toNatClampNeg) &&& (31 : Int32)).toInt ≠ 27 := ne_toInt c324; have z28 : ((xs l3.toNatClampNeg) &&& (31 : Int32)).toInt ≠ 28 := ne_toInt c335; have z29 : ((xs l3.toNatClampNeg) &&& (31 : Int32)).toInt ≠ 29 := ne_toInt c349; have z30 : ((xs l3.toNatClampNeg) &&& (31 : Int32)).toInt ≠ 30 := ne_toInt c360; have z31 : ((xs l3.toNatClampNeg) &&& (31 : Int32)).toInt ≠ 31 := ne_toInt c371; omega) (by decide) ?_
      refine T_L_law_b1172 hG hlv hS C (fun l3_382 D383 h => ?_) l3 D h
      · exact ih l3_382 D383 h
