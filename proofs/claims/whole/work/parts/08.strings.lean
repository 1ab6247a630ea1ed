/-! ===== the JDK's Strings: constants alone ===== -/
def CW (own : String) (idx : Nat) (y : MethodName) (bytes : ByteArray) (maxL : Nat) (ret : Option FieldType) (n : Nat) : Prop :=
  Cond.methodLink own idx y ∈ tg ∧ Cond.instanceMethod y ∈ tg ∧ Cond.selects "java/lang/String" y y ∈ tg ∧ Cond.initialized "java/lang/String" ∈ tg ∧ Cond.code y bytes maxL ret ∈ tg ∧ y.cls = "java/lang/String" ∧ (y.cls ≠ "java/lang/invoke/MethodHandle" ∧ y.cls ≠ "java/lang/invoke/VarHandle" ∧ (parseMethodDescriptor y.desc).map (fun d => d.parameters.length) = some n) ∧ maxL ≤ 81
theorem lgQ (a b : Int32) (o : Option Nat) : (lg_sl [.int a, .int b, va_rf o]).length ≤ 3 := by
  cases o <;> exact Nat.le_of_ble_eq_true rfl
section SR
variable {X : Ctx} {cc : ByteArray} {own : String} {G : Gt} {l0 : Launch} {A0 : Nat → Prop} {lv n0 : Nat} {rt : Option FieldType} {r : Option Value} {D' : Dt} {pc : Nat} {L : List (Nat × Value)} {st : List Value} {D : Dt} {i idx : Nat}
theorem j_sgv (C : Cx X cc own G l0 A0 lv n0 rt r D') (hi : i < 20) (hw : Cond.fieldLink own idx "java/lang/String" "value" "[B" ∈ tg) (hd : decode cc pc = .ok (.getfield idx, 3)) (kk : J X (Rep G D) (pc + 3) L (.ref (sV G i) :: st)) : J X (Rep G D) pc L (.ref (sK G i) :: st) := by
  obtain ⟨p, l, e, R, s, m, args, below, meth, c, A, nL, Q, cs, sl⟩ := X
  obtain ⟨hx, hb, hml, hown, hts, hlk, hK, hG, hR, hr, hQ, hl0, hA0, hn0, hSx⟩ := C
  intro H locs ls h1 h2 h3
  exact vk_getf hx hb (hSx.1.1 i hi).2.2.1 h2 hown (hts _ hw) (fun _ h9 => h9) hd (kk H locs ls h1 h2 h3)
theorem j_sgc (C : Cx X cc own G l0 A0 lv n0 rt r D') (hi : i < 20) (hw : Cond.fieldLink own idx "java/lang/String" "coder" "B" ∈ tg) (hd : decode cc pc = .ok (.getfield idx, 3)) (kk : J X (Rep G D) (pc + 3) L (.int 0 :: st)) : J X (Rep G D) pc L (.ref (sK G i) :: st) := by
  obtain ⟨p, l, e, R, s, m, args, below, meth, c, A, nL, Q, cs, sl⟩ := X
  obtain ⟨hx, hb, hml, hown, hts, hlk, hK, hG, hR, hr, hQ, hl0, hA0, hn0, hSx⟩ := C
  intro H locs ls h1 h2 h3
  exact vk_getf hx hb (hSx.1.1 i hi).2.1 h2 hown (hts _ hw) (fun _ h9 => h9) hd (kk H locs ls h1 h2 h3)
theorem j_gsC (C : Cx X cc own G l0 A0 lv n0 rt r D') (hw : Cond.fieldLink own idx "java/lang/String" "COMPACT_STRINGS" "Z" ∈ tg) (hd : decode cc pc = .ok (.getstatic idx, 3)) (kk : J X (Rep G D) (pc + 3) L (.int 1 :: st)) : J X (Rep G D) pc L st := by
  obtain ⟨p, l, e, R, s, m, args, below, meth, c, A, nL, Q, cs, sl⟩ := X
  obtain ⟨hx, hb, hml, hown, hts, hlk, hK, hG, hR, hr, hQ, hl0, hA0, hn0, hSx⟩ := C
  intro H locs ls h1 h2 h3
  exact va_gets hx hb hSx.2.2.1 h2 hown (hts _ hw) (fun _ h9 => h9) hd (kk H locs ls h1 h2 h3)
theorem j_gsF (C : Cx X cc own G l0 A0 lv n0 rt r D') (hw : Cond.fieldLink own idx "jdk/internal/util/Preconditions" "SIOOBE_FORMATTER" "Ljava/util/function/BiFunction;" ∈ tg) (hd : decode cc pc = .ok (.getstatic idx, 3)) (kk : J X (Rep G D) (pc + 3) L (va_rf (fmG G) :: st)) : J X (Rep G D) pc L st := by
  obtain ⟨p, l, e, R, s, m, args, below, meth, c, A, nL, Q, cs, sl⟩ := X
  obtain ⟨hx, hb, hml, hown, hts, hlk, hK, hG, hR, hr, hQ, hl0, hA0, hn0, hSx⟩ := C
  intro H locs ls h1 h2 h3
  exact va_gets hx hb hSx.2.2.2 h2 hown (hts _ hw) (fun _ h9 => h9) hd (kk H locs ls h1 h2 h3)
theorem j_blen (C : Cx X cc own G l0 A0 lv n0 rt r D') (hi : i < 20) (hd : decode cc pc = .ok (.arraylength, 1)) (kk : J X (Rep G D) (pc + 1) L (.int (sLen i) :: st)) : J X (Rep G D) pc L (.ref (sV G i) :: st) := by
  obtain ⟨p, l, e, R, s, m, args, below, meth, c, A, nL, Q, cs, sl⟩ := X
  obtain ⟨hx, hb, hml, hown, hts, hlk, hK, hG, hR, hr, hQ, hl0, hA0, hn0, hSx⟩ := C
  intro H locs ls h1 h2 h3
  exact va_tlen hx hb (hSx.1.1 i hi).2.2.2 h2 rfl hd (kk H locs ls h1 h2 h3)
theorem j_bbald (C : Cx X cc own G l0 A0 lv n0 rt r D') {k : Int32} (hi : i < 20) (hd : decode cc pc = .ok (.baload, 1)) (hin : inB k (lenS.getD i 0) = true) (kk : J X (Rep G D) (pc + 1) L (.int (sChr i k) :: st)) : J X (Rep G D) pc L (.int k :: .ref (sV G i) :: st) := by
  obtain ⟨p, l, e, R, s, m, args, below, meth, c, A, nL, Q, cs, sl⟩ := X
  obtain ⟨hx, hb, hml, hown, hts, hlk, hK, hG, hR, hr, hQ, hl0, hA0, hn0, hSx⟩ := C
  intro H locs ls h1 h2 h3
  exact va_tb hx hb (hSx.1.1 i hi).2.2.2 h2 (inB_in hin) rfl hd (kk H locs ls h1 h2 h3)
theorem j_nret {ty : FieldType} {v : Int32} (C : Cx X cc own G l0 A0 lv n0 (some ty) (some (.int v)) D) (hv : narrow ty (.int v) = .int v) (hd : decode cc pc = .ok (.ireturn, 1)) : J X (Rep G D) pc L [.int v] := by
  obtain ⟨p, l, e, R, s, m, args, below, meth, c, A, nL, Q, cs, sl⟩ := X
  obtain ⟨hx, hb, hml, hown, hts, hlk, hK, hG, hR, hr, hQ, hl0, hA0, hn0, hSx⟩ := C
  intro H locs ls h1 h2 h3
  have hQ := hQ rfl
  subst hQ
  exact W.zret hx hb hr hv (fun t ht hW => ⟨rfl, by rw [ht]; exact h1, hK.warm hW, by rw [ht]; exact hSx.warm hW h2, h2.F ht⟩) h2.2.2 hd hlk
theorem j_callW (C : Cx X cc own G l0 A0 lv n0 rt r D') {maxL n lv' : Nat} {y : MethodName} {bytes : ByteArray} {ret : Option FieldType} {r1 : Option Value} {D1 : Dt} (As rest : List Value) (K : CW own idx y bytes maxL ret n) (hM : MD l0 G A0 lv' y bytes maxL ret (.ref (sK G i) :: As) D r1 D1) (hlv : lv' + 1 ≤ lv) (hd : decode cc pc = .ok (.invokevirtual idx, 3)) (hi : i < 20) (hn : As.length = n) (hs : st = As.reverse ++ .ref (sK G i) :: rest) (hst : (rest.map fun v => v.category).sum ≤ 8)
    (kk : J X (Rep G D1) (pc + 3) L (r1.toList ++ rest)) : J X (Rep G D) pc L st := by
  obtain ⟨p, l, e, R, s, m, args, below, meth, c, A, nL, Q, cs, sl⟩ := X
  obtain ⟨hx, hb, hml, hown, hts, hlk, hK, hG, hR, hr, hQ, hl0, hA0, hn0, hSx⟩ := C
  intro H locs ls h1 h2 h3
  subst hl0; subst hA0; subst hn0; obtain ⟨hR1, hR2, hR3, hR4⟩ := hR
  obtain ⟨hlink, hin, hsel, hini, hcode, hyc, hd2, hmax⟩ := K
  have hpre : PreV s H "java/lang/String" (sK G i) (va_Pc (.ref (sK G i) :: As) (fun U => Rep G D U.heap ∧ Kx G U ∧ Sx G A U U.heap)) As := ⟨blindD, vk_recv hSx.1 hi h2, fun U hU hW => ⟨rfl, by rw [hU]; exact h1, hK.warm hW, by rw [hU]; exact hSx.warm hW h2⟩⟩
  have hroom : (rmL lv').frames + 1 ≤ R.frames ∧ 8 + (maxL + 11) + (rmL lv').locals ≤ R.locals := by simp only [rmL]; omega
  have S : CallFix p m c cc nL s args tg own := ⟨hx, hb, hml, hown, hts⟩
  subst hs
  exact run_W (va_runV S hM (cwV n hts (gi_ws hcode (by
      intro w hw
      simp only [List.mem_cons, List.not_mem_nil, or_false] at hw
      rcases hw with rfl | rfl | rfl | rfl
      · exact hlink
      · exact hin
      · exact hsel
      · exact hini)) rfl rfl rfl ⟨hyc, hd2⟩ hroom) hpre rfl hn h3.1 rfl (lv_room hst) hd ⟨hR3, hR4⟩) h2 (fun H1 locs1 hP hS => kk H1 locs1 ls hP hS h3)
end SR
theorem tm_cJ0_checkIndex_df160 : Cond.code yJ0_checkIndex_df160 cJ0_checkIndex_df160 2 none ∈ tg := tg_of (tbl_3 (List.mem_of_getElem? (i := 15) (by decide +kernel))) (by decide +kernel)
theorem tm_cJ0_coder_7d493 : Cond.code yJ0_coder_7d493 cJ0_coder_7d493 1 (some .byte) ∈ tg := tg_of (tbl_2 (List.mem_of_getElem? (i := 239) (by decide +kernel))) (by decide +kernel)
theorem tm_cJ0_indexOf_7cf53 : Cond.code yJ0_indexOf_7cf53 cJ0_indexOf_7cf53 3 (some .int) ∈ tg := tg_of (tbl_3 (List.mem_of_getElem? (i := 56) (by decide +kernel))) (by decide +kernel)
theorem tm_cJ0_isLatin1_aae02 : Cond.code yJ0_isLatin1_aae02 cJ0_isLatin1_aae02 1 (some .boolean) ∈ tg := tg_of (tbl_3 (List.mem_of_getElem? (i := 9) (by decide +kernel))) (by decide +kernel)
theorem tm_cJ0_length_8abf5 : Cond.code yJ0_length_8abf5 cJ0_length_8abf5 1 (some .int) ∈ tg := tg_of (tbl_2 (List.mem_of_getElem? (i := 235) (by decide +kernel))) (by decide +kernel)
theorem tm_cJ1_canEncode_9a6ad : Cond.code yJ1_canEncode_9a6ad cJ1_canEncode_9a6ad 1 (some .boolean) ∈ tg := tg_of (tbl_3 (List.mem_of_getElem? (i := 63) (by decide +kernel))) (by decide +kernel)
theorem tm_cJ1_charAt_3b067 : Cond.code yJ1_charAt_3b067 cJ1_charAt_3b067 2 (some .char) ∈ tg := tg_of (tbl_3 (List.mem_of_getElem? (i := 12) (by decide +kernel))) (by decide +kernel)
theorem tm_cJ1_indexOfChar_4cfef : Cond.code yJ1_indexOfChar_4cfef cJ1_indexOfChar_4cfef 6 (some .int) ∈ tg := tg_of (tbl_3 (List.mem_of_getElem? (i := 72) (by decide +kernel))) (by decide +kernel)
theorem tm_cJ1_indexOf_4cfef : Cond.code yJ1_indexOf_4cfef cJ1_indexOf_4cfef 4 (some .int) ∈ tg := tg_of (tbl_3 (List.mem_of_getElem? (i := 60) (by decide +kernel))) (by decide +kernel)
theorem tm_cJ3_checkIndex_8e157 : Cond.code yJ3_checkIndex_8e157 cJ3_checkIndex_8e157 3 (some .int) ∈ tg := tg_of (tbl_3 (List.mem_of_getElem? (i := 20) (by decide +kernel))) (by decide +kernel)
theorem tm_iJ0 : Cond.initialized RJ0 ∈ tg := tg_of (tbl_1 (List.mem_of_getElem? (i := 13) (by decide +kernel))) (by decide +kernel)
theorem tm_iJ1 : Cond.initialized RJ1 ∈ tg := tg_of (tbl_1 (List.mem_of_getElem? (i := 14) (by decide +kernel))) (by decide +kernel)
theorem tm_iJ3 : Cond.initialized RJ3 ∈ tg := tg_of (tbl_1 (List.mem_of_getElem? (i := 15) (by decide +kernel))) (by decide +kernel)
theorem tm_mJ0_coder_7d493 : Cond.instanceMethod yJ0_coder_7d493 ∈ tg := tg_of (tbl_2 (List.mem_of_getElem? (i := 237) (by decide +kernel))) (by decide +kernel)
theorem tm_mJ0_indexOf_7cf53 : Cond.instanceMethod yJ0_indexOf_7cf53 ∈ tg := tg_of (tbl_3 (List.mem_of_getElem? (i := 54) (by decide +kernel))) (by decide +kernel)
theorem tm_mJ0_isLatin1_aae02 : Cond.instanceMethod yJ0_isLatin1_aae02 ∈ tg := tg_of (tbl_3 (List.mem_of_getElem? (i := 7) (by decide +kernel))) (by decide +kernel)
theorem tm_mJ0_length_8abf5 : Cond.instanceMethod yJ0_length_8abf5 ∈ tg := tg_of (tbl_2 (List.mem_of_getElem? (i := 233) (by decide +kernel))) (by decide +kernel)
theorem tm_sJ0_coder_7d493 : Cond.selects RJ0 yJ0_coder_7d493 yJ0_coder_7d493 ∈ tg := tg_of (tbl_2 (List.mem_of_getElem? (i := 238) (by decide +kernel))) (by decide +kernel)
theorem tm_sJ0_indexOf_7cf53 : Cond.selects RJ0 yJ0_indexOf_7cf53 yJ0_indexOf_7cf53 ∈ tg := tg_of (tbl_3 (List.mem_of_getElem? (i := 55) (by decide +kernel))) (by decide +kernel)
theorem tm_sJ0_isLatin1_aae02 : Cond.selects RJ0 yJ0_isLatin1_aae02 yJ0_isLatin1_aae02 ∈ tg := tg_of (tbl_3 (List.mem_of_getElem? (i := 8) (by decide +kernel))) (by decide +kernel)
theorem tm_sJ0_length_8abf5 : Cond.selects RJ0 yJ0_length_8abf5 yJ0_length_8abf5 ∈ tg := tg_of (tbl_2 (List.mem_of_getElem? (i := 234) (by decide +kernel))) (by decide +kernel)
theorem tm_tJ0_checkIndex_df160 : Cond.static yJ0_checkIndex_df160 ∈ tg := tg_of (tbl_3 (List.mem_of_getElem? (i := 14) (by decide +kernel))) (by decide +kernel)
theorem tm_tJ1_canEncode_9a6ad : Cond.static yJ1_canEncode_9a6ad ∈ tg := tg_of (tbl_3 (List.mem_of_getElem? (i := 62) (by decide +kernel))) (by decide +kernel)
theorem tm_tJ1_charAt_3b067 : Cond.static yJ1_charAt_3b067 ∈ tg := tg_of (tbl_3 (List.mem_of_getElem? (i := 11) (by decide +kernel))) (by decide +kernel)
theorem tm_tJ1_indexOfChar_4cfef : Cond.static yJ1_indexOfChar_4cfef ∈ tg := tg_of (tbl_3 (List.mem_of_getElem? (i := 71) (by decide +kernel))) (by decide +kernel)
theorem tm_tJ1_indexOf_4cfef : Cond.static yJ1_indexOf_4cfef ∈ tg := tg_of (tbl_3 (List.mem_of_getElem? (i := 59) (by decide +kernel))) (by decide +kernel)
theorem tm_tJ3_checkIndex_8e157 : Cond.static yJ3_checkIndex_8e157 ∈ tg := tg_of (tbl_3 (List.mem_of_getElem? (i := 19) (by decide +kernel))) (by decide +kernel)
theorem cl_J0_1059 : CS RJ0 1059 yJ3_checkIndex_8e157 cJ3_checkIndex_8e157 3 (some .int) 3 := ⟨Or.inl (tg_of (tbl_3 (List.mem_of_getElem? (i := 18) (by decide +kernel))) (by decide +kernel)), tm_tJ3_checkIndex_8e157, tm_iJ3, tm_cJ3_checkIndex_8e157, ⟨by decide, by decide, by decide +kernel⟩, by decide⟩
theorem cl_J0_335 : CW RJ0 335 yJ0_coder_7d493 cJ0_coder_7d493 1 (some .byte) 0 := ⟨tg_of (tbl_2 (List.mem_of_getElem? (i := 236) (by decide +kernel))) (by decide +kernel), tm_mJ0_coder_7d493, tm_sJ0_coder_7d493, tm_iJ0, tm_cJ0_coder_7d493, rfl, ⟨by decide, by decide, by decide +kernel⟩, by decide⟩
theorem cl_J0_492 : CW RJ0 492 yJ0_isLatin1_aae02 cJ0_isLatin1_aae02 1 (some .boolean) 0 := ⟨tg_of (tbl_3 (List.mem_of_getElem? (i := 6) (by decide +kernel))) (by decide +kernel), tm_mJ0_isLatin1_aae02, tm_sJ0_isLatin1_aae02, tm_iJ0, tm_cJ0_isLatin1_aae02, rfl, ⟨by decide, by decide, by decide +kernel⟩, by decide⟩
theorem cl_J0_495 : CS RJ0 495 yJ1_charAt_3b067 cJ1_charAt_3b067 2 (some .char) 2 := ⟨Or.inl (tg_of (tbl_3 (List.mem_of_getElem? (i := 10) (by decide +kernel))) (by decide +kernel)), tm_tJ1_charAt_3b067, tm_iJ1, tm_cJ1_charAt_3b067, ⟨by decide, by decide, by decide +kernel⟩, by decide⟩
theorem cl_J0_505 : CW RJ0 505 yJ0_length_8abf5 cJ0_length_8abf5 1 (some .int) 0 := ⟨tg_of (tbl_3 (List.mem_of_getElem? (i := 57) (by decide +kernel))) (by decide +kernel), tm_mJ0_length_8abf5, tm_sJ0_length_8abf5, tm_iJ0, tm_cJ0_length_8abf5, rfl, ⟨by decide, by decide, by decide +kernel⟩, by decide⟩
theorem cl_J0_633 : CW RJ0 633 yJ0_indexOf_7cf53 cJ0_indexOf_7cf53 3 (some .int) 2 := ⟨tg_of (tbl_3 (List.mem_of_getElem? (i := 53) (by decide +kernel))) (by decide +kernel), tm_mJ0_indexOf_7cf53, tm_sJ0_indexOf_7cf53, tm_iJ0, tm_cJ0_indexOf_7cf53, rfl, ⟨by decide, by decide, by decide +kernel⟩, by decide⟩
theorem cl_J0_637 : CS RJ0 637 yJ1_indexOf_4cfef cJ1_indexOf_4cfef 4 (some .int) 4 := ⟨Or.inl (tg_of (tbl_3 (List.mem_of_getElem? (i := 58) (by decide +kernel))) (by decide +kernel)), tm_tJ1_indexOf_4cfef, tm_iJ1, tm_cJ1_indexOf_4cfef, ⟨by decide, by decide, by decide +kernel⟩, by decide⟩
theorem cl_J1_88 : CS RJ1 88 yJ1_canEncode_9a6ad cJ1_canEncode_9a6ad 1 (some .boolean) 1 := ⟨Or.inl (tg_of (tbl_3 (List.mem_of_getElem? (i := 61) (by decide +kernel))) (by decide +kernel)), tm_tJ1_canEncode_9a6ad, tm_iJ1, tm_cJ1_canEncode_9a6ad, ⟨by decide, by decide, by decide +kernel⟩, by decide⟩
theorem cl_J1_9 : CS RJ1 9 yJ0_checkIndex_df160 cJ0_checkIndex_df160 2 none 2 := ⟨Or.inl (tg_of (tbl_3 (List.mem_of_getElem? (i := 13) (by decide +kernel))) (by decide +kernel)), tm_tJ0_checkIndex_df160, tm_iJ0, tm_cJ0_checkIndex_df160, ⟨by decide, by decide, by decide +kernel⟩, by decide⟩
theorem cl_J1_95 : CS RJ1 95 yJ1_indexOfChar_4cfef cJ1_indexOfChar_4cfef 6 (some .int) 4 := ⟨Or.inl (tg_of (tbl_3 (List.mem_of_getElem? (i := 70) (by decide +kernel))) (by decide +kernel)), tm_tJ1_indexOfChar_4cfef, tm_iJ1, tm_cJ1_indexOfChar_4cfef, ⟨by decide, by decide, by decide +kernel⟩, by decide⟩
theorem fl_J0_1053 : Cond.fieldLink RJ0 1053 "jdk/internal/util/Preconditions" "SIOOBE_FORMATTER" "Ljava/util/function/BiFunction;" ∈ tg := tg_of (tbl_3 (List.mem_of_getElem? (i := 16) (by decide +kernel))) (by decide +kernel)
theorem fl_J0_15 : Cond.fieldLink RJ0 15 "java/lang/String" "coder" "B" ∈ tg := tg_of (tbl_8 (List.mem_of_getElem? (i := 21) (by decide +kernel))) (by decide +kernel)
theorem fl_J0_38 : Cond.fieldLink RJ0 38 "java/lang/String" "COMPACT_STRINGS" "Z" ∈ tg := tg_of (tbl_3 (List.mem_of_getElem? (i := 0) (by decide +kernel))) (by decide +kernel)
theorem fl_J0_9 : Cond.fieldLink RJ0 9 "java/lang/String" "value" "[B" ∈ tg := tg_of (tbl_8 (List.mem_of_getElem? (i := 20) (by decide +kernel))) (by decide +kernel)
theorem km_J1_38 : Cond.methodLink RJ1 38 Lib.Math.min.name ∈ tg := tg_of (tbl_3 (List.mem_of_getElem? (i := 67) (by decide +kernel))) (by decide +kernel)
theorem km_J1_92 : Cond.methodLink RJ1 92 Lib.Math.max.name ∈ tg := tg_of (tbl_3 (List.mem_of_getElem? (i := 64) (by decide +kernel))) (by decide +kernel)
def F_J0_coder_7d493 (i0 : Nat) (D : Dt) : Option (Int32 × Dt) := (grd (i0 < 20) (some ((0 : Int32), D)))
set_option maxRecDepth 100000 in
set_option maxHeartbeats 4000000 in
theorem M_J0_coder_7d493 {l : Launch} {G : Gt} {A : Nat → Prop} {lv : Nat} {i0 : Nat} {D : Dt} {r : Int32} {D' : Dt} (hG : Gok G A) (hlv : 1 ≤ lv)  (h : F_J0_coder_7d493 i0 D = some (r, D')) : MD l G A lv yJ0_coder_7d493 cJ0_coder_7d493 1 (some .byte) [.ref (sK G i0)] D (some (.int r)) D' := by
  unfold F_J0_coder_7d493 at h
  obtain ⟨hv0, h⟩ := grd_x h
  refine md_start RJ0 hG (by decide +kernel) rfl (Nat.le_of_ble_eq_true rfl) (L := [(0, .ref (sK G i0))]) rfl (fun X C => ?_)
  refine j_gsC C fl_J0_38 dJ0_coder_7d493_0 ?_
  refine j_if_eq C 13 dJ0_coder_7d493_3 (by decide) (fun hc => absurd hc (by decide)) (fun _ => ?_)
  refine j_aload_n C 0 dJ0_coder_7d493_6 rfl rfl ?_
  refine j_sgc C hv0 fl_J0_15 dJ0_coder_7d493_7 ?_
  refine j_goto C 14 dJ0_coder_7d493_10 (by decide) ?_
  obtain ⟨rfl, rfl⟩ := pr_x h
  exact j_nret C (by decide) dJ0_coder_7d493_14
def F_J0_length_8abf5 (i0 : Nat) (D : Dt) : Option (Int32 × Dt) := (grd (i0 < 20) (cbd (F_J0_coder_7d493 i0 D) (fun r2 D3 => (some (((sLen i0) >>> (r2 &&& 31)), D3)))))
set_option maxRecDepth 100000 in
set_option maxHeartbeats 4000000 in
theorem M_J0_length_8abf5 {l : Launch} {G : Gt} {A : Nat → Prop} {lv : Nat} {i0 : Nat} {D : Dt} {r : Int32} {D' : Dt} (hG : Gok G A) (hlv : 2 ≤ lv)  (h : F_J0_length_8abf5 i0 D = some (r, D')) : MD l G A lv yJ0_length_8abf5 cJ0_length_8abf5 1 (some .int) [.ref (sK G i0)] D (some (.int r)) D' := by
  unfold F_J0_length_8abf5 at h
  obtain ⟨hv0, h⟩ := grd_x h
  refine md_start RJ0 hG (by decide +kernel) rfl (Nat.le_of_ble_eq_true rfl) (L := [(0, .ref (sK G i0))]) rfl (fun X C => ?_)
  refine j_aload_n C 0 dJ0_length_8abf5_0 rfl rfl ?_
  refine j_sgv C hv0 fl_J0_9 dJ0_length_8abf5_1 ?_
  refine j_blen C hv0 dJ0_length_8abf5_4 ?_
  refine j_aload_n C 0 dJ0_length_8abf5_5 rfl rfl ?_
  obtain ⟨r2, D3, h1, h⟩ := cbd_x h
  refine j_callW C [] [.int (sLen i0)] cl_J0_335 (M_J0_coder_7d493 (lv := lv - 1) hG (by omega) h1) (by omega) dJ0_length_8abf5_6 hv0 rfl rfl (Nat.le_of_ble_eq_true rfl) ?_
  refine j_st (st' := [.int r2, .int (sLen i0)]) rfl ?_
  refine j_ishr C dJ0_length_8abf5_9 ?_
  obtain ⟨rfl, rfl⟩ := pr_x h
  exact j_iret C dJ0_length_8abf5_10
def F_J0_isLatin1_aae02 (i0 : Nat) (D : Dt) : Option (Int32 × Dt) := (grd (i0 < 20) (some ((1 : Int32), D)))
set_option maxRecDepth 100000 in
set_option maxHeartbeats 4000000 in
theorem M_J0_isLatin1_aae02 {l : Launch} {G : Gt} {A : Nat → Prop} {lv : Nat} {i0 : Nat} {D : Dt} {r : Int32} {D' : Dt} (hG : Gok G A) (hlv : 1 ≤ lv)  (h : F_J0_isLatin1_aae02 i0 D = some (r, D')) : MD l G A lv yJ0_isLatin1_aae02 cJ0_isLatin1_aae02 1 (some .boolean) [.ref (sK G i0)] D (some (.int r)) D' := by
  unfold F_J0_isLatin1_aae02 at h
  obtain ⟨hv0, h⟩ := grd_x h
  refine md_start RJ0 hG (by decide +kernel) rfl (Nat.le_of_ble_eq_true rfl) (L := [(0, .ref (sK G i0))]) rfl (fun X C => ?_)
  refine j_gsC C fl_J0_38 dJ0_isLatin1_aae02_0 ?_
  refine j_if_eq C 17 dJ0_isLatin1_aae02_3 (by decide) (fun hc => absurd hc (by decide)) (fun _ => ?_)
  refine j_aload_n C 0 dJ0_isLatin1_aae02_6 rfl rfl ?_
  refine j_sgc C hv0 fl_J0_15 dJ0_isLatin1_aae02_7 ?_
  refine j_if_ne C 17 dJ0_isLatin1_aae02_10 (by decide) (fun hc => absurd hc (by decide)) (fun _ => ?_)
  refine j_iconst C (1 : Int32) (by decide) dJ0_isLatin1_aae02_13 ?_
  refine j_goto C 18 dJ0_isLatin1_aae02_14 (by decide) ?_
  obtain ⟨rfl, rfl⟩ := pr_x h
  exact j_zret C (Or.inr rfl) dJ0_isLatin1_aae02_18
def F_J3_checkIndex_8e157 (a1 : Int32) (a2 : Int32) (D : Dt) : Option (Int32 × Dt) := (if a1 < 0 then none else (if a1 < a2 then (some (a1, D)) else none))
set_option maxRecDepth 100000 in
set_option maxHeartbeats 4000000 in
theorem M_J3_checkIndex_8e157 {l : Launch} {G : Gt} {A : Nat → Prop} {lv : Nat} {a1 : Int32} {a2 : Int32} {D : Dt} {r : Int32} {D' : Dt} (hG : Gok G A) (hlv : 1 ≤ lv)  (h : F_J3_checkIndex_8e157 a1 a2 D = some (r, D')) : MD l G A lv yJ3_checkIndex_8e157 cJ3_checkIndex_8e157 3 (some .int) [.int a1, .int a2, va_rf (fmG G)] D (some (.int r)) D' := by
  unfold F_J3_checkIndex_8e157 at h
  refine md_start RJ3 hG (by decide +kernel) rfl (lgQ _ _ _) (L := [(0, .int a1), (1, .int a2), (2, va_rf (fmG G))]) rfl (fun X C => ?_)
  refine j_iload_n C 0 dJ3_checkIndex_8e157_0 rfl rfl ?_
  refine j_if_lt C 9 dJ3_checkIndex_8e157_1 (by decide) (fun c1 => ?_) (fun c1 => ?_)
  · have h := ite_t c1 h
    exact nomatch h
  · have h := ite_f c1 h
    refine j_iload_n C 0 dJ3_checkIndex_8e157_4 rfl rfl ?_
    refine j_iload_n C 1 dJ3_checkIndex_8e157_5 rfl rfl ?_
    refine j_icmp_lt C 16 dJ3_checkIndex_8e157_6 (by decide) (fun c2 => ?_) (fun c2 => ?_)
    · have h := ite_t c2 h
      refine j_iload_n C 0 dJ3_checkIndex_8e157_16 rfl rfl ?_
      obtain ⟨rfl, rfl⟩ := pr_x h
      exact j_iret C dJ3_checkIndex_8e157_17
    · have h := ite_f c2 h
      exact nomatch h
def F_J0_checkIndex_df160 (a1 : Int32) (a2 : Int32) (D : Dt) : Option Dt := (cbd (F_J3_checkIndex_8e157 a1 a2 D) (fun r2 D3 => (some D3)))
set_option maxRecDepth 100000 in
set_option maxHeartbeats 4000000 in
theorem M_J0_checkIndex_df160 {l : Launch} {G : Gt} {A : Nat → Prop} {lv : Nat} {a1 : Int32} {a2 : Int32} {D : Dt} {D' : Dt} (hG : Gok G A) (hlv : 2 ≤ lv)  (h : F_J0_checkIndex_df160 a1 a2 D = some D') : MD l G A lv yJ0_checkIndex_df160 cJ0_checkIndex_df160 2 none [.int a1, .int a2] D none D' := by
  unfold F_J0_checkIndex_df160 at h
  refine md_start RJ0 hG (by decide +kernel) rfl (Nat.le_of_ble_eq_true rfl) (L := [(0, .int a1), (1, .int a2)]) rfl (fun X C => ?_)
  refine j_iload_n C 0 dJ0_checkIndex_df160_0 rfl rfl ?_
  refine j_iload_n C 1 dJ0_checkIndex_df160_1 rfl rfl ?_
  refine j_gsF C fl_J0_1053 dJ0_checkIndex_df160_2 ?_
  obtain ⟨r2, D3, h1, h⟩ := cbd_x h
  refine j_callS C [.int a1, .int a2, va_rf (fmG G)] [] cl_J0_1059 (M_J3_checkIndex_8e157 (lv := lv - 1) hG (by omega) h1) (by omega) dJ0_checkIndex_df160_5 rfl rfl (Nat.le_of_ble_eq_true rfl) ?_
  refine j_st (st' := [.int r2]) rfl ?_
  refine j_pop C rfl dJ0_checkIndex_df160_8 ?_
  obtain rfl := Option.some.inj h
  exact j_vret C dJ0_checkIndex_df160_9
def F_J1_charAt_3b067 (a1 : Nat) (a2 : Int32) (D : Dt) : Option (Int32 × Dt) := (grd (a1 < 20) (vbd (F_J0_checkIndex_df160 a2 (sLen a1) D) (fun D2 => (grd (inB a2 (lenS.getD a1 0) = true) (grd (narrow .char (.int ((((sChr a1 a2) &&& (255 : Int32)).toUInt32 % 65536).toInt32)) = .int ((((sChr a1 a2) &&& (255 : Int32)).toUInt32 % 65536).toInt32)) (some (((((sChr a1 a2) &&& (255 : Int32)).toUInt32 % 65536).toInt32), D2)))))))
set_option maxRecDepth 100000 in
set_option maxHeartbeats 4000000 in
theorem M_J1_charAt_3b067 {l : Launch} {G : Gt} {A : Nat → Prop} {lv : Nat} {a1 : Nat} {a2 : Int32} {D : Dt} {r : Int32} {D' : Dt} (hG : Gok G A) (hlv : 3 ≤ lv)  (h : F_J1_charAt_3b067 a1 a2 D = some (r, D')) : MD l G A lv yJ1_charAt_3b067 cJ1_charAt_3b067 2 (some .char) [.ref (sV G a1), .int a2] D (some (.int r)) D' := by
  unfold F_J1_charAt_3b067 at h
  obtain ⟨hv1, h⟩ := grd_x h
  refine md_start RJ1 hG (by decide +kernel) rfl (Nat.le_of_ble_eq_true rfl) (L := [(0, .ref (sV G a1)), (1, .int a2)]) rfl (fun X C => ?_)
  refine j_iload_n C 1 dJ1_charAt_3b067_0 rfl rfl ?_
  refine j_aload_n C 0 dJ1_charAt_3b067_1 rfl rfl ?_
  refine j_blen C hv1 dJ1_charAt_3b067_2 ?_
  obtain ⟨D2, h1, h⟩ := vbd_x h
  refine j_callS C [.int a2, .int (sLen a1)] [] cl_J1_9 (M_J0_checkIndex_df160 (lv := lv - 1) hG (by omega) h1) (by omega) dJ1_charAt_3b067_3 rfl rfl (Nat.le_of_ble_eq_true rfl) ?_
  refine j_st (st' := []) rfl ?_
  refine j_aload_n C 0 dJ1_charAt_3b067_6 rfl rfl ?_
  refine j_iload_n C 1 dJ1_charAt_3b067_7 rfl rfl ?_
  obtain ⟨g3, h⟩ := grd_x h
  refine j_bbald C hv1 dJ1_charAt_3b067_8 g3 ?_
  refine j_sipush C (255 : Int32) (by decide) dJ1_charAt_3b067_9 ?_
  refine j_iand C dJ1_charAt_3b067_12 ?_
  refine j_i2c C dJ1_charAt_3b067_13 ?_
  obtain ⟨g4, h⟩ := grd_x h
  obtain ⟨rfl, rfl⟩ := pr_x h
  exact j_nret C g4 dJ1_charAt_3b067_14
def F_J0_charAt_5068e (i0 : Nat) (a1 : Int32) (D : Dt) : Option (Int32 × Dt) := (grd (i0 < 20) (cbd (F_J0_isLatin1_aae02 i0 D) (fun r2 D3 => (if r2 = 0 then none else (cbd (F_J1_charAt_3b067 i0 a1 D3) (fun r6 D7 => (grd (narrow .char (.int r6) = .int r6) (some (r6, D7)))))))))
set_option maxRecDepth 100000 in
set_option maxHeartbeats 4000000 in
theorem M_J0_charAt_5068e {l : Launch} {G : Gt} {A : Nat → Prop} {lv : Nat} {i0 : Nat} {a1 : Int32} {D : Dt} {r : Int32} {D' : Dt} (hG : Gok G A) (hlv : 4 ≤ lv)  (h : F_J0_charAt_5068e i0 a1 D = some (r, D')) : MD l G A lv yJ0_charAt_5068e cJ0_charAt_5068e 2 (some .char) [.ref (sK G i0), .int a1] D (some (.int r)) D' := by
  unfold F_J0_charAt_5068e at h
  obtain ⟨hv0, h⟩ := grd_x h
  refine md_start RJ0 hG (by decide +kernel) rfl (Nat.le_of_ble_eq_true rfl) (L := [(0, .ref (sK G i0)), (1, .int a1)]) rfl (fun X C => ?_)
  refine j_aload_n C 0 dJ0_charAt_5068e_0 rfl rfl ?_
  obtain ⟨r2, D3, h1, h⟩ := cbd_x h
  refine j_callW C [] [] cl_J0_492 (M_J0_isLatin1_aae02 (lv := lv - 1) hG (by omega) h1) (by omega) dJ0_charAt_5068e_1 hv0 rfl rfl (Nat.le_of_ble_eq_true rfl) ?_
  refine j_st (st' := [.int r2]) rfl ?_
  refine j_if_eq C 16 dJ0_charAt_5068e_4 (by decide) (fun c4 => ?_) (fun c4 => ?_)
  · have h := ite_t c4 h
    exact nomatch h
  · have h := ite_f c4 h
    refine j_aload_n C 0 dJ0_charAt_5068e_7 rfl rfl ?_
    refine j_sgv C hv0 fl_J0_9 dJ0_charAt_5068e_8 ?_
    refine j_iload_n C 1 dJ0_charAt_5068e_11 rfl rfl ?_
    obtain ⟨r6, D7, h5, h⟩ := cbd_x h
    refine j_callS C [.ref (sV G i0), .int a1] [] cl_J0_495 (M_J1_charAt_3b067 (lv := lv - 1) hG (by omega) h5) (by omega) dJ0_charAt_5068e_12 rfl rfl (Nat.le_of_ble_eq_true rfl) ?_
    refine j_st (st' := [.int r6]) rfl ?_
    obtain ⟨g8, h⟩ := grd_x h
    obtain ⟨rfl, rfl⟩ := pr_x h
    exact j_nret C g8 dJ0_charAt_5068e_15
def F_J1_canEncode_9a6ad (a1 : Int32) (D : Dt) : Option (Int32 × Dt) := (if a1 < 0 then (some ((0 : Int32), D)) else (if (255 : Int32) < a1 then (some ((0 : Int32), D)) else (some ((1 : Int32), D))))
set_option maxRecDepth 100000 in
set_option maxHeartbeats 4000000 in
theorem M_J1_canEncode_9a6ad {l : Launch} {G : Gt} {A : Nat → Prop} {lv : Nat} {a1 : Int32} {D : Dt} {r : Int32} {D' : Dt} (hG : Gok G A) (hlv : 1 ≤ lv)  (h : F_J1_canEncode_9a6ad a1 D = some (r, D')) : MD l G A lv yJ1_canEncode_9a6ad cJ1_canEncode_9a6ad 1 (some .boolean) [.int a1] D (some (.int r)) D' := by
  unfold F_J1_canEncode_9a6ad at h
  refine md_start RJ1 hG (by decide +kernel) rfl (Nat.le_of_ble_eq_true rfl) (L := [(0, .int a1)]) rfl (fun X C => ?_)
  refine j_iload_n C 0 dJ1_canEncode_9a6ad_0 rfl rfl ?_
  refine j_if_lt C 15 dJ1_canEncode_9a6ad_1 (by decide) (fun c1 => ?_) (fun c1 => ?_)
  · have h := ite_t c1 h
    refine j_iconst C (0 : Int32) (by decide) dJ1_canEncode_9a6ad_15 ?_
    obtain ⟨rfl, rfl⟩ := pr_x h
    exact j_zret C (Or.inl rfl) dJ1_canEncode_9a6ad_16
  · have h := ite_f c1 h
    refine j_iload_n C 0 dJ1_canEncode_9a6ad_4 rfl rfl ?_
    refine j_sipush C (255 : Int32) (by decide) dJ1_canEncode_9a6ad_5 ?_
    refine j_icmp_gt C 15 dJ1_canEncode_9a6ad_8 (by decide) (fun c2 => ?_) (fun c2 => ?_)
    · have h := ite_t c2 h
      refine j_iconst C (0 : Int32) (by decide) dJ1_canEncode_9a6ad_15 ?_
      obtain ⟨rfl, rfl⟩ := pr_x h
      exact j_zret C (Or.inl rfl) dJ1_canEncode_9a6ad_16
    · have h := ite_f c2 h
      refine j_iconst C (1 : Int32) (by decide) dJ1_canEncode_9a6ad_11 ?_
      refine j_goto C 16 dJ1_canEncode_9a6ad_12 (by decide) ?_
      obtain ⟨rfl, rfl⟩ := pr_x h
      exact j_zret C (Or.inr rfl) dJ1_canEncode_9a6ad_16
def F_J1_indexOfChar_4cfef_b7 (a1 : Nat) (a2 : Int32) (a3 : Int32) (a4 : Int32)  : Nat → Int32 → Int32 → Int32 → Dt → Option (Int32 × Dt)
  | 0, _, _, _, _ => none
  | f + 1, l3, l4, l5, D => (if l3 ≤ l5 then (some ((-1 : Int32), D)) else (grd (inB l5 (lenS.getD a1 0) = true) (if (sChr a1 l5) = l4 then (some (l5, D)) else (bnd (l5 + (1 : Int32)) (fun v5 => (F_J1_indexOfChar_4cfef_b7 a1 a2 a3 a4 f l3 l4 v5 D))))))
set_option maxRecDepth 100000 in
set_option maxHeartbeats 4000000 in
theorem T_J1_indexOfChar_4cfef_b7 {r : Int32} {D' : Dt} {X : Ctx} {l : Launch} {G : Gt} {A : Nat → Prop} {lv : Nat} {a1 : Nat} {a2 : Int32} {a3 : Int32} {a4 : Int32}   (hG : Gok G A) (hlv : 1 ≤ lv) (hv1 : a1 < 20)  (C : Cx X cJ1_indexOfChar_4cfef RJ1 G l A lv 6 (some .int) (some (.int r)) D')  : ∀ (f : Nat) (l3 : Int32) (l4 : Int32) (l5 : Int32) (D : Dt), F_J1_indexOfChar_4cfef_b7 a1 a2 a3 a4 f l3 l4 l5 D = some (r, D') → J X (Rep G D) 7 [(0, .ref (sV G a1)), (3, .int l3), (4, .int l4), (5, .int l5)] [] := by
  intro f
  induction f with
  | zero =>
    intro l3 l4 l5 D h
    exact nomatch h
  | succ f ih =>
    intro l3 l4 l5 D h
    rw [F_J1_indexOfChar_4cfef_b7] at h
    refine j_iload C 3 dJ1_indexOfChar_4cfef_7 rfl ?_
    refine j_iload_n C 1 dJ1_indexOfChar_4cfef_9 rfl rfl ?_
    refine j_icmp_ge C 31 dJ1_indexOfChar_4cfef_10 (by decide) (fun c2 => ?_) (fun c2 => ?_)
    · have h := ite_t c2 h
      refine j_iconst C (-1 : Int32) (by decide) dJ1_indexOfChar_4cfef_31 ?_
      obtain ⟨rfl, rfl⟩ := pr_x h
      exact j_iret C dJ1_indexOfChar_4cfef_32
    · have h := ite_f c2 h
      refine j_aload_n C 0 dJ1_indexOfChar_4cfef_13 rfl rfl ?_
      refine j_iload C 3 dJ1_indexOfChar_4cfef_14 rfl ?_
      obtain ⟨g3, h⟩ := grd_x h
      refine j_bbald C hv1 dJ1_indexOfChar_4cfef_16 g3 ?_
      refine j_iload C 2 dJ1_indexOfChar_4cfef_17 rfl ?_
      refine j_icmp_ne C 25 dJ1_indexOfChar_4cfef_19 (by decide) (fun c4 => ?_) (fun c4 => ?_)
      · have h := ite_f c4 h
        obtain ⟨v5, ev5, h⟩ := bnd_x h
        refine j_iinc C 3 [(5, .int v5), (0, .ref (sV G a1)), (3, .int l3), (4, .int l4)] dJ1_indexOfChar_4cfef_25 rfl (Nat.le_of_ble_eq_true rfl) (ev5.trans (congrArg (l5 + ·) (by decide))) rfl ?_
        refine j_goto C 7 dJ1_indexOfChar_4cfef_28 (by decide) ?_
        refine j_sub [1, 2, 3, 0] [(0, .ref (sV G a1)), (3, .int l3), (4, .int l4), (5, .int v5)] rfl ?_
        exact ih l3 l4 v5 D h
      · have h := ite_t c4 h
        refine j_iload C 3 dJ1_indexOfChar_4cfef_22 rfl ?_
        obtain ⟨rfl, rfl⟩ := pr_x h
        exact j_iret C dJ1_indexOfChar_4cfef_24
def F_J1_indexOfChar_4cfef (a1 : Nat) (a2 : Int32) (a3 : Int32) (a4 : Int32) (D : Dt) : Option (Int32 × Dt) := (grd (a1 < 20) (bnd a2.toInt8.toInt32 (fun v1 => (F_J1_indexOfChar_4cfef_b7 a1 a2 a3 a4 1000 a4 v1 a3 D))))
set_option maxRecDepth 100000 in
set_option maxHeartbeats 4000000 in
theorem M_J1_indexOfChar_4cfef {l : Launch} {G : Gt} {A : Nat → Prop} {lv : Nat} {a1 : Nat} {a2 : Int32} {a3 : Int32} {a4 : Int32} {D : Dt} {r : Int32} {D' : Dt} (hG : Gok G A) (hlv : 1 ≤ lv)  (h : F_J1_indexOfChar_4cfef a1 a2 a3 a4 D = some (r, D')) : MD l G A lv yJ1_indexOfChar_4cfef cJ1_indexOfChar_4cfef 6 (some .int) [.ref (sV G a1), .int a2, .int a3, .int a4] D (some (.int r)) D' := by
  unfold F_J1_indexOfChar_4cfef at h
  obtain ⟨hv1, h⟩ := grd_x h
  refine md_start RJ1 hG (by decide +kernel) rfl (Nat.le_of_ble_eq_true rfl) (L := [(0, .ref (sV G a1)), (1, .int a2), (2, .int a3), (3, .int a4)]) rfl (fun X C => ?_)
  refine j_iload_n C 1 dJ1_indexOfChar_4cfef_0 rfl rfl ?_
  refine j_i2b C dJ1_indexOfChar_4cfef_1 ?_
  obtain ⟨v1, ev1, h⟩ := bnd_x h
  refine j_istore C [(4, .int v1), (0, .ref (sV G a1)), (1, .int a2), (2, .int a3), (3, .int a4)] dJ1_indexOfChar_4cfef_2 (Nat.le_of_ble_eq_true rfl) ev1 rfl ?_
  refine j_iload_n C 3 dJ1_indexOfChar_4cfef_4 rfl rfl ?_
  refine j_istore C [(5, .int a3), (4, .int v1), (0, .ref (sV G a1)), (1, .int a2), (2, .int a3), (3, .int a4)] dJ1_indexOfChar_4cfef_5 (Nat.le_of_ble_eq_true rfl) rfl rfl ?_
  refine j_sub [2, 5, 1, 0] [(0, .ref (sV G a1)), (3, .int a4), (4, .int v1), (5, .int a3)] rfl ?_
  refine T_J1_indexOfChar_4cfef_b7 hG hlv hv1 C  1000 a4 v1 a3 D h
def F_J1_indexOf_4cfef (a1 : Nat) (a2 : Int32) (a3 : Int32) (a4 : Int32) (D : Dt) : Option (Int32 × Dt) := (grd (a1 < 20) (cbd (F_J1_canEncode_9a6ad a2 D) (fun r2 D3 => (if r2 = 0 then (some ((-1 : Int32), D3)) else (bnd (if a3 < (0 : Int32) then (0 : Int32) else a3) (fun v5 => (bnd (if (sLen a1) < a4 then (sLen a1) else a4) (fun v6 => (if v5 < v6 then (cbd (F_J1_indexOfChar_4cfef a1 a2 v5 v6 D3) (fun r9 D10 => (some (r9, D10)))) else (some ((-1 : Int32), D3)))))))))))
set_option maxRecDepth 100000 in
set_option maxHeartbeats 4000000 in
theorem M_J1_indexOf_4cfef {l : Launch} {G : Gt} {A : Nat → Prop} {lv : Nat} {a1 : Nat} {a2 : Int32} {a3 : Int32} {a4 : Int32} {D : Dt} {r : Int32} {D' : Dt} (hG : Gok G A) (hlv : 2 ≤ lv)  (h : F_J1_indexOf_4cfef a1 a2 a3 a4 D = some (r, D')) : MD l G A lv yJ1_indexOf_4cfef cJ1_indexOf_4cfef 4 (some .int) [.ref (sV G a1), .int a2, .int a3, .int a4] D (some (.int r)) D' := by
  unfold F_J1_indexOf_4cfef at h
  obtain ⟨hv1, h⟩ := grd_x h
  refine md_start RJ1 hG (by decide +kernel) rfl (Nat.le_of_ble_eq_true rfl) (L := [(0, .ref (sV G a1)), (1, .int a2), (2, .int a3), (3, .int a4)]) rfl (fun X C => ?_)
  refine j_iload_n C 1 dJ1_indexOf_4cfef_0 rfl rfl ?_
  obtain ⟨r2, D3, h1, h⟩ := cbd_x h
  refine j_callS C [.int a2] [] cl_J1_88 (M_J1_canEncode_9a6ad (lv := lv - 1) hG (by omega) h1) (by omega) dJ1_indexOf_4cfef_1 rfl rfl (Nat.le_of_ble_eq_true rfl) ?_
  refine j_st (st' := [.int r2]) rfl ?_
  refine j_if_ne C 9 dJ1_indexOf_4cfef_4 (by decide) (fun c4 => ?_) (fun c4 => ?_)
  · have h := ite_f c4 h
    refine j_iload_n C 2 dJ1_indexOf_4cfef_9 rfl rfl ?_
    refine j_iconst C (0 : Int32) (by decide) dJ1_indexOf_4cfef_10 ?_
    refine j_max C km_J1_92 (by omega) (Nat.le_of_ble_eq_true rfl) dJ1_indexOf_4cfef_11 ?_
    obtain ⟨v5, ev5, h⟩ := bnd_x h
    refine j_istore_n C [(2, .int v5), (0, .ref (sV G a1)), (1, .int a2), (3, .int a4)] dJ1_indexOf_4cfef_14 rfl (Nat.le_of_ble_eq_true rfl) ev5 rfl ?_
    refine j_iload_n C 3 dJ1_indexOf_4cfef_15 rfl rfl ?_
    refine j_aload_n C 1 dJ1_indexOf_4cfef_16 rfl rfl ?_
    refine j_blen C hv1 dJ1_indexOf_4cfef_17 ?_
    refine j_min C km_J1_38 (by omega) (Nat.le_of_ble_eq_true rfl) dJ1_indexOf_4cfef_18 ?_
    obtain ⟨v6, ev6, h⟩ := bnd_x h
    refine j_istore_n C [(3, .int v6), (2, .int v5), (0, .ref (sV G a1)), (1, .int a2)] dJ1_indexOf_4cfef_21 rfl (Nat.le_of_ble_eq_true rfl) ev6 rfl ?_
    refine j_iload_n C 1 dJ1_indexOf_4cfef_22 rfl rfl ?_
    refine j_iload_n C 0 dJ1_indexOf_4cfef_23 rfl rfl ?_
    refine j_icmp_lt C 29 dJ1_indexOf_4cfef_24 (by decide) (fun c7 => ?_) (fun c7 => ?_)
    · have h := ite_t c7 h
      refine j_aload_n C 2 dJ1_indexOf_4cfef_29 rfl rfl ?_
      refine j_iload_n C 3 dJ1_indexOf_4cfef_30 rfl rfl ?_
      refine j_iload_n C 1 dJ1_indexOf_4cfef_31 rfl rfl ?_
      refine j_iload_n C 0 dJ1_indexOf_4cfef_32 rfl rfl ?_
      obtain ⟨r9, D10, h8, h⟩ := cbd_x h
      refine j_callS C [.ref (sV G a1), .int a2, .int v5, .int v6] [] cl_J1_95 (M_J1_indexOfChar_4cfef (lv := lv - 1) hG (by omega) h8) (by omega) dJ1_indexOf_4cfef_33 rfl rfl (Nat.le_of_ble_eq_true rfl) ?_
      refine j_st (st' := [.int r9]) rfl ?_
      obtain ⟨rfl, rfl⟩ := pr_x h
      exact j_iret C dJ1_indexOf_4cfef_36
    · have h := ite_f c7 h
      refine j_iconst C (-1 : Int32) (by decide) dJ1_indexOf_4cfef_27 ?_
      obtain ⟨rfl, rfl⟩ := pr_x h
      exact j_iret C dJ1_indexOf_4cfef_28
  · have h := ite_t c4 h
    refine j_iconst C (-1 : Int32) (by decide) dJ1_indexOf_4cfef_7 ?_
    obtain ⟨rfl, rfl⟩ := pr_x h
    exact j_iret C dJ1_indexOf_4cfef_8
def F_J0_indexOf_7cf53 (i0 : Nat) (a1 : Int32) (a2 : Int32) (D : Dt) : Option (Int32 × Dt) := (grd (i0 < 20) (cbd (F_J0_isLatin1_aae02 i0 D) (fun r2 D3 => (if r2 = 0 then none else (cbd (F_J0_length_8abf5 i0 D3) (fun r6 D7 => (cbd (F_J1_indexOf_4cfef i0 a1 a2 r6 D7) (fun r9 D10 => (some (r9, D10))))))))))
set_option maxRecDepth 100000 in
set_option maxHeartbeats 4000000 in
theorem M_J0_indexOf_7cf53 {l : Launch} {G : Gt} {A : Nat → Prop} {lv : Nat} {i0 : Nat} {a1 : Int32} {a2 : Int32} {D : Dt} {r : Int32} {D' : Dt} (hG : Gok G A) (hlv : 3 ≤ lv)  (h : F_J0_indexOf_7cf53 i0 a1 a2 D = some (r, D')) : MD l G A lv yJ0_indexOf_7cf53 cJ0_indexOf_7cf53 3 (some .int) [.ref (sK G i0), .int a1, .int a2] D (some (.int r)) D' := by
  unfold F_J0_indexOf_7cf53 at h
  obtain ⟨hv0, h⟩ := grd_x h
  refine md_start RJ0 hG (by decide +kernel) rfl (Nat.le_of_ble_eq_true rfl) (L := [(0, .ref (sK G i0)), (1, .int a1), (2, .int a2)]) rfl (fun X C => ?_)
  refine j_aload_n C 0 dJ0_indexOf_7cf53_0 rfl rfl ?_
  obtain ⟨r2, D3, h1, h⟩ := cbd_x h
  refine j_callW C [] [] cl_J0_492 (M_J0_isLatin1_aae02 (lv := lv - 1) hG (by omega) h1) (by omega) dJ0_indexOf_7cf53_1 hv0 rfl rfl (Nat.le_of_ble_eq_true rfl) ?_
  refine j_st (st' := [.int r2]) rfl ?_
  refine j_if_eq C 23 dJ0_indexOf_7cf53_4 (by decide) (fun c4 => ?_) (fun c4 => ?_)
  · have h := ite_t c4 h
    exact nomatch h
  · have h := ite_f c4 h
    refine j_aload_n C 0 dJ0_indexOf_7cf53_7 rfl rfl ?_
    refine j_sgv C hv0 fl_J0_9 dJ0_indexOf_7cf53_8 ?_
    refine j_iload_n C 1 dJ0_indexOf_7cf53_11 rfl rfl ?_
    refine j_iload_n C 2 dJ0_indexOf_7cf53_12 rfl rfl ?_
    refine j_aload_n C 0 dJ0_indexOf_7cf53_13 rfl rfl ?_
    obtain ⟨r6, D7, h5, h⟩ := cbd_x h
    refine j_callW C [] [.int a2, .int a1, .ref (sV G i0)] cl_J0_505 (M_J0_length_8abf5 (lv := lv - 1) hG (by omega) h5) (by omega) dJ0_indexOf_7cf53_14 hv0 rfl rfl (Nat.le_of_ble_eq_true rfl) ?_
    refine j_st (st' := [.int r6, .int a2, .int a1, .ref (sV G i0)]) rfl ?_
    obtain ⟨r9, D10, h8, h⟩ := cbd_x h
    refine j_callS C [.ref (sV G i0), .int a1, .int a2, .int r6] [] cl_J0_637 (M_J1_indexOf_4cfef (lv := lv - 1) hG (by omega) h8) (by omega) dJ0_indexOf_7cf53_17 rfl rfl (Nat.le_of_ble_eq_true rfl) ?_
    refine j_st (st' := [.int r9]) rfl ?_
    refine j_goto C 36 dJ0_indexOf_7cf53_20 (by decide) ?_
    obtain ⟨rfl, rfl⟩ := pr_x h
    exact j_iret C dJ0_indexOf_7cf53_36
def F_J0_indexOf_0f7a4 (i0 : Nat) (a1 : Int32) (D : Dt) : Option (Int32 × Dt) := (grd (i0 < 20) (cbd (F_J0_indexOf_7cf53 i0 a1 (0 : Int32) D) (fun r2 D3 => (some (r2, D3)))))
set_option maxRecDepth 100000 in
set_option maxHeartbeats 4000000 in
theorem M_J0_indexOf_0f7a4 {l : Launch} {G : Gt} {A : Nat → Prop} {lv : Nat} {i0 : Nat} {a1 : Int32} {D : Dt} {r : Int32} {D' : Dt} (hG : Gok G A) (hlv : 4 ≤ lv)  (h : F_J0_indexOf_0f7a4 i0 a1 D = some (r, D')) : MD l G A lv yJ0_indexOf_0f7a4 cJ0_indexOf_0f7a4 2 (some .int) [.ref (sK G i0), .int a1] D (some (.int r)) D' := by
  unfold F_J0_indexOf_0f7a4 at h
  obtain ⟨hv0, h⟩ := grd_x h
  refine md_start RJ0 hG (by decide +kernel) rfl (Nat.le_of_ble_eq_true rfl) (L := [(0, .ref (sK G i0)), (1, .int a1)]) rfl (fun X C => ?_)
  refine j_aload_n C 0 dJ0_indexOf_0f7a4_0 rfl rfl ?_
  refine j_iload_n C 1 dJ0_indexOf_0f7a4_1 rfl rfl ?_
  refine j_iconst C (0 : Int32) (by decide) dJ0_indexOf_0f7a4_2 ?_
  obtain ⟨r2, D3, h1, h⟩ := cbd_x h
  refine j_callW C [.int a1, .int (0 : Int32)] [] cl_J0_633 (M_J0_indexOf_7cf53 (lv := lv - 1) hG (by omega) h1) (by omega) dJ0_indexOf_0f7a4_3 hv0 rfl rfl (Nat.le_of_ble_eq_true rfl) ?_
  refine j_st (st' := [.int r2]) rfl ?_
  obtain ⟨rfl, rfl⟩ := pr_x h
  exact j_iret C dJ0_indexOf_0f7a4_6
/-! ===== what the Strings answer ===== -/
theorem sS_all : ∀ i, i < 20 → (lenS.getD i 0 = (bytS.getD i []).length ∧ (bytS.getD i []).length < 1000 ∧ ∀ b ∈ bytS.getD i [], 0 ≤ b ∧ b < 128) := by decide +kernel
theorem p_slen {i : Nat} {D : Dt} (hi : i < 20) : F_J0_length_8abf5 i D = some (sLen i, D) := by
  unfold F_J0_length_8abf5 F_J0_coder_7d493
  rw [grd_t hi, grd_t hi, cbd_s]
  have h : ∀ j, j < 20 → (sLen j) >>> ((0 : Int32) &&& 31) = sLen j := by decide +kernel
  rw [h i hi]
theorem inB_iff {i : Int32} {n : Nat} : inB i n = true ↔ 0 ≤ i.toInt ∧ i.toInt < n := by
  simp only [inB, Bool.and_eq_true, decide_eq_true_eq]
theorem sS_chr : ∀ i, i < 20 → ∀ k, k < 100 → (let b := (bytS.getD i []).getD k 0; ((b &&& 255).toUInt32 % 65536).toInt32 = b ∧ narrow .char (.int b) = .int b) := by decide +kernel
theorem sS_len : ∀ i, i < 20 → lenS.getD i 0 < 100 := by decide +kernel
theorem p_scha {i : Nat} {k : Int32} {D : Dt} (hi : i < 20) (hk : inB k (lenS.getD i 0) = true) : F_J0_charAt_5068e i k D = some (sChr i k, D) := by
  have hk2 := inB_iff.mp hk
  have hl := sS_len i hi
  have hlen : (sLen i).toInt = (lenS.getD i 0 : Int) := nI_toInt (n := lenS.getD i 0) (by omega)
  have h0 : ¬ k < 0 := by
    rw [Int32.lt_iff_toInt_lt]
    show ¬ k.toInt < 0
    omega
  have h1 : k < sLen i := by
    rw [Int32.lt_iff_toInt_lt, hlen]
    exact hk2.2
  have hkn : k.toNatClampNeg < 100 := by have := inB_lt hk; omega
  obtain ⟨e1, e2⟩ := sS_chr i hi k.toNatClampNeg hkn
  unfold F_J0_charAt_5068e F_J0_isLatin1_aae02 F_J1_charAt_3b067 F_J0_checkIndex_df160 F_J3_checkIndex_8e157
  rw [grd_t hi, grd_t hi, cbd_s, if_neg (by decide), grd_t hi, if_neg h0, if_pos h1, cbd_s, vbd_s, grd_t hk]
  have e3 : (((sChr i k &&& 255).toUInt32 % 65536).toInt32) = sChr i k := e1
  have e4 : narrow .char (.int (sChr i k)) = .int (sChr i k) := e2
  rw [e3, grd_t e4, cbd_s, grd_t e4]
theorem p_sixL {i : Nat} (hi : i < 20) {c : Int32} {a2 a3 a4 : Int32} {D : Dt} : ∀ (l : List Int32) (k f : Nat), (bytS.getD i []).drop k = l → k ≤ lenS.getD i 0 → l.length < f → F_J1_indexOfChar_4cfef_b7 i a2 a3 a4 f (sLen i) c (nI k) D = some (sIxF c l k, D) := by
  obtain ⟨hlen, hl2, -⟩ := sS_all i hi
  intro l
  induction l with
  | nil =>
    intro k f hd hk hf
    have hk2 : lenS.getD i 0 ≤ k := by
      have := congrArg List.length hd
      rw [List.length_drop, List.length_nil] at this
      omega
    obtain ⟨f, rfl⟩ : ∃ g, f = g + 1 := ⟨f - 1, by omega⟩
    rw [F_J1_indexOfChar_4cfef_b7, if_pos]
    · rfl
    · show nI (lenS.getD i 0) ≤ nI k
      exact nI_le hk2 (by omega)
  | cons b l ih =>
    intro k f hd hk hf
    obtain ⟨f, rfl⟩ : ∃ g, f = g + 1 := ⟨f - 1, by simp at hf; omega⟩
    have hk2 : k < lenS.getD i 0 := by
      have := congrArg List.length hd
      rw [List.length_drop, List.length_cons] at this
      omega
    have hb : (bytS.getD i []).getD k 0 = b := by
      have h1 : ((bytS.getD i []).drop k)[0]? = some b := by rw [hd]; rfl
      rw [List.getElem?_drop, Nat.add_zero] at h1
      rw [List.getD, h1]
      rfl
    have hdr : (bytS.getD i []).drop (k + 1) = l := by
      rw [← List.drop_drop, hd]
      rfl
    have hin : inB (nI k) (lenS.getD i 0) = true := inB_iff.mpr (by rw [nI_toInt (by omega)]; omega)
    have hc : sChr i (nI k) = b := by
      unfold sChr
      rw [nI_clamp (by omega)]
      exact hb
    rw [F_J1_indexOfChar_4cfef_b7, if_neg, grd_t hin, hc]
    · unfold sIxF
      by_cases hbc : b = c
      · rw [if_pos hbc, if_pos hbc]
      · rw [if_neg hbc, if_neg hbc]
        unfold bnd
        rw [nI_1]
        exact ih (k + 1) f hdr hk2 (by simp at hf; omega)
    · show ¬ nI (lenS.getD i 0) ≤ nI k
      exact nI_ge hk2 (by omega)
theorem p_sidx {i : Nat} {c : Int32} {D : Dt} (hi : i < 20) (hc : inB c 256 = true) : F_J0_indexOf_0f7a4 i c D = some (sIdx i c, D) := by
  obtain ⟨hlen, hl2, -⟩ := sS_all i hi
  have hc2 := inB_iff.mp hc
  have hpos : ∀ j, j < 20 → (0 : Int32) < sLen j := by decide +kernel
  have h0 : ¬ c < 0 := by
    rw [Int32.lt_iff_toInt_lt]
    show ¬ c.toInt < 0
    omega
  have h1 : ¬ (255 : Int32) < c := by
    rw [Int32.lt_iff_toInt_lt]
    show ¬ 255 < c.toInt
    omega
  unfold F_J0_indexOf_0f7a4 F_J0_indexOf_7cf53 F_J0_isLatin1_aae02 F_J1_indexOf_4cfef F_J1_canEncode_9a6ad
  rw [grd_t hi, grd_t hi, grd_t hi, cbd_s, if_neg (by decide), p_slen hi, cbd_s, grd_t hi, if_neg h0, if_neg h1, cbd_s, if_neg (by decide)]
  have hz : (if (0 : Int32) < 0 then (0 : Int32) else 0) = 0 := by decide
  have hl : (if sLen i < sLen i then sLen i else sLen i) = sLen i := by simp
  simp only [bnd]
  rw [hz, hl, if_pos (hpos i hi)]
  unfold F_J1_indexOfChar_4cfef bnd
  rw [grd_t hi]
  have h := p_sixL hi (c := c.toInt8.toInt32) (a2 := c) (a3 := 0) (a4 := sLen i) (D := D) (bytS.getD i []) 0 1000 rfl (Nat.zero_le _) hl2
  rw [nI_0] at h
  simp only []
  rw [h, cbd_s, cbd_s, cbd_s]
  rfl
section SR2
variable {X : Ctx} {cc : ByteArray} {own : String} {G : Gt} {l0 : Launch} {A0 : Nat → Prop} {lv n0 : Nat} {rt : Option FieldType} {r : Option Value} {D' : Dt} {pc : Nat} {L : List (Nat × Value)} {st : List Value} {D : Dt} {i idx : Nat}
theorem j_slen (C : Cx X cc own G l0 A0 lv n0 rt r D') (hi : i < 20) (hw : CW own idx yJ0_length_8abf5 cJ0_length_8abf5 1 (some .int) 0) (hlv : 8 ≤ lv) (hst : (st.map fun v => v.category).sum ≤ 8) (hd : decode cc pc = .ok (.invokevirtual idx, 3)) (kk : J X (Rep G D) (pc + 3) L (.int (sLen i) :: st)) : J X (Rep G D) pc L (.ref (sK G i) :: st) := by
  have hG : Gok G A0 := by
    obtain ⟨p, l, e, R, s, m, args, below, meth, c, A, nL, Q, cs, sl⟩ := X
    obtain ⟨hx, hb, hml, hown, hts, hlk, hK, hG, hR, hr, hQ, hl0, hA0, hn0, hSx⟩ := C
    subst hA0
    exact hG
  exact j_callW C [] st hw (M_J0_length_8abf5 (lv := lv - 1) hG (by omega) (p_slen hi)) (by omega) hd hi rfl rfl hst kk
theorem j_scha (C : Cx X cc own G l0 A0 lv n0 rt r D') {k : Int32} (hi : i < 20) (hw : CW own idx yJ0_charAt_5068e cJ0_charAt_5068e 2 (some .char) 1) (hlv : 8 ≤ lv) (hst : (st.map fun v => v.category).sum ≤ 8) (hk : inB k (lenS.getD i 0) = true) (hd : decode cc pc = .ok (.invokevirtual idx, 3)) (kk : J X (Rep G D) (pc + 3) L (.int (sChr i k) :: st)) : J X (Rep G D) pc L (.int k :: .ref (sK G i) :: st) := by
  have hG : Gok G A0 := by
    obtain ⟨p, l, e, R, s, m, args, below, meth, c, A, nL, Q, cs, sl⟩ := X
    obtain ⟨hx, hb, hml, hown, hts, hlk, hK, hG, hR, hr, hQ, hl0, hA0, hn0, hSx⟩ := C
    subst hA0
    exact hG
  exact j_callW C [.int k] st hw (M_J0_charAt_5068e (lv := lv - 1) hG (by omega) (p_scha hi hk)) (by omega) hd hi rfl rfl hst kk
theorem j_sidx (C : Cx X cc own G l0 A0 lv n0 rt r D') {c : Int32} (hi : i < 20) (hw : CW own idx yJ0_indexOf_0f7a4 cJ0_indexOf_0f7a4 2 (some .int) 1) (hlv : 8 ≤ lv) (hst : (st.map fun v => v.category).sum ≤ 8) (hc : inB c 256 = true) (hd : decode cc pc = .ok (.invokevirtual idx, 3)) (kk : J X (Rep G D) (pc + 3) L (.int (sIdx i c) :: st)) : J X (Rep G D) pc L (.int c :: .ref (sK G i) :: st) := by
  have hG : Gok G A0 := by
    obtain ⟨p, l, e, R, s, m, args, below, meth, c, A, nL, Q, cs, sl⟩ := X
    obtain ⟨hx, hb, hml, hown, hts, hlk, hK, hG, hR, hr, hQ, hl0, hA0, hn0, hSx⟩ := C
    subst hA0
    exact hG
  exact j_callW C [.int c] st hw (M_J0_indexOf_0f7a4 (lv := lv - 1) hG (by omega) (p_sidx hi hc)) (by omega) hd hi rfl rfl hst kk
end SR2
theorem cw_X11_179 : CW RX11 179 yJ0_length_8abf5 cJ0_length_8abf5 1 (some .int) 0 := ⟨tg_of (tbl_6 (List.mem_of_getElem? (i := 114) (by decide +kernel))) (by decide +kernel), tg_of (tbl_2 (List.mem_of_getElem? (i := 233) (by decide +kernel))) (by decide +kernel), tg_of (tbl_2 (List.mem_of_getElem? (i := 234) (by decide +kernel))) (by decide +kernel), tg_of (tbl_1 (List.mem_of_getElem? (i := 13) (by decide +kernel))) (by decide +kernel), tg_of (tbl_2 (List.mem_of_getElem? (i := 235) (by decide +kernel))) (by decide +kernel), rfl, ⟨by decide, by decide, by decide +kernel⟩, by decide⟩
theorem cw_X11_184 : CW RX11 184 yJ0_charAt_5068e cJ0_charAt_5068e 2 (some .char) 1 := ⟨tg_of (tbl_6 (List.mem_of_getElem? (i := 115) (by decide +kernel))) (by decide +kernel), tg_of (tbl_3 (List.mem_of_getElem? (i := 3) (by decide +kernel))) (by decide +kernel), tg_of (tbl_3 (List.mem_of_getElem? (i := 4) (by decide +kernel))) (by decide +kernel), tg_of (tbl_1 (List.mem_of_getElem? (i := 13) (by decide +kernel))) (by decide +kernel), tg_of (tbl_3 (List.mem_of_getElem? (i := 5) (by decide +kernel))) (by decide +kernel), rfl, ⟨by decide, by decide, by decide +kernel⟩, by decide⟩
theorem cw_X2_68 : CW RX2 68 yJ0_indexOf_0f7a4 cJ0_indexOf_0f7a4 2 (some .int) 1 := ⟨tg_of (tbl_3 (List.mem_of_getElem? (i := 49) (by decide +kernel))) (by decide +kernel), tg_of (tbl_3 (List.mem_of_getElem? (i := 50) (by decide +kernel))) (by decide +kernel), tg_of (tbl_3 (List.mem_of_getElem? (i := 51) (by decide +kernel))) (by decide +kernel), tg_of (tbl_1 (List.mem_of_getElem? (i := 13) (by decide +kernel))) (by decide +kernel), tg_of (tbl_3 (List.mem_of_getElem? (i := 52) (by decide +kernel))) (by decide +kernel), rfl, ⟨by decide, by decide, by decide +kernel⟩, by decide⟩
theorem cw_X2_75 : CW RX2 75 yJ0_length_8abf5 cJ0_length_8abf5 1 (some .int) 0 := ⟨tg_of (tbl_2 (List.mem_of_getElem? (i := 232) (by decide +kernel))) (by decide +kernel), tg_of (tbl_2 (List.mem_of_getElem? (i := 233) (by decide +kernel))) (by decide +kernel), tg_of (tbl_2 (List.mem_of_getElem? (i := 234) (by decide +kernel))) (by decide +kernel), tg_of (tbl_1 (List.mem_of_getElem? (i := 13) (by decide +kernel))) (by decide +kernel), tg_of (tbl_2 (List.mem_of_getElem? (i := 235) (by decide +kernel))) (by decide +kernel), rfl, ⟨by decide, by decide, by decide +kernel⟩, by decide⟩
theorem cw_X2_78 : CW RX2 78 yJ0_charAt_5068e cJ0_charAt_5068e 2 (some .char) 1 := ⟨tg_of (tbl_3 (List.mem_of_getElem? (i := 2) (by decide +kernel))) (by decide +kernel), tg_of (tbl_3 (List.mem_of_getElem? (i := 3) (by decide +kernel))) (by decide +kernel), tg_of (tbl_3 (List.mem_of_getElem? (i := 4) (by decide +kernel))) (by decide +kernel), tg_of (tbl_1 (List.mem_of_getElem? (i := 13) (by decide +kernel))) (by decide +kernel), tg_of (tbl_3 (List.mem_of_getElem? (i := 5) (by decide +kernel))) (by decide +kernel), rfl, ⟨by decide, by decide, by decide +kernel⟩, by decide⟩
