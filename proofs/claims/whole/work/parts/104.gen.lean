def F_X10_land (a1 : Int32) (a2 : Int32) (D : Dt) : Option (Int32 × Dt) := (cbd (F_X10_isLand a1 D) (fun r2 D3 => (if r2 = 0 then (some ((-2 : Int32), D3)) else (if a2 = (0 : Int32) then (grd (inB a1 5 = true) (some ((D3.1 (6, 0, 1, 0) (a1.toNatClampNeg)), D3))) else if a2 = (1 : Int32) then (grd (inB a1 5 = true) (some ((D3.1 (6, 0, 2, 0) (a1.toNatClampNeg)), D3))) else if a2 = (2 : Int32) then (grd (inB a1 5 = true) (some ((D3.1 (6, 0, 3, 0) (a1.toNatClampNeg)), D3))) else if a2 = (3 : Int32) then (grd (inB a1 5 = true) (some ((D3.1 (6, 0, 4, 0) (a1.toNatClampNeg)), D3))) else if a2 = (4 : Int32) then (cbd (F_X6_sellers 0 a1 D3) (fun r15 D16 => (some (r15, D16)))) else if a2 = (5 : Int32) then (grd (inB a1 5 = true) (some ((D3.1 (6, 0, 5, 0) (a1.toNatClampNeg)), D3))) else (some ((-2 : Int32), D3))))))
set_option maxRecDepth 100000 in
set_option maxHeartbeats 4000000 in
theorem M_X10_land {l : Launch} {G : Gt} {A : Nat → Prop} {lv : Nat} {a1 : Int32} {a2 : Int32} {D : Dt} {r : Int32} {D' : Dt} (hG : Gok G A) (hlv : 3 ≤ lv)  (h : F_X10_land a1 a2 D = some (r, D')) : MD l G A lv yX10_land cX10_land 3 (some .int) [.ref (ad G (10, 0, 0, 0)), .int a1, .int a2] D (some (.int r)) D' := by
  unfold F_X10_land at h
  refine md_start RX10 hG (by decide +kernel) rfl (Nat.le_of_ble_eq_true rfl) (L := [(0, .ref (ad G (10, 0, 0, 0))), (1, .int a1), (2, .int a2)]) rfl (fun X C => ?_)
  refine j_aload_n C 0 dX10_land_0 rfl rfl ?_
  refine j_iload_n C 1 dX10_land_1 rfl rfl ?_
  obtain ⟨r2, D3, h1, h⟩ := cbd_x h
  refine j_callV C [.int a1] [] cl_X10_118 (M_X10_isLand (lv := lv - 1) hG (by omega) h1) (by omega) dX10_land_2 (by decide) ⟨rfl, rfl⟩ rfl rfl (Nat.le_of_ble_eq_true rfl) ?_
  refine j_st (st' := [.int r2]) rfl ?_
  refine j_if_ne C 11 dX10_land_5 (by decide) (fun c4 => ?_) (fun c4 => ?_)
  · have h := ite_f c4 h
    refine j_iload_n C 2 dX10_land_11 rfl rfl ?_
    by_cases c5 : a2 = (0 : Int32)
    · have h := ite_t c5 h
      refine j_tabIn C (off := 40) (0 : Int32) 52 dX10_land_12 c5 ⟨by decide, by decide⟩ (by decide +kernel) (by decide) ?_
      refine j_aload_n C 0 dX10_land_52 rfl rfl ?_
      refine j_getS C (9, 0, 0, 0) fl_X10_49 dX10_land_53 (by decide) ⟨rfl, rfl⟩ rfl rfl ?_
      refine j_getS C (6, 0, 0, 0) fl_X10_122 dX10_land_56 (by decide) ⟨rfl, rfl⟩ rfl rfl ?_
      refine j_getS C (6, 0, 1, 0) fl_X10_126 dX10_land_59 (by decide) ⟨rfl, rfl⟩ rfl rfl ?_
      refine j_iload_n C 1 dX10_land_62 rfl rfl ?_
      obtain ⟨g6, h⟩ := grd_x h
      refine j_ialdK C 5 (a1.toNatClampNeg) dX10_land_63 (V_f 0 (by decide) (by decide)) rfl g6 rfl ?_
      obtain ⟨rfl, rfl⟩ := pr_x h
      exact j_iret C dX10_land_64
    have h := ite_f c5 h
    by_cases c7 : a2 = (1 : Int32)
    · have h := ite_t c7 h
      refine j_tabIn C (off := 53) (1 : Int32) 65 dX10_land_12 c7 ⟨by decide, by decide⟩ (by decide +kernel) (by decide) ?_
      refine j_aload_n C 0 dX10_land_65 rfl rfl ?_
      refine j_getS C (9, 0, 0, 0) fl_X10_49 dX10_land_66 (by decide) ⟨rfl, rfl⟩ rfl rfl ?_
      refine j_getS C (6, 0, 0, 0) fl_X10_122 dX10_land_69 (by decide) ⟨rfl, rfl⟩ rfl rfl ?_
      refine j_getS C (6, 0, 2, 0) fl_X10_132 dX10_land_72 (by decide) ⟨rfl, rfl⟩ rfl rfl ?_
      refine j_iload_n C 1 dX10_land_75 rfl rfl ?_
      obtain ⟨g8, h⟩ := grd_x h
      refine j_ialdK C 5 (a1.toNatClampNeg) dX10_land_76 (V_f 1 (by decide) (by decide)) rfl g8 rfl ?_
      obtain ⟨rfl, rfl⟩ := pr_x h
      exact j_iret C dX10_land_77
    have h := ite_f c7 h
    by_cases c9 : a2 = (2 : Int32)
    · have h := ite_t c9 h
      refine j_tabIn C (off := 66) (2 : Int32) 78 dX10_land_12 c9 ⟨by decide, by decide⟩ (by decide +kernel) (by decide) ?_
      refine j_aload_n C 0 dX10_land_78 rfl rfl ?_
      refine j_getS C (9, 0, 0, 0) fl_X10_49 dX10_land_79 (by decide) ⟨rfl, rfl⟩ rfl rfl ?_
      refine j_getS C (6, 0, 0, 0) fl_X10_122 dX10_land_82 (by decide) ⟨rfl, rfl⟩ rfl rfl ?_
      refine j_getS C (6, 0, 3, 0) fl_X10_135 dX10_land_85 (by decide) ⟨rfl, rfl⟩ rfl rfl ?_
      refine j_iload_n C 1 dX10_land_88 rfl rfl ?_
      obtain ⟨g10, h⟩ := grd_x h
      refine j_ialdK C 5 (a1.toNatClampNeg) dX10_land_89 (V_f 2 (by decide) (by decide)) rfl g10 rfl ?_
      obtain ⟨rfl, rfl⟩ := pr_x h
      exact j_iret C dX10_land_90
    have h := ite_f c9 h
    by_cases c11 : a2 = (3 : Int32)
    · have h := ite_t c11 h
      refine j_tabIn C (off := 79) (3 : Int32) 91 dX10_land_12 c11 ⟨by decide, by decide⟩ (by decide +kernel) (by decide) ?_
      refine j_aload_n C 0 dX10_land_91 rfl rfl ?_
      refine j_getS C (9, 0, 0, 0) fl_X10_49 dX10_land_92 (by decide) ⟨rfl, rfl⟩ rfl rfl ?_
      refine j_getS C (6, 0, 0, 0) fl_X10_122 dX10_land_95 (by decide) ⟨rfl, rfl⟩ rfl rfl ?_
      refine j_getS C (6, 0, 4, 0) fl_X10_138 dX10_land_98 (by decide) ⟨rfl, rfl⟩ rfl rfl ?_
      refine j_iload_n C 1 dX10_land_101 rfl rfl ?_
      obtain ⟨g12, h⟩ := grd_x h
      refine j_ialdK C 5 (a1.toNatClampNeg) dX10_land_102 (V_f 3 (by decide) (by decide)) rfl g12 rfl ?_
      obtain ⟨rfl, rfl⟩ := pr_x h
      exact j_iret C dX10_land_103
    have h := ite_f c11 h
    by_cases c13 : a2 = (4 : Int32)
    · have h := ite_t c13 h
      refine j_tabIn C (off := 92) (4 : Int32) 104 dX10_land_12 c13 ⟨by decide, by decide⟩ (by decide +kernel) (by decide) ?_
      refine j_aload_n C 0 dX10_land_104 rfl rfl ?_
      refine j_getS C (9, 0, 0, 0) fl_X10_49 dX10_land_105 (by decide) ⟨rfl, rfl⟩ rfl rfl ?_
      refine j_getS C (6, 0, 0, 0) fl_X10_122 dX10_land_108 (by decide) ⟨rfl, rfl⟩ rfl rfl ?_
      refine j_iload_n C 1 dX10_land_111 rfl rfl ?_
      obtain ⟨r15, D16, h14, h⟩ := cbd_x h
      refine j_callV C [.int a1] [] cl_X10_141 (M_X6_sellers (lv := lv - 1) hG (by omega) h14) (by omega) dX10_land_112 (by decide) ⟨rfl, rfl⟩ rfl rfl (Nat.le_of_ble_eq_true rfl) ?_
      refine j_st (st' := [.int r15]) rfl ?_
      obtain ⟨rfl, rfl⟩ := pr_x h
      exact j_iret C dX10_land_115
    have h := ite_f c13 h
    by_cases c17 : a2 = (5 : Int32)
    · have h := ite_t c17 h
      refine j_tabIn C (off := 104) (5 : Int32) 116 dX10_land_12 c17 ⟨by decide, by decide⟩ (by decide +kernel) (by decide) ?_
      refine j_aload_n C 0 dX10_land_116 rfl rfl ?_
      refine j_getS C (9, 0, 0, 0) fl_X10_49 dX10_land_117 (by decide) ⟨rfl, rfl⟩ rfl rfl ?_
      refine j_getS C (6, 0, 0, 0) fl_X10_122 dX10_land_120 (by decide) ⟨rfl, rfl⟩ rfl rfl ?_
      refine j_getS C (6, 0, 5, 0) fl_X10_145 dX10_land_123 (by decide) ⟨rfl, rfl⟩ rfl rfl ?_
      refine j_iload_n C 1 dX10_land_126 rfl rfl ?_
      obtain ⟨g18, h⟩ := grd_x h
      refine j_ialdK C 5 (a1.toNatClampNeg) dX10_land_127 (V_f 4 (by decide) (by decide)) rfl g18 rfl ?_
      obtain ⟨rfl, rfl⟩ := pr_x h
      exact j_iret C dX10_land_128
    have h := ite_f c17 h
    refine j_tabOut C 129 dX10_land_12 (by have z0 : a2.toInt ≠ 0 := ne_toInt c5; have z1 : a2.toInt ≠ 1 := ne_toInt c7; have z2 : a2.toInt ≠ 2 := ne_toInt c9; have z3 : a2.toInt ≠ 3 := ne_toInt c11; have z4 : a2.toInt ≠ 4 := ne_toInt c13; have z5 : a2.toInt ≠ 5 := ne_toInt c17; omega) (by decide) ?_
    refine j_bipush C (-2 : Int32) (by decide) dX10_land_129 ?_
    obtain ⟨rfl, rfl⟩ := pr_x h
    exact j_iret C dX10_land_131
  · have h := ite_t c4 h
    refine j_bipush C (-2 : Int32) (by decide) dX10_land_8 ?_
    obtain ⟨rfl, rfl⟩ := pr_x h
    exact j_iret C dX10_land_10
def F_X10_told (a1 : Int32) (a2 : Int32) (D : Dt) : Option (Int32 × Dt) := (cbd (F_X10_isLand a1 D) (fun r2 D3 => (if r2 = 0 then (some ((-1 : Int32), D3)) else (cbd (F_X10_within a2 (0 : Int32) (60 : Int32) D3) (fun r6 D7 => (if r6 = 0 then (some ((-1 : Int32), D7)) else (grd (inB a1 5 = true) (grd (inB a2 61 = true) (some ((D7.1 (5, 0, 8, a1.toNatClampNeg + 1) (a2.toNatClampNeg)), D7))))))))))
set_option maxRecDepth 100000 in
set_option maxHeartbeats 4000000 in
theorem M_X10_told {l : Launch} {G : Gt} {A : Nat → Prop} {lv : Nat} {a1 : Int32} {a2 : Int32} {D : Dt} {r : Int32} {D' : Dt} (hG : Gok G A) (hlv : 3 ≤ lv)  (h : F_X10_told a1 a2 D = some (r, D')) : MD l G A lv yX10_told cX10_told 3 (some .int) [.ref (ad G (10, 0, 0, 0)), .int a1, .int a2] D (some (.int r)) D' := by
  unfold F_X10_told at h
  refine md_start RX10 hG (by decide +kernel) rfl (Nat.le_of_ble_eq_true rfl) (L := [(0, .ref (ad G (10, 0, 0, 0))), (1, .int a1), (2, .int a2)]) rfl (fun X C => ?_)
  refine j_aload_n C 0 dX10_told_0 rfl rfl ?_
  refine j_iload_n C 1 dX10_told_1 rfl rfl ?_
  obtain ⟨r2, D3, h1, h⟩ := cbd_x h
  refine j_callV C [.int a1] [] cl_X10_118 (M_X10_isLand (lv := lv - 1) hG (by omega) h1) (by omega) dX10_told_2 (by decide) ⟨rfl, rfl⟩ rfl rfl (Nat.le_of_ble_eq_true rfl) ?_
  refine j_st (st' := [.int r2]) rfl ?_
  refine j_if_eq C 18 dX10_told_5 (by decide) (fun c4 => ?_) (fun c4 => ?_)
  · have h := ite_t c4 h
    refine j_iconst C (-1 : Int32) (by decide) dX10_told_18 ?_
    obtain ⟨rfl, rfl⟩ := pr_x h
    exact j_iret C dX10_told_19
  · have h := ite_f c4 h
    refine j_iload_n C 2 dX10_told_8 rfl rfl ?_
    refine j_iconst C (0 : Int32) (by decide) dX10_told_9 ?_
    refine j_bipush C (60 : Int32) (by decide) dX10_told_10 ?_
    obtain ⟨r6, D7, h5, h⟩ := cbd_x h
    refine j_callS C [.int a2, .int (0 : Int32), .int (60 : Int32)] [] cl_X10_85 (M_X10_within (lv := lv - 1) hG (by omega) h5) (by omega) dX10_told_12 rfl rfl (Nat.le_of_ble_eq_true rfl) ?_
    refine j_st (st' := [.int r6]) rfl ?_
    refine j_if_ne C 20 dX10_told_15 (by decide) (fun c8 => ?_) (fun c8 => ?_)
    · have h := ite_f c8 h
      refine j_aload_n C 0 dX10_told_20 rfl rfl ?_
      refine j_getS C (9, 0, 0, 0) fl_X10_49 dX10_told_21 (by decide) ⟨rfl, rfl⟩ rfl rfl ?_
      refine j_getS C (5, 0, 0, 0) fl_X10_103 dX10_told_24 (by decide) ⟨rfl, rfl⟩ rfl rfl ?_
      refine j_getS C (5, 0, 8, 0) fl_X10_148 dX10_told_27 (V_95 (by decide)) ⟨rfl, rfl⟩ rfl rfl ?_
      refine j_iload_n C 1 dX10_told_30 rfl rfl ?_
      obtain ⟨g9, h⟩ := grd_x h
      refine j_aald C 7 5 (5, 0, 8, a1.toNatClampNeg + 1) dX10_told_31 (V_f 7 (V_95 (by decide)) (by decide)) rfl (by decide) g9 rfl ?_
      refine j_iload_n C 2 dX10_told_32 rfl rfl ?_
      obtain ⟨g10, h⟩ := grd_x h
      refine j_ialdK C 61 (a2.toNatClampNeg) dX10_told_33 (V_w (V_95 (by decide)) rfl (inB_lt g9)) rfl g10 rfl ?_
      obtain ⟨rfl, rfl⟩ := pr_x h
      exact j_iret C dX10_told_34
    · have h := ite_t c8 h
      refine j_iconst C (-1 : Int32) (by decide) dX10_told_18 ?_
      obtain ⟨rfl, rfl⟩ := pr_x h
      exact j_iret C dX10_told_19
def F_X10_week  (D : Dt) : Option (Int32 × Dt) := (if (D.1 (5, 0, 0, 0) 0) = 0 then (some ((-1 : Int32), D)) else (if (D.1 (6, 0, 0, 0) 6) < (999 : Int32) then (vbd (F_X0_keep 0 0 D) (fun D4 => (cbd (F_X10_ruleOf (D4.1 (9, 0, 0, 0) 7) D4) (fun r6 D7 => (vbd (F_X8_follow 0 0 r6 D7) (fun D9 => (cbd (F_X8_pass 0 0 D9) (fun r11 D12 => (some (r11, D12)))))))))) else (some ((-1 : Int32), D))))
set_option maxRecDepth 100000 in
set_option maxHeartbeats 4000000 in
theorem M_X10_week {l : Launch} {G : Gt} {A : Nat → Prop} {lv : Nat}  {D : Dt} {r : Int32} {D' : Dt} (hG : Gok G A) (hlv : 6 ≤ lv)  (h : F_X10_week  D = some (r, D')) : MD l G A lv yX10_week cX10_week 1 (some .int) [.ref (ad G (10, 0, 0, 0))] D (some (.int r)) D' := by
  unfold F_X10_week at h
  refine md_start RX10 hG (by decide +kernel) rfl (Nat.le_of_ble_eq_true rfl) (L := [(0, .ref (ad G (10, 0, 0, 0)))]) rfl (fun X C => ?_)
  refine j_aload_n C 0 dX10_week_0 rfl rfl ?_
  refine j_getS C (9, 0, 0, 0) fl_X10_49 dX10_week_1 (by decide) ⟨rfl, rfl⟩ rfl rfl ?_
  refine j_getS C (5, 0, 0, 0) fl_X10_103 dX10_week_4 (by decide) ⟨rfl, rfl⟩ rfl rfl ?_
  refine j_getI C fl_X10_152 dX10_week_7 (V_95 (by decide)) ⟨rfl, rfl⟩ rfl ?_
  refine j_if_eq C 29 dX10_week_10 (by decide) (fun c1 => ?_) (fun c1 => ?_)
  · have h := ite_t c1 h
    refine j_iconst C (-1 : Int32) (by decide) dX10_week_29 ?_
    obtain ⟨rfl, rfl⟩ := pr_x h
    exact j_iret C dX10_week_30
  · have h := ite_f c1 h
    refine j_aload_n C 0 dX10_week_13 rfl rfl ?_
    refine j_getS C (9, 0, 0, 0) fl_X10_49 dX10_week_14 (by decide) ⟨rfl, rfl⟩ rfl rfl ?_
    refine j_getS C (6, 0, 0, 0) fl_X10_122 dX10_week_17 (by decide) ⟨rfl, rfl⟩ rfl rfl ?_
    refine j_getI C fl_X10_156 dX10_week_20 (by decide) ⟨rfl, rfl⟩ rfl ?_
    refine j_sipush C (999 : Int32) (by decide) dX10_week_23 ?_
    refine j_icmp_lt C 31 dX10_week_26 (by decide) (fun c2 => ?_) (fun c2 => ?_)
    · have h := ite_t c2 h
      refine j_aload_n C 0 dX10_week_31 rfl rfl ?_
      refine j_getS C (9, 0, 0, 0) fl_X10_49 dX10_week_32 (by decide) ⟨rfl, rfl⟩ rfl rfl ?_
      refine j_getS C (0, 0, 0, 0) fl_X10_159 dX10_week_35 (by decide) ⟨rfl, rfl⟩ rfl rfl ?_
      refine j_aload_n C 0 dX10_week_38 rfl rfl ?_
      refine j_getS C (9, 0, 0, 0) fl_X10_49 dX10_week_39 (by decide) ⟨rfl, rfl⟩ rfl rfl ?_
      refine j_getS C (6, 0, 0, 0) fl_X10_122 dX10_week_42 (by decide) ⟨rfl, rfl⟩ rfl rfl ?_
      obtain ⟨D4, h3, h⟩ := vbd_x h
      refine j_callV C [.ref (ad G (6, 0, 0, 0))] [] cl_X10_163 (M_X0_keep (lv := lv - 1) hG (by omega) h3) (by omega) dX10_week_45 (V_90 (by decide)) ⟨rfl, rfl⟩ rfl rfl (Nat.le_of_ble_eq_true rfl) ?_
      refine j_st (st' := []) rfl ?_
      refine j_aload_n C 0 dX10_week_48 rfl rfl ?_
      refine j_getS C (8, 0, 0, 0) fl_X10_64 dX10_week_49 (by decide) ⟨rfl, rfl⟩ rfl rfl ?_
      refine j_aload_n C 0 dX10_week_52 rfl rfl ?_
      refine j_getS C (9, 0, 0, 0) fl_X10_49 dX10_week_53 (by decide) ⟨rfl, rfl⟩ rfl rfl ?_
      refine j_getS C (5, 0, 0, 0) fl_X10_103 dX10_week_56 (by decide) ⟨rfl, rfl⟩ rfl rfl ?_
      refine j_aload_n C 0 dX10_week_59 rfl rfl ?_
      refine j_getS C (10, 0, 5, 0) fl_X10_41 dX10_week_60 (by decide) ⟨rfl, rfl⟩ rfl rfl ?_
      refine j_aload_n C 0 dX10_week_63 rfl rfl ?_
      refine j_getS C (9, 0, 0, 0) fl_X10_49 dX10_week_64 (by decide) ⟨rfl, rfl⟩ rfl rfl ?_
      refine j_getI C fl_X10_115 dX10_week_67 (by decide) ⟨rfl, rfl⟩ rfl ?_
      obtain ⟨r6, D7, h5, h⟩ := cbd_x h
      refine j_callS C [.ref (ad G (10, 0, 5, 0)), .int (D4.1 (9, 0, 0, 0) 7)] [.ref (ad G (5, 0, 0, 0)), .ref (ad G (8, 0, 0, 0))] cl_X10_169 (M_X10_ruleOf (lv := lv - 1) hG (by omega) h5) (by omega) dX10_week_70 rfl rfl (Nat.le_of_ble_eq_true rfl) ?_
      refine j_st (st' := [va_rf (Option.map (fun n => ad G (3, n, 0, 0)) r6), .ref (ad G (5, 0, 0, 0)), .ref (ad G (8, 0, 0, 0))]) rfl ?_
      obtain ⟨D9, h8, h⟩ := vbd_x h
      refine j_callV C [.ref (ad G (5, 0, 0, 0)), va_rf (Option.map (fun n => ad G (3, n, 0, 0)) r6)] [] cl_X10_173 (M_X8_follow (lv := lv - 1) hG (by omega) h8) (by omega) dX10_week_73 (by decide) ⟨rfl, rfl⟩ rfl rfl (Nat.le_of_ble_eq_true rfl) ?_
      refine j_st (st' := []) rfl ?_
      refine j_aload_n C 0 dX10_week_76 rfl rfl ?_
      refine j_getS C (8, 0, 0, 0) fl_X10_64 dX10_week_77 (by decide) ⟨rfl, rfl⟩ rfl rfl ?_
      refine j_aload_n C 0 dX10_week_80 rfl rfl ?_
      refine j_getS C (9, 0, 0, 0) fl_X10_49 dX10_week_81 (by decide) ⟨rfl, rfl⟩ rfl rfl ?_
      refine j_getS C (6, 0, 0, 0) fl_X10_122 dX10_week_84 (by decide) ⟨rfl, rfl⟩ rfl rfl ?_
      obtain ⟨r11, D12, h10, h⟩ := cbd_x h
      refine j_callV C [.ref (ad G (6, 0, 0, 0))] [] cl_X10_177 (M_X8_pass (lv := lv - 1) hG (by omega) h10) (by omega) dX10_week_87 (by decide) ⟨rfl, rfl⟩ rfl rfl (Nat.le_of_ble_eq_true rfl) ?_
      refine j_st (st' := [.int r11]) rfl ?_
      obtain ⟨rfl, rfl⟩ := pr_x h
      exact j_iret C dX10_week_90
    · have h := ite_f c2 h
      refine j_iconst C (-1 : Int32) (by decide) dX10_week_29 ?_
      obtain ⟨rfl, rfl⟩ := pr_x h
      exact j_iret C dX10_week_30
def F_X10_areTwo (a1 : Int32) (a2 : Int32) (D : Dt) : Option (Int32 × Dt) := (cbd (F_X10_isLand a1 D) (fun r2 D3 => (if r2 = 0 then (some ((0 : Int32), D3)) else (cbd (F_X10_isLand a2 D3) (fun r6 D7 => (if r6 = 0 then (some ((0 : Int32), D7)) else (if a1 = a2 then (some ((0 : Int32), D7)) else (some ((1 : Int32), D7)))))))))
set_option maxRecDepth 100000 in
set_option maxHeartbeats 4000000 in
theorem M_X10_areTwo {l : Launch} {G : Gt} {A : Nat → Prop} {lv : Nat} {a1 : Int32} {a2 : Int32} {D : Dt} {r : Int32} {D' : Dt} (hG : Gok G A) (hlv : 3 ≤ lv)  (h : F_X10_areTwo a1 a2 D = some (r, D')) : MD l G A lv yX10_areTwo cX10_areTwo 3 (some .boolean) [.ref (ad G (10, 0, 0, 0)), .int a1, .int a2] D (some (.int r)) D' := by
  unfold F_X10_areTwo at h
  refine md_start RX10 hG (by decide +kernel) rfl (Nat.le_of_ble_eq_true rfl) (L := [(0, .ref (ad G (10, 0, 0, 0))), (1, .int a1), (2, .int a2)]) rfl (fun X C => ?_)
  refine j_aload_n C 0 dX10_areTwo_0 rfl rfl ?_
  refine j_iload_n C 1 dX10_areTwo_1 rfl rfl ?_
  obtain ⟨r2, D3, h1, h⟩ := cbd_x h
  refine j_callV C [.int a1] [] cl_X10_118 (M_X10_isLand (lv := lv - 1) hG (by omega) h1) (by omega) dX10_areTwo_2 (by decide) ⟨rfl, rfl⟩ rfl rfl (Nat.le_of_ble_eq_true rfl) ?_
  refine j_st (st' := [.int r2]) rfl ?_
  refine j_if_eq C 25 dX10_areTwo_5 (by decide) (fun c4 => ?_) (fun c4 => ?_)
  · have h := ite_t c4 h
    refine j_iconst C (0 : Int32) (by decide) dX10_areTwo_25 ?_
    obtain ⟨rfl, rfl⟩ := pr_x h
    exact j_zret C (Or.inl rfl) dX10_areTwo_26
  · have h := ite_f c4 h
    refine j_aload_n C 0 dX10_areTwo_8 rfl rfl ?_
    refine j_iload_n C 2 dX10_areTwo_9 rfl rfl ?_
    obtain ⟨r6, D7, h5, h⟩ := cbd_x h
    refine j_callV C [.int a2] [] cl_X10_118 (M_X10_isLand (lv := lv - 1) hG (by omega) h5) (by omega) dX10_areTwo_10 (by decide) ⟨rfl, rfl⟩ rfl rfl (Nat.le_of_ble_eq_true rfl) ?_
    refine j_st (st' := [.int r6]) rfl ?_
    refine j_if_eq C 25 dX10_areTwo_13 (by decide) (fun c8 => ?_) (fun c8 => ?_)
    · have h := ite_t c8 h
      refine j_iconst C (0 : Int32) (by decide) dX10_areTwo_25 ?_
      obtain ⟨rfl, rfl⟩ := pr_x h
      exact j_zret C (Or.inl rfl) dX10_areTwo_26
    · have h := ite_f c8 h
      refine j_iload_n C 1 dX10_areTwo_16 rfl rfl ?_
      refine j_iload_n C 2 dX10_areTwo_17 rfl rfl ?_
      refine j_icmp_eq C 25 dX10_areTwo_18 (by decide) (fun c9 => ?_) (fun c9 => ?_)
      · have h := ite_t c9 h
        refine j_iconst C (0 : Int32) (by decide) dX10_areTwo_25 ?_
        obtain ⟨rfl, rfl⟩ := pr_x h
        exact j_zret C (Or.inl rfl) dX10_areTwo_26
      · have h := ite_f c9 h
        refine j_iconst C (1 : Int32) (by decide) dX10_areTwo_21 ?_
        refine j_goto C 26 dX10_areTwo_22 (by decide) ?_
        obtain ⟨rfl, rfl⟩ := pr_x h
        exact j_zret C (Or.inr rfl) dX10_areTwo_26
def F_X10_swap (a1 : Int32) (a2 : Int32) (D : Dt) : Option (Int32 × Dt) := (cbd (F_X10_areTwo a1 a2 D) (fun r2 D3 => (if r2 = 0 then (some ((-1 : Int32), D3)) else (cbd (F_X6_mayBuy 0 a1 a2 D3) (fun r6 D7 => (if r6 = 0 then (some ((-1 : Int32), D7)) else (vbd (F_X0_keep 0 0 D7) (fun D10 => (vbd (F_X6_buy 0 a1 a2 D10) (fun D12 => (grd (inB a1 5 = true) (some ((D12.1 (6, 0, 1, 0) (a1.toNatClampNeg)), D12)))))))))))))
set_option maxRecDepth 100000 in
set_option maxHeartbeats 4000000 in
theorem M_X10_swap {l : Launch} {G : Gt} {A : Nat → Prop} {lv : Nat} {a1 : Int32} {a2 : Int32} {D : Dt} {r : Int32} {D' : Dt} (hG : Gok G A) (hlv : 4 ≤ lv)  (h : F_X10_swap a1 a2 D = some (r, D')) : MD l G A lv yX10_swap cX10_swap 3 (some .int) [.ref (ad G (10, 0, 0, 0)), .int a1, .int a2] D (some (.int r)) D' := by
  unfold F_X10_swap at h
  refine md_start RX10 hG (by decide +kernel) rfl (Nat.le_of_ble_eq_true rfl) (L := [(0, .ref (ad G (10, 0, 0, 0))), (1, .int a1), (2, .int a2)]) rfl (fun X C => ?_)
  refine j_aload_n C 0 dX10_swap_0 rfl rfl ?_
  refine j_iload_n C 1 dX10_swap_1 rfl rfl ?_
  refine j_iload_n C 2 dX10_swap_2 rfl rfl ?_
  obtain ⟨r2, D3, h1, h⟩ := cbd_x h
  refine j_callV C [.int a1, .int a2] [] cl_X10_181 (M_X10_areTwo (lv := lv - 1) hG (by omega) h1) (by omega) dX10_swap_3 (by decide) ⟨rfl, rfl⟩ rfl rfl (Nat.le_of_ble_eq_true rfl) ?_
  refine j_st (st' := [.int r2]) rfl ?_
  refine j_if_eq C 24 dX10_swap_6 (by decide) (fun c4 => ?_) (fun c4 => ?_)
  · have h := ite_t c4 h
    refine j_iconst C (-1 : Int32) (by decide) dX10_swap_24 ?_
    obtain ⟨rfl, rfl⟩ := pr_x h
    exact j_iret C dX10_swap_25
  · have h := ite_f c4 h
    refine j_aload_n C 0 dX10_swap_9 rfl rfl ?_
    refine j_getS C (9, 0, 0, 0) fl_X10_49 dX10_swap_10 (by decide) ⟨rfl, rfl⟩ rfl rfl ?_
    refine j_getS C (6, 0, 0, 0) fl_X10_122 dX10_swap_13 (by decide) ⟨rfl, rfl⟩ rfl rfl ?_
    refine j_iload_n C 1 dX10_swap_16 rfl rfl ?_
    refine j_iload_n C 2 dX10_swap_17 rfl rfl ?_
    obtain ⟨r6, D7, h5, h⟩ := cbd_x h
    refine j_callV C [.int a1, .int a2] [] cl_X10_185 (M_X6_mayBuy (lv := lv - 1) hG (by omega) h5) (by omega) dX10_swap_18 (by decide) ⟨rfl, rfl⟩ rfl rfl (Nat.le_of_ble_eq_true rfl) ?_
    refine j_st (st' := [.int r6]) rfl ?_
    refine j_if_ne C 26 dX10_swap_21 (by decide) (fun c8 => ?_) (fun c8 => ?_)
    · have h := ite_f c8 h
      refine j_aload_n C 0 dX10_swap_26 rfl rfl ?_
      refine j_getS C (9, 0, 0, 0) fl_X10_49 dX10_swap_27 (by decide) ⟨rfl, rfl⟩ rfl rfl ?_
      refine j_getS C (0, 0, 0, 0) fl_X10_159 dX10_swap_30 (by decide) ⟨rfl, rfl⟩ rfl rfl ?_
      refine j_aload_n C 0 dX10_swap_33 rfl rfl ?_
      refine j_getS C (9, 0, 0, 0) fl_X10_49 dX10_swap_34 (by decide) ⟨rfl, rfl⟩ rfl rfl ?_
      refine j_getS C (6, 0, 0, 0) fl_X10_122 dX10_swap_37 (by decide) ⟨rfl, rfl⟩ rfl rfl ?_
      obtain ⟨D10, h9, h⟩ := vbd_x h
      refine j_callV C [.ref (ad G (6, 0, 0, 0))] [] cl_X10_163 (M_X0_keep (lv := lv - 1) hG (by omega) h9) (by omega) dX10_swap_40 (V_90 (by decide)) ⟨rfl, rfl⟩ rfl rfl (Nat.le_of_ble_eq_true rfl) ?_
      refine j_st (st' := []) rfl ?_
      refine j_aload_n C 0 dX10_swap_43 rfl rfl ?_
      refine j_getS C (9, 0, 0, 0) fl_X10_49 dX10_swap_44 (by decide) ⟨rfl, rfl⟩ rfl rfl ?_
      refine j_getS C (6, 0, 0, 0) fl_X10_122 dX10_swap_47 (by decide) ⟨rfl, rfl⟩ rfl rfl ?_
      refine j_iload_n C 1 dX10_swap_50 rfl rfl ?_
      refine j_iload_n C 2 dX10_swap_51 rfl rfl ?_
      obtain ⟨D12, h11, h⟩ := vbd_x h
      refine j_callV C [.int a1, .int a2] [] cl_X10_188 (M_X6_buy (lv := lv - 1) hG (by omega) h11) (by omega) dX10_swap_52 (by decide) ⟨rfl, rfl⟩ rfl rfl (Nat.le_of_ble_eq_true rfl) ?_
      refine j_st (st' := []) rfl ?_
      refine j_aload_n C 0 dX10_swap_55 rfl rfl ?_
      refine j_getS C (9, 0, 0, 0) fl_X10_49 dX10_swap_56 (by decide) ⟨rfl, rfl⟩ rfl rfl ?_
      refine j_getS C (6, 0, 0, 0) fl_X10_122 dX10_swap_59 (by decide) ⟨rfl, rfl⟩ rfl rfl ?_
      refine j_getS C (6, 0, 1, 0) fl_X10_126 dX10_swap_62 (by decide) ⟨rfl, rfl⟩ rfl rfl ?_
      refine j_iload_n C 1 dX10_swap_65 rfl rfl ?_
      obtain ⟨g13, h⟩ := grd_x h
      refine j_ialdK C 5 (a1.toNatClampNeg) dX10_swap_66 (V_f 0 (by decide) (by decide)) rfl g13 rfl ?_
      obtain ⟨rfl, rfl⟩ := pr_x h
      exact j_iret C dX10_swap_67
    · have h := ite_t c8 h
      refine j_iconst C (-1 : Int32) (by decide) dX10_swap_24 ?_
      obtain ⟨rfl, rfl⟩ := pr_x h
      exact j_iret C dX10_swap_25
def F_X10_give (a1 : Int32) (a2 : Int32) (a3 : Int32) (D : Dt) : Option (Int32 × Dt) := (cbd (F_X10_areTwo a1 a2 D) (fun r2 D3 => (if r2 = 0 then (some ((-1 : Int32), D3)) else (cbd (F_X10_within a3 (1 : Int32) (99 : Int32) D3) (fun r6 D7 => (if r6 = 0 then (some ((-1 : Int32), D7)) else (grd (inB a1 5 = true) (if a3 ≤ (D7.1 (6, 0, 1, 0) (a1.toNatClampNeg)) then (vbd (F_X0_keep 0 0 D7) (fun D12 => (vbd (F_X6_moveMen 0 a1 a2 a3 D12) (fun D14 => (some ((D14.1 (6, 0, 1, 0) (a1.toNatClampNeg)), D14)))))) else (some ((-1 : Int32), D7))))))))))
set_option maxRecDepth 100000 in
set_option maxHeartbeats 4000000 in
theorem M_X10_give {l : Launch} {G : Gt} {A : Nat → Prop} {lv : Nat} {a1 : Int32} {a2 : Int32} {a3 : Int32} {D : Dt} {r : Int32} {D' : Dt} (hG : Gok G A) (hlv : 4 ≤ lv)  (h : F_X10_give a1 a2 a3 D = some (r, D')) : MD l G A lv yX10_give cX10_give 4 (some .int) [.ref (ad G (10, 0, 0, 0)), .int a1, .int a2, .int a3] D (some (.int r)) D' := by
  unfold F_X10_give at h
  refine md_start RX10 hG (by decide +kernel) rfl (Nat.le_of_ble_eq_true rfl) (L := [(0, .ref (ad G (10, 0, 0, 0))), (1, .int a1), (2, .int a2), (3, .int a3)]) rfl (fun X C => ?_)
  refine j_aload_n C 0 dX10_give_0 rfl rfl ?_
  refine j_iload_n C 1 dX10_give_1 rfl rfl ?_
  refine j_iload_n C 2 dX10_give_2 rfl rfl ?_
  obtain ⟨r2, D3, h1, h⟩ := cbd_x h
  refine j_callV C [.int a1, .int a2] [] cl_X10_181 (M_X10_areTwo (lv := lv - 1) hG (by omega) h1) (by omega) dX10_give_3 (by decide) ⟨rfl, rfl⟩ rfl rfl (Nat.le_of_ble_eq_true rfl) ?_
  refine j_st (st' := [.int r2]) rfl ?_
  refine j_if_eq C 35 dX10_give_6 (by decide) (fun c4 => ?_) (fun c4 => ?_)
  · have h := ite_t c4 h
    refine j_iconst C (-1 : Int32) (by decide) dX10_give_35 ?_
    obtain ⟨rfl, rfl⟩ := pr_x h
    exact j_iret C dX10_give_36
  · have h := ite_f c4 h
    refine j_iload_n C 3 dX10_give_9 rfl rfl ?_
    refine j_iconst C (1 : Int32) (by decide) dX10_give_10 ?_
    refine j_bipush C (99 : Int32) (by decide) dX10_give_11 ?_
    obtain ⟨r6, D7, h5, h⟩ := cbd_x h
    refine j_callS C [.int a3, .int (1 : Int32), .int (99 : Int32)] [] cl_X10_85 (M_X10_within (lv := lv - 1) hG (by omega) h5) (by omega) dX10_give_13 rfl rfl (Nat.le_of_ble_eq_true rfl) ?_
    refine j_st (st' := [.int r6]) rfl ?_
    refine j_if_eq C 35 dX10_give_16 (by decide) (fun c8 => ?_) (fun c8 => ?_)
    · have h := ite_t c8 h
      refine j_iconst C (-1 : Int32) (by decide) dX10_give_35 ?_
      obtain ⟨rfl, rfl⟩ := pr_x h
      exact j_iret C dX10_give_36
    · have h := ite_f c8 h
      refine j_aload_n C 0 dX10_give_19 rfl rfl ?_
      refine j_getS C (9, 0, 0, 0) fl_X10_49 dX10_give_20 (by decide) ⟨rfl, rfl⟩ rfl rfl ?_
      refine j_getS C (6, 0, 0, 0) fl_X10_122 dX10_give_23 (by decide) ⟨rfl, rfl⟩ rfl rfl ?_
      refine j_getS C (6, 0, 1, 0) fl_X10_126 dX10_give_26 (by decide) ⟨rfl, rfl⟩ rfl rfl ?_
      refine j_iload_n C 1 dX10_give_29 rfl rfl ?_
      obtain ⟨g9, h⟩ := grd_x h
      refine j_ialdK C 5 (a1.toNatClampNeg) dX10_give_30 (V_f 0 (by decide) (by decide)) rfl g9 rfl ?_
      refine j_iload_n C 3 dX10_give_31 rfl rfl ?_
      refine j_icmp_ge C 37 dX10_give_32 (by decide) (fun c10 => ?_) (fun c10 => ?_)
      · have h := ite_t c10 h
        refine j_aload_n C 0 dX10_give_37 rfl rfl ?_
        refine j_getS C (9, 0, 0, 0) fl_X10_49 dX10_give_38 (by decide) ⟨rfl, rfl⟩ rfl rfl ?_
        refine j_getS C (0, 0, 0, 0) fl_X10_159 dX10_give_41 (by decide) ⟨rfl, rfl⟩ rfl rfl ?_
        refine j_aload_n C 0 dX10_give_44 rfl rfl ?_
        refine j_getS C (9, 0, 0, 0) fl_X10_49 dX10_give_45 (by decide) ⟨rfl, rfl⟩ rfl rfl ?_
        refine j_getS C (6, 0, 0, 0) fl_X10_122 dX10_give_48 (by decide) ⟨rfl, rfl⟩ rfl rfl ?_
        obtain ⟨D12, h11, h⟩ := vbd_x h
        refine j_callV C [.ref (ad G (6, 0, 0, 0))] [] cl_X10_163 (M_X0_keep (lv := lv - 1) hG (by omega) h11) (by omega) dX10_give_51 (V_90 (by decide)) ⟨rfl, rfl⟩ rfl rfl (Nat.le_of_ble_eq_true rfl) ?_
        refine j_st (st' := []) rfl ?_
        refine j_aload_n C 0 dX10_give_54 rfl rfl ?_
        refine j_getS C (9, 0, 0, 0) fl_X10_49 dX10_give_55 (by decide) ⟨rfl, rfl⟩ rfl rfl ?_
        refine j_getS C (6, 0, 0, 0) fl_X10_122 dX10_give_58 (by decide) ⟨rfl, rfl⟩ rfl rfl ?_
        refine j_iload_n C 1 dX10_give_61 rfl rfl ?_
        refine j_iload_n C 2 dX10_give_62 rfl rfl ?_
        refine j_iload_n C 3 dX10_give_63 rfl rfl ?_
        obtain ⟨D14, h13, h⟩ := vbd_x h
        refine j_callV C [.int a1, .int a2, .int a3] [] cl_X10_192 (M_X6_moveMen (lv := lv - 1) hG (by omega) h13) (by omega) dX10_give_64 (by decide) ⟨rfl, rfl⟩ rfl rfl (Nat.le_of_ble_eq_true rfl) ?_
        refine j_st (st' := []) rfl ?_
        refine j_aload_n C 0 dX10_give_67 rfl rfl ?_
        refine j_getS C (9, 0, 0, 0) fl_X10_49 dX10_give_68 (by decide) ⟨rfl, rfl⟩ rfl rfl ?_
        refine j_getS C (6, 0, 0, 0) fl_X10_122 dX10_give_71 (by decide) ⟨rfl, rfl⟩ rfl rfl ?_
        refine j_getS C (6, 0, 1, 0) fl_X10_126 dX10_give_74 (by decide) ⟨rfl, rfl⟩ rfl rfl ?_
        refine j_iload_n C 1 dX10_give_77 rfl rfl ?_
        refine j_ialdK C 5 (a1.toNatClampNeg) dX10_give_78 (V_f 0 (by decide) (by decide)) rfl g9 rfl ?_
        obtain ⟨rfl, rfl⟩ := pr_x h
        exact j_iret C dX10_give_79
      · have h := ite_f c10 h
        refine j_iconst C (-1 : Int32) (by decide) dX10_give_35 ?_
        obtain ⟨rfl, rfl⟩ := pr_x h
        exact j_iret C dX10_give_36
def F_X10_fight (a1 : Int32) (a2 : Int32) (D : Dt) : Option (Int32 × Dt) := (cbd (F_X10_areTwo a1 a2 D) (fun r2 D3 => (if r2 = 0 then (some ((-1 : Int32), D3)) else (grd (inB a1 5 = true) (grd (inB a2 5 = true) (bnd (if (D3.1 (6, 0, 1, 0) (a2.toNatClampNeg)) < (D3.1 (6, 0, 1, 0) (a1.toNatClampNeg)) then (D3.1 (6, 0, 1, 0) (a2.toNatClampNeg)) else (D3.1 (6, 0, 1, 0) (a1.toNatClampNeg))) (fun v7 => (if (1 : Int32) ≤ v7 then (vbd (F_X0_keep 0 0 D3) (fun D10 => (bnd ((v7 + (1 : Int32)) / (2 : Int32)) (fun v11 => (bnd (setI D10 (6, 0, 1, 0) (a1.toNatClampNeg) ((D10.1 (6, 0, 1, 0) (a1.toNatClampNeg)) - v11)) (fun D12 => (bnd (setI D12 (6, 0, 1, 0) (a2.toNatClampNeg) ((D12.1 (6, 0, 1, 0) (a2.toNatClampNeg)) - v11)) (fun D13 => (some (v11, D13)))))))))) else (some ((-1 : Int32), D3))))))))))
set_option maxRecDepth 100000 in
set_option maxHeartbeats 4000000 in
theorem M_X10_fight {l : Launch} {G : Gt} {A : Nat → Prop} {lv : Nat} {a1 : Int32} {a2 : Int32} {D : Dt} {r : Int32} {D' : Dt} (hG : Gok G A) (hlv : 4 ≤ lv)  (h : F_X10_fight a1 a2 D = some (r, D')) : MD l G A lv yX10_fight cX10_fight 6 (some .int) [.ref (ad G (10, 0, 0, 0)), .int a1, .int a2] D (some (.int r)) D' := by
  unfold F_X10_fight at h
  refine md_start RX10 hG (by decide +kernel) rfl (Nat.le_of_ble_eq_true rfl) (L := [(0, .ref (ad G (10, 0, 0, 0))), (1, .int a1), (2, .int a2)]) rfl (fun X C => ?_)
  refine j_aload_n C 0 dX10_fight_0 rfl rfl ?_
  refine j_iload_n C 1 dX10_fight_1 rfl rfl ?_
  refine j_iload_n C 2 dX10_fight_2 rfl rfl ?_
  obtain ⟨r2, D3, h1, h⟩ := cbd_x h
  refine j_callV C [.int a1, .int a2] [] cl_X10_181 (M_X10_areTwo (lv := lv - 1) hG (by omega) h1) (by omega) dX10_fight_3 (by decide) ⟨rfl, rfl⟩ rfl rfl (Nat.le_of_ble_eq_true rfl) ?_
  refine j_st (st' := [.int r2]) rfl ?_
  refine j_if_ne C 11 dX10_fight_6 (by decide) (fun c4 => ?_) (fun c4 => ?_)
  · have h := ite_f c4 h
    refine j_aload_n C 0 dX10_fight_11 rfl rfl ?_
    refine j_getS C (9, 0, 0, 0) fl_X10_49 dX10_fight_12 (by decide) ⟨rfl, rfl⟩ rfl rfl ?_
    refine j_getS C (6, 0, 0, 0) fl_X10_122 dX10_fight_15 (by decide) ⟨rfl, rfl⟩ rfl rfl ?_
    refine j_astore_n C [(3, .ref (ad G (6, 0, 0, 0))), (0, .ref (ad G (10, 0, 0, 0))), (1, .int a1), (2, .int a2)] dX10_fight_18 rfl (Nat.le_of_ble_eq_true rfl) rfl rfl ?_
    refine j_aload_n C 0 dX10_fight_19 rfl rfl ?_
    refine j_getS C (6, 0, 1, 0) fl_X10_126 dX10_fight_20 (by decide) ⟨rfl, rfl⟩ rfl rfl ?_
    refine j_iload_n C 2 dX10_fight_23 rfl rfl ?_
    obtain ⟨g5, h⟩ := grd_x h
    refine j_ialdK C 5 (a1.toNatClampNeg) dX10_fight_24 (V_f 0 (by decide) (by decide)) rfl g5 rfl ?_
    refine j_aload_n C 0 dX10_fight_25 rfl rfl ?_
    refine j_getS C (6, 0, 1, 0) fl_X10_126 dX10_fight_26 (by decide) ⟨rfl, rfl⟩ rfl rfl ?_
    refine j_iload_n C 3 dX10_fight_29 rfl rfl ?_
    obtain ⟨g6, h⟩ := grd_x h
    refine j_ialdK C 5 (a2.toNatClampNeg) dX10_fight_30 (V_f 0 (by decide) (by decide)) rfl g6 rfl ?_
    refine j_min C km_X10_196 (by omega) (Nat.le_of_ble_eq_true rfl) dX10_fight_31 ?_
    obtain ⟨v7, ev7, h⟩ := bnd_x h
    refine j_istore C [(4, .int v7), (3, .ref (ad G (6, 0, 0, 0))), (0, .ref (ad G (10, 0, 0, 0))), (1, .int a1), (2, .int a2)] dX10_fight_34 (Nat.le_of_ble_eq_true rfl) ev7 rfl ?_
    refine j_iload C 0 dX10_fight_36 rfl ?_
    refine j_iconst C (1 : Int32) (by decide) dX10_fight_38 ?_
    refine j_icmp_ge C 44 dX10_fight_39 (by decide) (fun c8 => ?_) (fun c8 => ?_)
    · have h := ite_t c8 h
      refine j_aload_n C 2 dX10_fight_44 rfl rfl ?_
      refine j_getS C (9, 0, 0, 0) fl_X10_49 dX10_fight_45 (by decide) ⟨rfl, rfl⟩ rfl rfl ?_
      refine j_getS C (0, 0, 0, 0) fl_X10_159 dX10_fight_48 (by decide) ⟨rfl, rfl⟩ rfl rfl ?_
      refine j_aload_n C 1 dX10_fight_51 rfl rfl ?_
      obtain ⟨D10, h9, h⟩ := vbd_x h
      refine j_callV C [.ref (ad G (6, 0, 0, 0))] [] cl_X10_163 (M_X0_keep (lv := lv - 1) hG (by omega) h9) (by omega) dX10_fight_52 (V_90 (by decide)) ⟨rfl, rfl⟩ rfl rfl (Nat.le_of_ble_eq_true rfl) ?_
      refine j_st (st' := []) rfl ?_
      refine j_iload C 0 dX10_fight_55 rfl ?_
      refine j_iconst C (1 : Int32) (by decide) dX10_fight_57 ?_
      refine j_iadd C dX10_fight_58 ?_
      refine j_iconst C (2 : Int32) (by decide) dX10_fight_59 ?_
      refine j_idiv C (by decide) dX10_fight_60 ?_
      obtain ⟨v11, ev11, h⟩ := bnd_x h
      refine j_istore C [(5, .int v11), (4, .int v7), (3, .ref (ad G (6, 0, 0, 0))), (0, .ref (ad G (10, 0, 0, 0))), (1, .int a1), (2, .int a2)] dX10_fight_61 (Nat.le_of_ble_eq_true rfl) ev11 rfl ?_
      refine j_aload_n C 2 dX10_fight_63 rfl rfl ?_
      refine j_getS C (6, 0, 1, 0) fl_X10_126 dX10_fight_64 (by decide) ⟨rfl, rfl⟩ rfl rfl ?_
      refine j_iload_n C 4 dX10_fight_67 rfl rfl ?_
      refine j_dup2 C rfl rfl dX10_fight_68 ?_
      refine j_ialdK C 5 (a1.toNatClampNeg) dX10_fight_69 (V_f 0 (by decide) (by decide)) rfl g5 rfl ?_
      refine j_iload C 0 dX10_fight_70 rfl ?_
      refine j_isub C dX10_fight_72 ?_
      obtain ⟨D12, eD12, h⟩ := bnd_x h
      refine j_iastK C 5 (a1.toNatClampNeg) dX10_fight_73 (V_f 0 (by decide) (by decide)) rfl g5 rfl ?_
      refine j_rep eD12 ?_
      refine j_aload_n C 2 dX10_fight_74 rfl rfl ?_
      refine j_getS C (6, 0, 1, 0) fl_X10_126 dX10_fight_75 (by decide) ⟨rfl, rfl⟩ rfl rfl ?_
      refine j_iload_n C 5 dX10_fight_78 rfl rfl ?_
      refine j_dup2 C rfl rfl dX10_fight_79 ?_
      refine j_ialdK C 5 (a2.toNatClampNeg) dX10_fight_80 (V_f 0 (by decide) (by decide)) rfl g6 rfl ?_
      refine j_iload C 0 dX10_fight_81 rfl ?_
      refine j_isub C dX10_fight_83 ?_
      obtain ⟨D13, eD13, h⟩ := bnd_x h
      refine j_iastK C 5 (a2.toNatClampNeg) dX10_fight_84 (V_f 0 (by decide) (by decide)) rfl g6 rfl ?_
      refine j_rep eD13 ?_
      refine j_iload C 0 dX10_fight_85 rfl ?_
      obtain ⟨rfl, rfl⟩ := pr_x h
      exact j_iret C dX10_fight_87
    · have h := ite_f c8 h
      refine j_iconst C (-1 : Int32) (by decide) dX10_fight_42 ?_
      obtain ⟨rfl, rfl⟩ := pr_x h
      exact j_iret C dX10_fight_43
  · have h := ite_t c4 h
    refine j_iconst C (-1 : Int32) (by decide) dX10_fight_9 ?_
    obtain ⟨rfl, rfl⟩ := pr_x h
    exact j_iret C dX10_fight_10
def F_X10_set (a1 : Int32) (D : Dt) : Option (Int32 × Dt) := (if (D.1 (5, 0, 0, 0) 0) = 0 then (some ((-1 : Int32), D)) else (cbd (F_X10_within a1 (1 : Int32) (9 : Int32) D) (fun r3 D4 => (if r3 = 0 then (some ((-1 : Int32), D4)) else (if a1 = (D4.1 (6, 0, 0, 0) 5) then (some ((-1 : Int32), D4)) else (vbd (F_X0_keep 0 0 D4) (fun D8 => (bnd (D8.1 (6, 0, 0, 0) 5) (fun v9 => (bnd (setI D8 (6, 0, 0, 0) 5 a1) (fun D10 => (some (v9, D10)))))))))))))
set_option maxRecDepth 100000 in
set_option maxHeartbeats 4000000 in
theorem M_X10_set {l : Launch} {G : Gt} {A : Nat → Prop} {lv : Nat} {a1 : Int32} {D : Dt} {r : Int32} {D' : Dt} (hG : Gok G A) (hlv : 4 ≤ lv)  (h : F_X10_set a1 D = some (r, D')) : MD l G A lv yX10_set cX10_set 3 (some .int) [.ref (ad G (10, 0, 0, 0)), .int a1] D (some (.int r)) D' := by
  unfold F_X10_set at h
  refine md_start RX10 hG (by decide +kernel) rfl (Nat.le_of_ble_eq_true rfl) (L := [(0, .ref (ad G (10, 0, 0, 0))), (1, .int a1)]) rfl (fun X C => ?_)
  refine j_aload_n C 0 dX10_set_0 rfl rfl ?_
  refine j_getS C (9, 0, 0, 0) fl_X10_49 dX10_set_1 (by decide) ⟨rfl, rfl⟩ rfl rfl ?_
  refine j_getS C (5, 0, 0, 0) fl_X10_103 dX10_set_4 (by decide) ⟨rfl, rfl⟩ rfl rfl ?_
  refine j_getI C fl_X10_152 dX10_set_7 (V_95 (by decide)) ⟨rfl, rfl⟩ rfl ?_
  refine j_if_eq C 37 dX10_set_10 (by decide) (fun c1 => ?_) (fun c1 => ?_)
  · have h := ite_t c1 h
    refine j_iconst C (-1 : Int32) (by decide) dX10_set_37 ?_
    obtain ⟨rfl, rfl⟩ := pr_x h
    exact j_iret C dX10_set_38
  · have h := ite_f c1 h
    refine j_iload_n C 1 dX10_set_13 rfl rfl ?_
    refine j_iconst C (1 : Int32) (by decide) dX10_set_14 ?_
    refine j_bipush C (9 : Int32) (by decide) dX10_set_15 ?_
    obtain ⟨r3, D4, h2, h⟩ := cbd_x h
    refine j_callS C [.int a1, .int (1 : Int32), .int (9 : Int32)] [] cl_X10_85 (M_X10_within (lv := lv - 1) hG (by omega) h2) (by omega) dX10_set_17 rfl rfl (Nat.le_of_ble_eq_true rfl) ?_
    refine j_st (st' := [.int r3]) rfl ?_
    refine j_if_eq C 37 dX10_set_20 (by decide) (fun c5 => ?_) (fun c5 => ?_)
    · have h := ite_t c5 h
      refine j_iconst C (-1 : Int32) (by decide) dX10_set_37 ?_
      obtain ⟨rfl, rfl⟩ := pr_x h
      exact j_iret C dX10_set_38
    · have h := ite_f c5 h
      refine j_iload_n C 1 dX10_set_23 rfl rfl ?_
      refine j_aload_n C 0 dX10_set_24 rfl rfl ?_
      refine j_getS C (9, 0, 0, 0) fl_X10_49 dX10_set_25 (by decide) ⟨rfl, rfl⟩ rfl rfl ?_
      refine j_getS C (6, 0, 0, 0) fl_X10_122 dX10_set_28 (by decide) ⟨rfl, rfl⟩ rfl rfl ?_
      refine j_getI C fl_X10_202 dX10_set_31 (by decide) ⟨rfl, rfl⟩ rfl ?_
      refine j_icmp_ne C 39 dX10_set_34 (by decide) (fun c6 => ?_) (fun c6 => ?_)
      · have h := ite_f c6 h
        refine j_aload_n C 0 dX10_set_39 rfl rfl ?_
        refine j_getS C (9, 0, 0, 0) fl_X10_49 dX10_set_40 (by decide) ⟨rfl, rfl⟩ rfl rfl ?_
        refine j_getS C (0, 0, 0, 0) fl_X10_159 dX10_set_43 (by decide) ⟨rfl, rfl⟩ rfl rfl ?_
        refine j_aload_n C 0 dX10_set_46 rfl rfl ?_
        refine j_getS C (9, 0, 0, 0) fl_X10_49 dX10_set_47 (by decide) ⟨rfl, rfl⟩ rfl rfl ?_
        refine j_getS C (6, 0, 0, 0) fl_X10_122 dX10_set_50 (by decide) ⟨rfl, rfl⟩ rfl rfl ?_
        obtain ⟨D8, h7, h⟩ := vbd_x h
        refine j_callV C [.ref (ad G (6, 0, 0, 0))] [] cl_X10_163 (M_X0_keep (lv := lv - 1) hG (by omega) h7) (by omega) dX10_set_53 (V_90 (by decide)) ⟨rfl, rfl⟩ rfl rfl (Nat.le_of_ble_eq_true rfl) ?_
        refine j_st (st' := []) rfl ?_
        refine j_aload_n C 0 dX10_set_56 rfl rfl ?_
        refine j_getS C (9, 0, 0, 0) fl_X10_49 dX10_set_57 (by decide) ⟨rfl, rfl⟩ rfl rfl ?_
        refine j_getS C (6, 0, 0, 0) fl_X10_122 dX10_set_60 (by decide) ⟨rfl, rfl⟩ rfl rfl ?_
        refine j_getI C fl_X10_202 dX10_set_63 (by decide) ⟨rfl, rfl⟩ rfl ?_
        obtain ⟨v9, ev9, h⟩ := bnd_x h
        refine j_istore_n C [(2, .int v9), (0, .ref (ad G (10, 0, 0, 0))), (1, .int a1)] dX10_set_66 rfl (Nat.le_of_ble_eq_true rfl) ev9 rfl ?_
        refine j_aload_n C 1 dX10_set_67 rfl rfl ?_
        refine j_getS C (9, 0, 0, 0) fl_X10_49 dX10_set_68 (by decide) ⟨rfl, rfl⟩ rfl rfl ?_
        refine j_getS C (6, 0, 0, 0) fl_X10_122 dX10_set_71 (by decide) ⟨rfl, rfl⟩ rfl rfl ?_
        refine j_iload_n C 2 dX10_set_74 rfl rfl ?_
        obtain ⟨D10, eD10, h⟩ := bnd_x h
        refine j_putI C fl_X10_202 dX10_set_75 (by decide) ⟨rfl, rfl⟩ rfl rfl rfl ?_
        refine j_rep eD10 ?_
        refine j_iload_n C 0 dX10_set_78 rfl rfl ?_
        obtain ⟨rfl, rfl⟩ := pr_x h
        exact j_iret C dX10_set_79
      · have h := ite_t c6 h
        refine j_iconst C (-1 : Int32) (by decide) dX10_set_37 ?_
        obtain ⟨rfl, rfl⟩ := pr_x h
        exact j_iret C dX10_set_38
def F_X10_undo  (D : Dt) : Option (Int32 × Dt) := (cbd (F_X0_takeBack 0 0 D) (fun r2 D3 => (if r2 = 0 then (some ((-2 : Int32), D3)) else (some ((D3.1 (0, 0, 0, 0) 1), D3)))))
set_option maxRecDepth 100000 in
set_option maxHeartbeats 4000000 in
theorem M_X10_undo {l : Launch} {G : Gt} {A : Nat → Prop} {lv : Nat}  {D : Dt} {r : Int32} {D' : Dt} (hG : Gok G A) (hlv : 4 ≤ lv)  (h : F_X10_undo  D = some (r, D')) : MD l G A lv yX10_undo cX10_undo 1 (some .int) [.ref (ad G (10, 0, 0, 0))] D (some (.int r)) D' := by
  unfold F_X10_undo at h
  refine md_start RX10 hG (by decide +kernel) rfl (Nat.le_of_ble_eq_true rfl) (L := [(0, .ref (ad G (10, 0, 0, 0)))]) rfl (fun X C => ?_)
  refine j_aload_n C 0 dX10_undo_0 rfl rfl ?_
  refine j_getS C (9, 0, 0, 0) fl_X10_49 dX10_undo_1 (by decide) ⟨rfl, rfl⟩ rfl rfl ?_
  refine j_getS C (0, 0, 0, 0) fl_X10_159 dX10_undo_4 (by decide) ⟨rfl, rfl⟩ rfl rfl ?_
  refine j_aload_n C 0 dX10_undo_7 rfl rfl ?_
  refine j_getS C (9, 0, 0, 0) fl_X10_49 dX10_undo_8 (by decide) ⟨rfl, rfl⟩ rfl rfl ?_
  refine j_getS C (6, 0, 0, 0) fl_X10_122 dX10_undo_11 (by decide) ⟨rfl, rfl⟩ rfl rfl ?_
  obtain ⟨r2, D3, h1, h⟩ := cbd_x h
  refine j_callV C [.ref (ad G (6, 0, 0, 0))] [] cl_X10_205 (M_X0_takeBack (lv := lv - 1) hG (by omega) h1) (by omega) dX10_undo_14 (V_90 (by decide)) ⟨rfl, rfl⟩ rfl rfl (Nat.le_of_ble_eq_true rfl) ?_
  refine j_st (st' := [.int r2]) rfl ?_
  refine j_if_eq C 33 dX10_undo_17 (by decide) (fun c4 => ?_) (fun c4 => ?_)
  · have h := ite_t c4 h
    refine j_bipush C (-2 : Int32) (by decide) dX10_undo_33 ?_
    obtain ⟨rfl, rfl⟩ := pr_x h
    exact j_iret C dX10_undo_35
  · have h := ite_f c4 h
    refine j_aload_n C 0 dX10_undo_20 rfl rfl ?_
    refine j_getS C (9, 0, 0, 0) fl_X10_49 dX10_undo_21 (by decide) ⟨rfl, rfl⟩ rfl rfl ?_
    refine j_getS C (0, 0, 0, 0) fl_X10_159 dX10_undo_24 (by decide) ⟨rfl, rfl⟩ rfl rfl ?_
    refine j_getI C fl_X10_209 dX10_undo_27 (V_90 (by decide)) ⟨rfl, rfl⟩ rfl ?_
    refine j_goto C 35 dX10_undo_30 (by decide) ?_
    obtain ⟨rfl, rfl⟩ := pr_x h
    exact j_iret C dX10_undo_35
def F_X10_ahead (a1 : Int32) (a2 : Int32) (a3 : Int32) (D : Dt) : Option (Int32 × Dt) := (cbd (F_X10_isLand a1 D) (fun r2 D3 => (if r2 = 0 then (some ((-1 : Int32), D3)) else (cbd (F_X10_within a2 (0 : Int32) (100 : Int32) D3) (fun r6 D7 => (if r6 = 0 then (some ((-1 : Int32), D7)) else (cbd (F_X10_within a3 (0 : Int32) (3 : Int32) D7) (fun r10 D11 => (if r10 = 0 then (some ((-1 : Int32), D11)) else (cbd (F_X1_after a2 D11) (fun r14 D15 => (grd (V (6, r14, 0, 0) = true) (if a3 = (0 : Int32) then (grd (inB a1 5 = true) (some ((D15.1 (6, r14, 1, 0) (a1.toNatClampNeg)), D15))) else if a3 = (1 : Int32) then (grd (inB a1 5 = true) (some ((D15.1 (6, r14, 2, 0) (a1.toNatClampNeg)), D15))) else if a3 = (2 : Int32) then (grd (inB a1 5 = true) (some ((D15.1 (6, r14, 3, 0) (a1.toNatClampNeg)), D15))) else (grd (inB a1 5 = true) (some ((D15.1 (6, r14, 4, 0) (a1.toNatClampNeg)), D15))))))))))))))))
set_option maxRecDepth 100000 in
set_option maxHeartbeats 4000000 in
theorem M_X10_ahead {l : Launch} {G : Gt} {A : Nat → Prop} {lv : Nat} {a1 : Int32} {a2 : Int32} {a3 : Int32} {D : Dt} {r : Int32} {D' : Dt} (hG : Gok G A) (hlv : 7 ≤ lv)  (h : F_X10_ahead a1 a2 a3 D = some (r, D')) : MD l G A lv yX10_ahead cX10_ahead 5 (some .int) [.ref (ad G (10, 0, 0, 0)), .int a1, .int a2, .int a3] D (some (.int r)) D' := by
  unfold F_X10_ahead at h
  refine md_start RX10 hG (by decide +kernel) rfl (Nat.le_of_ble_eq_true rfl) (L := [(0, .ref (ad G (10, 0, 0, 0))), (1, .int a1), (2, .int a2), (3, .int a3)]) rfl (fun X C => ?_)
  refine j_aload_n C 0 dX10_ahead_0 rfl rfl ?_
  refine j_iload_n C 1 dX10_ahead_1 rfl rfl ?_
  obtain ⟨r2, D3, h1, h⟩ := cbd_x h
  refine j_callV C [.int a1] [] cl_X10_118 (M_X10_isLand (lv := lv - 1) hG (by omega) h1) (by omega) dX10_ahead_2 (by decide) ⟨rfl, rfl⟩ rfl rfl (Nat.le_of_ble_eq_true rfl) ?_
  refine j_st (st' := [.int r2]) rfl ?_
  refine j_if_eq C 27 dX10_ahead_5 (by decide) (fun c4 => ?_) (fun c4 => ?_)
  · have h := ite_t c4 h
    refine j_iconst C (-1 : Int32) (by decide) dX10_ahead_27 ?_
    obtain ⟨rfl, rfl⟩ := pr_x h
    exact j_iret C dX10_ahead_28
  · have h := ite_f c4 h
    refine j_iload_n C 2 dX10_ahead_8 rfl rfl ?_
    refine j_iconst C (0 : Int32) (by decide) dX10_ahead_9 ?_
    refine j_bipush C (100 : Int32) (by decide) dX10_ahead_10 ?_
    obtain ⟨r6, D7, h5, h⟩ := cbd_x h
    refine j_callS C [.int a2, .int (0 : Int32), .int (100 : Int32)] [] cl_X10_85 (M_X10_within (lv := lv - 1) hG (by omega) h5) (by omega) dX10_ahead_12 rfl rfl (Nat.le_of_ble_eq_true rfl) ?_
    refine j_st (st' := [.int r6]) rfl ?_
    refine j_if_eq C 27 dX10_ahead_15 (by decide) (fun c8 => ?_) (fun c8 => ?_)
    · have h := ite_t c8 h
      refine j_iconst C (-1 : Int32) (by decide) dX10_ahead_27 ?_
      obtain ⟨rfl, rfl⟩ := pr_x h
      exact j_iret C dX10_ahead_28
    · have h := ite_f c8 h
      refine j_iload_n C 3 dX10_ahead_18 rfl rfl ?_
      refine j_iconst C (0 : Int32) (by decide) dX10_ahead_19 ?_
      refine j_iconst C (3 : Int32) (by decide) dX10_ahead_20 ?_
      obtain ⟨r10, D11, h9, h⟩ := cbd_x h
      refine j_callS C [.int a3, .int (0 : Int32), .int (3 : Int32)] [] cl_X10_85 (M_X10_within (lv := lv - 1) hG (by omega) h9) (by omega) dX10_ahead_21 rfl rfl (Nat.le_of_ble_eq_true rfl) ?_
      refine j_st (st' := [.int r10]) rfl ?_
      refine j_if_ne C 29 dX10_ahead_24 (by decide) (fun c12 => ?_) (fun c12 => ?_)
      · have h := ite_f c12 h
        refine j_aload_n C 0 dX10_ahead_29 rfl rfl ?_
        refine j_getS C (1, 0, 0, 0) fl_X10_73 dX10_ahead_30 (by decide) ⟨rfl, rfl⟩ rfl rfl ?_
        refine j_iload_n C 2 dX10_ahead_33 rfl rfl ?_
        obtain ⟨r14, D15, h13, h⟩ := cbd_x h
        obtain ⟨g16, h⟩ := grd_x h
        refine j_callV C [.int a2] [] cl_X10_212 (M_X1_after (lv := lv - 1) hG (by omega) h13) (by omega) dX10_ahead_34 (by decide) ⟨rfl, rfl⟩ rfl rfl (Nat.le_of_ble_eq_true rfl) ?_
        refine j_st (st' := [.ref (ad G (6, r14, 0, 0))]) rfl ?_
        refine j_astore C [(4, .ref (ad G (6, r14, 0, 0))), (0, .ref (ad G (10, 0, 0, 0))), (1, .int a1), (2, .int a2), (3, .int a3)] dX10_ahead_37 (Nat.le_of_ble_eq_true rfl) rfl rfl ?_
        refine j_iload_n C 4 dX10_ahead_39 rfl rfl ?_
        by_cases c17 : a3 = (0 : Int32)
        · have h := ite_t c17 h
          refine j_tabIn C (off := 28) (0 : Int32) 68 dX10_ahead_40 c17 ⟨by decide, by decide⟩ (by decide +kernel) (by decide) ?_
          refine j_aload C 0 dX10_ahead_68 rfl ?_
          refine j_getS C (6, r14, 1, 0) fl_X10_126 dX10_ahead_70 g16 ⟨rfl, rfl⟩ rfl rfl ?_
          refine j_iload_n C 2 dX10_ahead_73 rfl rfl ?_
          obtain ⟨g18, h⟩ := grd_x h
          refine j_ialdK C 5 (a1.toNatClampNeg) dX10_ahead_74 (V_f 0 g16 (by decide)) rfl g18 rfl ?_
          obtain ⟨rfl, rfl⟩ := pr_x h
          exact j_iret C dX10_ahead_75
        have h := ite_f c17 h
        by_cases c19 : a3 = (1 : Int32)
        · have h := ite_t c19 h
          refine j_tabIn C (off := 36) (1 : Int32) 76 dX10_ahead_40 c19 ⟨by decide, by decide⟩ (by decide +kernel) (by decide) ?_
          refine j_aload C 0 dX10_ahead_76 rfl ?_
          refine j_getS C (6, r14, 2, 0) fl_X10_132 dX10_ahead_78 g16 ⟨rfl, rfl⟩ rfl rfl ?_
          refine j_iload_n C 2 dX10_ahead_81 rfl rfl ?_
          obtain ⟨g20, h⟩ := grd_x h
          refine j_ialdK C 5 (a1.toNatClampNeg) dX10_ahead_82 (V_f 1 g16 (by decide)) rfl g20 rfl ?_
          obtain ⟨rfl, rfl⟩ := pr_x h
          exact j_iret C dX10_ahead_83
        have h := ite_f c19 h
        by_cases c21 : a3 = (2 : Int32)
        · have h := ite_t c21 h
          refine j_tabIn C (off := 44) (2 : Int32) 84 dX10_ahead_40 c21 ⟨by decide, by decide⟩ (by decide +kernel) (by decide) ?_
          refine j_aload C 0 dX10_ahead_84 rfl ?_
          refine j_getS C (6, r14, 3, 0) fl_X10_135 dX10_ahead_86 g16 ⟨rfl, rfl⟩ rfl rfl ?_
          refine j_iload_n C 2 dX10_ahead_89 rfl rfl ?_
          obtain ⟨g22, h⟩ := grd_x h
          refine j_ialdK C 5 (a1.toNatClampNeg) dX10_ahead_90 (V_f 2 g16 (by decide)) rfl g22 rfl ?_
          obtain ⟨rfl, rfl⟩ := pr_x h
          exact j_iret C dX10_ahead_91
        have h := ite_f c21 h
        refine j_tabOut C 92 dX10_ahead_40 (by have z0 : a3.toInt ≠ 0 := ne_toInt c17; have z1 : a3.toInt ≠ 1 := ne_toInt c19; have z2 : a3.toInt ≠ 2 := ne_toInt c21; omega) (by decide) ?_
        refine j_aload C 0 dX10_ahead_92 rfl ?_
        refine j_getS C (6, r14, 4, 0) fl_X10_138 dX10_ahead_94 g16 ⟨rfl, rfl⟩ rfl rfl ?_
        refine j_iload_n C 2 dX10_ahead_97 rfl rfl ?_
        obtain ⟨g23, h⟩ := grd_x h
        refine j_ialdK C 5 (a1.toNatClampNeg) dX10_ahead_98 (V_f 3 g16 (by decide)) rfl g23 rfl ?_
        obtain ⟨rfl, rfl⟩ := pr_x h
        exact j_iret C dX10_ahead_99
      · have h := ite_t c12 h
        refine j_iconst C (-1 : Int32) (by decide) dX10_ahead_27 ?_
        obtain ⟨rfl, rfl⟩ := pr_x h
        exact j_iret C dX10_ahead_28
def F_X10_bare (a1 : Int32) (D : Dt) : Option (Int32 × Dt) := (cbd (F_X10_isLand a1 D) (fun r2 D3 => (if r2 = 0 then (some ((-1 : Int32), D3)) else (cbd (F_X1_firstBare a1 D3) (fun r6 D7 => (some (r6, D7)))))))
set_option maxRecDepth 100000 in
set_option maxHeartbeats 4000000 in
theorem M_X10_bare {l : Launch} {G : Gt} {A : Nat → Prop} {lv : Nat} {a1 : Int32} {D : Dt} {r : Int32} {D' : Dt} (hG : Gok G A) (hlv : 7 ≤ lv)  (h : F_X10_bare a1 D = some (r, D')) : MD l G A lv yX10_bare cX10_bare 2 (some .int) [.ref (ad G (10, 0, 0, 0)), .int a1] D (some (.int r)) D' := by
  unfold F_X10_bare at h
  refine md_start RX10 hG (by decide +kernel) rfl (Nat.le_of_ble_eq_true rfl) (L := [(0, .ref (ad G (10, 0, 0, 0))), (1, .int a1)]) rfl (fun X C => ?_)
  refine j_aload_n C 0 dX10_bare_0 rfl rfl ?_
  refine j_iload_n C 1 dX10_bare_1 rfl rfl ?_
  obtain ⟨r2, D3, h1, h⟩ := cbd_x h
  refine j_callV C [.int a1] [] cl_X10_118 (M_X10_isLand (lv := lv - 1) hG (by omega) h1) (by omega) dX10_bare_2 (by decide) ⟨rfl, rfl⟩ rfl rfl (Nat.le_of_ble_eq_true rfl) ?_
  refine j_st (st' := [.int r2]) rfl ?_
  refine j_if_eq C 19 dX10_bare_5 (by decide) (fun c4 => ?_) (fun c4 => ?_)
  · have h := ite_t c4 h
    refine j_iconst C (-1 : Int32) (by decide) dX10_bare_19 ?_
    obtain ⟨rfl, rfl⟩ := pr_x h
    exact j_iret C dX10_bare_20
  · have h := ite_f c4 h
    refine j_aload_n C 0 dX10_bare_8 rfl rfl ?_
    refine j_getS C (1, 0, 0, 0) fl_X10_73 dX10_bare_9 (by decide) ⟨rfl, rfl⟩ rfl rfl ?_
    refine j_iload_n C 1 dX10_bare_12 rfl rfl ?_
    obtain ⟨r6, D7, h5, h⟩ := cbd_x h
    refine j_callV C [.int a1] [] cl_X10_216 (M_X1_firstBare (lv := lv - 1) hG (by omega) h5) (by omega) dX10_bare_13 (by decide) ⟨rfl, rfl⟩ rfl rfl (Nat.le_of_ble_eq_true rfl) ?_
    refine j_st (st' := [.int r6]) rfl ?_
    refine j_goto C 20 dX10_bare_16 (by decide) ?_
    obtain ⟨rfl, rfl⟩ := pr_x h
    exact j_iret C dX10_bare_20
def F_X10_row (a1 : Int32) (a2 : Int32) (a3 : Int32) (D : Dt) : Option (Int32 × Dt) := (cbd (F_X10_isLand a1 D) (fun r2 D3 => (if r2 = 0 then (some ((-3 : Int32), D3)) else (cbd (F_X10_within a2 (1 : Int32) (4 : Int32) D3) (fun r6 D7 => (if r6 = 0 then (some ((-3 : Int32), D7)) else (cbd (F_X10_within a3 (0 : Int32) (4 : Int32) D7) (fun r10 D11 => (if r10 = 0 then (some ((-3 : Int32), D11)) else (if a3 ≤ a2 then (vbd (F_X1_findRow a1 a2 D11) (fun D15 => (if a3 = 0 then (some ((D15.1 (1, 0, 0, 0) 11), D15)) else (grd (inB (a3 - (1 : Int32)) 4 = true) (some ((D15.1 (1, 0, 7, 0) ((a3 - (1 : Int32)).toNatClampNeg)), D15)))))) else (some ((-2 : Int32), D11))))))))))))
set_option maxRecDepth 100000 in
set_option maxHeartbeats 4000000 in
theorem M_X10_row {l : Launch} {G : Gt} {A : Nat → Prop} {lv : Nat} {a1 : Int32} {a2 : Int32} {a3 : Int32} {D : Dt} {r : Int32} {D' : Dt} (hG : Gok G A) (hlv : 48 ≤ lv)  (h : F_X10_row a1 a2 a3 D = some (r, D')) : MD l G A lv yX10_row cX10_row 4 (some .int) [.ref (ad G (10, 0, 0, 0)), .int a1, .int a2, .int a3] D (some (.int r)) D' := by
  unfold F_X10_row at h
  refine md_start RX10 hG (by decide +kernel) rfl (Nat.le_of_ble_eq_true rfl) (L := [(0, .ref (ad G (10, 0, 0, 0))), (1, .int a1), (2, .int a2), (3, .int a3)]) rfl (fun X C => ?_)
  refine j_aload_n C 0 dX10_row_0 rfl rfl ?_
  refine j_iload_n C 1 dX10_row_1 rfl rfl ?_
  obtain ⟨r2, D3, h1, h⟩ := cbd_x h
  refine j_callV C [.int a1] [] cl_X10_118 (M_X10_isLand (lv := lv - 1) hG (by omega) h1) (by omega) dX10_row_2 (by decide) ⟨rfl, rfl⟩ rfl rfl (Nat.le_of_ble_eq_true rfl) ?_
  refine j_st (st' := [.int r2]) rfl ?_
  refine j_if_eq C 26 dX10_row_5 (by decide) (fun c4 => ?_) (fun c4 => ?_)
  · have h := ite_t c4 h
    refine j_bipush C (-3 : Int32) (by decide) dX10_row_26 ?_
    obtain ⟨rfl, rfl⟩ := pr_x h
    exact j_iret C dX10_row_28
  · have h := ite_f c4 h
    refine j_iload_n C 2 dX10_row_8 rfl rfl ?_
    refine j_iconst C (1 : Int32) (by decide) dX10_row_9 ?_
    refine j_iconst C (4 : Int32) (by decide) dX10_row_10 ?_
    obtain ⟨r6, D7, h5, h⟩ := cbd_x h
    refine j_callS C [.int a2, .int (1 : Int32), .int (4 : Int32)] [] cl_X10_85 (M_X10_within (lv := lv - 1) hG (by omega) h5) (by omega) dX10_row_11 rfl rfl (Nat.le_of_ble_eq_true rfl) ?_
    refine j_st (st' := [.int r6]) rfl ?_
    refine j_if_eq C 26 dX10_row_14 (by decide) (fun c8 => ?_) (fun c8 => ?_)
    · have h := ite_t c8 h
      refine j_bipush C (-3 : Int32) (by decide) dX10_row_26 ?_
      obtain ⟨rfl, rfl⟩ := pr_x h
      exact j_iret C dX10_row_28
    · have h := ite_f c8 h
      refine j_iload_n C 3 dX10_row_17 rfl rfl ?_
      refine j_iconst C (0 : Int32) (by decide) dX10_row_18 ?_
      refine j_iconst C (4 : Int32) (by decide) dX10_row_19 ?_
      obtain ⟨r10, D11, h9, h⟩ := cbd_x h
      refine j_callS C [.int a3, .int (0 : Int32), .int (4 : Int32)] [] cl_X10_85 (M_X10_within (lv := lv - 1) hG (by omega) h9) (by omega) dX10_row_20 rfl rfl (Nat.le_of_ble_eq_true rfl) ?_
      refine j_st (st' := [.int r10]) rfl ?_
      refine j_if_ne C 29 dX10_row_23 (by decide) (fun c12 => ?_) (fun c12 => ?_)
      · have h := ite_f c12 h
        refine j_iload_n C 3 dX10_row_29 rfl rfl ?_
        refine j_iload_n C 2 dX10_row_30 rfl rfl ?_
        refine j_icmp_le C 37 dX10_row_31 (by decide) (fun c13 => ?_) (fun c13 => ?_)
        · have h := ite_t c13 h
          refine j_aload_n C 0 dX10_row_37 rfl rfl ?_
          refine j_getS C (1, 0, 0, 0) fl_X10_73 dX10_row_38 (by decide) ⟨rfl, rfl⟩ rfl rfl ?_
          refine j_iload_n C 1 dX10_row_41 rfl rfl ?_
          refine j_iload_n C 2 dX10_row_42 rfl rfl ?_
          obtain ⟨D15, h14, h⟩ := vbd_x h
          refine j_callV C [.int a1, .int a2] [] cl_X10_219 (M_X1_findRow (lv := lv - 1) hG (by omega) h14) (by omega) dX10_row_43 (by decide) ⟨rfl, rfl⟩ rfl rfl (Nat.le_of_ble_eq_true rfl) ?_
          refine j_st (st' := []) rfl ?_
          refine j_iload_n C 3 dX10_row_46 rfl rfl ?_
          refine j_if_ne C 60 dX10_row_47 (by decide) (fun c16 => ?_) (fun c16 => ?_)
          · have h := ite_f c16 h
            refine j_aload_n C 0 dX10_row_60 rfl rfl ?_
            refine j_getS C (1, 0, 0, 0) fl_X10_73 dX10_row_61 (by decide) ⟨rfl, rfl⟩ rfl rfl ?_
            refine j_getS C (1, 0, 7, 0) fl_X10_225 dX10_row_64 (by decide) ⟨rfl, rfl⟩ rfl rfl ?_
            refine j_iload_n C 3 dX10_row_67 rfl rfl ?_
            refine j_iconst C (1 : Int32) (by decide) dX10_row_68 ?_
            refine j_isub C dX10_row_69 ?_
            obtain ⟨g17, h⟩ := grd_x h
            refine j_ialdK C 4 ((a3 - (1 : Int32)).toNatClampNeg) dX10_row_70 (V_f 6 (by decide) (by decide)) rfl g17 rfl ?_
            obtain ⟨rfl, rfl⟩ := pr_x h
            exact j_iret C dX10_row_71
          · have h := ite_t c16 h
            refine j_aload_n C 0 dX10_row_50 rfl rfl ?_
            refine j_getS C (1, 0, 0, 0) fl_X10_73 dX10_row_51 (by decide) ⟨rfl, rfl⟩ rfl rfl ?_
            refine j_getI C fl_X10_222 dX10_row_54 (by decide) ⟨rfl, rfl⟩ rfl ?_
            refine j_goto C 71 dX10_row_57 (by decide) ?_
            obtain ⟨rfl, rfl⟩ := pr_x h
            exact j_iret C dX10_row_71
        · have h := ite_f c13 h
          refine j_bipush C (-2 : Int32) (by decide) dX10_row_34 ?_
          obtain ⟨rfl, rfl⟩ := pr_x h
          exact j_iret C dX10_row_36
      · have h := ite_t c12 h
        refine j_bipush C (-3 : Int32) (by decide) dX10_row_26 ?_
        obtain ⟨rfl, rfl⟩ := pr_x h
        exact j_iret C dX10_row_28
def F_X10_isSpan (a1 : Int32) (D : Dt) : Option (Int32 × Dt) := (if (D.1 (5, 0, 0, 0) 0) = 0 then (some ((0 : Int32), D)) else (cbd (F_X10_within a1 (1 : Int32) (60 : Int32) D) (fun r3 D4 => (if r3 = 0 then (some ((0 : Int32), D4)) else (some ((1 : Int32), D4))))))
set_option maxRecDepth 100000 in
set_option maxHeartbeats 4000000 in
theorem M_X10_isSpan {l : Launch} {G : Gt} {A : Nat → Prop} {lv : Nat} {a1 : Int32} {D : Dt} {r : Int32} {D' : Dt} (hG : Gok G A) (hlv : 2 ≤ lv)  (h : F_X10_isSpan a1 D = some (r, D')) : MD l G A lv yX10_isSpan cX10_isSpan 2 (some .boolean) [.ref (ad G (10, 0, 0, 0)), .int a1] D (some (.int r)) D' := by
  unfold F_X10_isSpan at h
  refine md_start RX10 hG (by decide +kernel) rfl (Nat.le_of_ble_eq_true rfl) (L := [(0, .ref (ad G (10, 0, 0, 0))), (1, .int a1)]) rfl (fun X C => ?_)
  refine j_aload_n C 0 dX10_isSpan_0 rfl rfl ?_
  refine j_getS C (9, 0, 0, 0) fl_X10_49 dX10_isSpan_1 (by decide) ⟨rfl, rfl⟩ rfl rfl ?_
  refine j_getS C (5, 0, 0, 0) fl_X10_103 dX10_isSpan_4 (by decide) ⟨rfl, rfl⟩ rfl rfl ?_
  refine j_getI C fl_X10_152 dX10_isSpan_7 (V_95 (by decide)) ⟨rfl, rfl⟩ rfl ?_
  refine j_if_eq C 27 dX10_isSpan_10 (by decide) (fun c1 => ?_) (fun c1 => ?_)
  · have h := ite_t c1 h
    refine j_iconst C (0 : Int32) (by decide) dX10_isSpan_27 ?_
    obtain ⟨rfl, rfl⟩ := pr_x h
    exact j_zret C (Or.inl rfl) dX10_isSpan_28
  · have h := ite_f c1 h
    refine j_iload_n C 1 dX10_isSpan_13 rfl rfl ?_
    refine j_iconst C (1 : Int32) (by decide) dX10_isSpan_14 ?_
    refine j_bipush C (60 : Int32) (by decide) dX10_isSpan_15 ?_
    obtain ⟨r3, D4, h2, h⟩ := cbd_x h
    refine j_callS C [.int a1, .int (1 : Int32), .int (60 : Int32)] [] cl_X10_85 (M_X10_within (lv := lv - 1) hG (by omega) h2) (by omega) dX10_isSpan_17 rfl rfl (Nat.le_of_ble_eq_true rfl) ?_
    refine j_st (st' := [.int r3]) rfl ?_
    refine j_if_eq C 27 dX10_isSpan_20 (by decide) (fun c5 => ?_) (fun c5 => ?_)
    · have h := ite_t c5 h
      refine j_iconst C (0 : Int32) (by decide) dX10_isSpan_27 ?_
      obtain ⟨rfl, rfl⟩ := pr_x h
      exact j_zret C (Or.inl rfl) dX10_isSpan_28
    · have h := ite_f c5 h
      refine j_iconst C (1 : Int32) (by decide) dX10_isSpan_23 ?_
      refine j_goto C 28 dX10_isSpan_24 (by decide) ?_
      obtain ⟨rfl, rfl⟩ := pr_x h
      exact j_zret C (Or.inr rfl) dX10_isSpan_28
def F_X10_best (a1 : Int32) (a2 : Int32) (D : Dt) : Option (Int32 × Dt) := (cbd (F_X10_isSpan a1 D) (fun r2 D3 => (if r2 = 0 then (some ((-1 : Int32), D3)) else (cbd (F_X10_within a2 (0 : Int32) (1 : Int32) D3) (fun r6 D7 => (if r6 = 0 then (some ((-1 : Int32), D7)) else (vbd (F_X1_findRate a1 D7) (fun D10 => (if a2 = 0 then (some ((D10.1 (1, 0, 0, 0) 10), D10)) else (some ((D10.1 (1, 0, 0, 0) 11), D10)))))))))))
set_option maxRecDepth 100000 in
set_option maxHeartbeats 4000000 in
theorem M_X10_best {l : Launch} {G : Gt} {A : Nat → Prop} {lv : Nat} {a1 : Int32} {a2 : Int32} {D : Dt} {r : Int32} {D' : Dt} (hG : Gok G A) (hlv : 8 ≤ lv)  (h : F_X10_best a1 a2 D = some (r, D')) : MD l G A lv yX10_best cX10_best 3 (some .int) [.ref (ad G (10, 0, 0, 0)), .int a1, .int a2] D (some (.int r)) D' := by
  unfold F_X10_best at h
  refine md_start RX10 hG (by decide +kernel) rfl (Nat.le_of_ble_eq_true rfl) (L := [(0, .ref (ad G (10, 0, 0, 0))), (1, .int a1), (2, .int a2)]) rfl (fun X C => ?_)
  refine j_aload_n C 0 dX10_best_0 rfl rfl ?_
  refine j_iload_n C 1 dX10_best_1 rfl rfl ?_
  obtain ⟨r2, D3, h1, h⟩ := cbd_x h
  refine j_callV C [.int a1] [] cl_X10_228 (M_X10_isSpan (lv := lv - 1) hG (by omega) h1) (by omega) dX10_best_2 (by decide) ⟨rfl, rfl⟩ rfl rfl (Nat.le_of_ble_eq_true rfl) ?_
  refine j_st (st' := [.int r2]) rfl ?_
  refine j_if_eq C 17 dX10_best_5 (by decide) (fun c4 => ?_) (fun c4 => ?_)
  · have h := ite_t c4 h
    refine j_iconst C (-1 : Int32) (by decide) dX10_best_17 ?_
    obtain ⟨rfl, rfl⟩ := pr_x h
    exact j_iret C dX10_best_18
  · have h := ite_f c4 h
    refine j_iload_n C 2 dX10_best_8 rfl rfl ?_
    refine j_iconst C (0 : Int32) (by decide) dX10_best_9 ?_
    refine j_iconst C (1 : Int32) (by decide) dX10_best_10 ?_
    obtain ⟨r6, D7, h5, h⟩ := cbd_x h
    refine j_callS C [.int a2, .int (0 : Int32), .int (1 : Int32)] [] cl_X10_85 (M_X10_within (lv := lv - 1) hG (by omega) h5) (by omega) dX10_best_11 rfl rfl (Nat.le_of_ble_eq_true rfl) ?_
    refine j_st (st' := [.int r6]) rfl ?_
    refine j_if_ne C 19 dX10_best_14 (by decide) (fun c8 => ?_) (fun c8 => ?_)
    · have h := ite_f c8 h
      refine j_aload_n C 0 dX10_best_19 rfl rfl ?_
      refine j_getS C (1, 0, 0, 0) fl_X10_73 dX10_best_20 (by decide) ⟨rfl, rfl⟩ rfl rfl ?_
      refine j_iload_n C 1 dX10_best_23 rfl rfl ?_
      obtain ⟨D10, h9, h⟩ := vbd_x h
      refine j_callV C [.int a1] [] cl_X10_231 (M_X1_findRate (lv := lv - 1) hG (by omega) h9) (by omega) dX10_best_24 (by decide) ⟨rfl, rfl⟩ rfl rfl (Nat.le_of_ble_eq_true rfl) ?_
      refine j_st (st' := []) rfl ?_
      refine j_iload_n C 2 dX10_best_27 rfl rfl ?_
      refine j_if_ne C 41 dX10_best_28 (by decide) (fun c11 => ?_) (fun c11 => ?_)
      · have h := ite_f c11 h
        refine j_aload_n C 0 dX10_best_41 rfl rfl ?_
        refine j_getS C (1, 0, 0, 0) fl_X10_73 dX10_best_42 (by decide) ⟨rfl, rfl⟩ rfl rfl ?_
        refine j_getI C fl_X10_222 dX10_best_45 (by decide) ⟨rfl, rfl⟩ rfl ?_
        obtain ⟨rfl, rfl⟩ := pr_x h
        exact j_iret C dX10_best_48
      · have h := ite_t c11 h
        refine j_aload_n C 0 dX10_best_31 rfl rfl ?_
        refine j_getS C (1, 0, 0, 0) fl_X10_73 dX10_best_32 (by decide) ⟨rfl, rfl⟩ rfl rfl ?_
        refine j_getI C fl_X10_234 dX10_best_35 (by decide) ⟨rfl, rfl⟩ rfl ?_
        refine j_goto C 48 dX10_best_38 (by decide) ?_
        obtain ⟨rfl, rfl⟩ := pr_x h
        exact j_iret C dX10_best_48
    · have h := ite_t c8 h
      refine j_iconst C (-1 : Int32) (by decide) dX10_best_17 ?_
      obtain ⟨rfl, rfl⟩ := pr_x h
      exact j_iret C dX10_best_18
def F_X10_quiet  (D : Dt) : Option (Int32 × Dt) := (if (D.1 (5, 0, 0, 0) 0) = 0 then (some ((-1 : Int32), D)) else (cbd (F_X1_firstQuiet  D) (fun r3 D4 => (some (r3, D4)))))
set_option maxRecDepth 100000 in
set_option maxHeartbeats 4000000 in
theorem M_X10_quiet {l : Launch} {G : Gt} {A : Nat → Prop} {lv : Nat}  {D : Dt} {r : Int32} {D' : Dt} (hG : Gok G A) (hlv : 7 ≤ lv)  (h : F_X10_quiet  D = some (r, D')) : MD l G A lv yX10_quiet cX10_quiet 1 (some .int) [.ref (ad G (10, 0, 0, 0))] D (some (.int r)) D' := by
  unfold F_X10_quiet at h
  refine md_start RX10 hG (by decide +kernel) rfl (Nat.le_of_ble_eq_true rfl) (L := [(0, .ref (ad G (10, 0, 0, 0)))]) rfl (fun X C => ?_)
  refine j_aload_n C 0 dX10_quiet_0 rfl rfl ?_
  refine j_getS C (9, 0, 0, 0) fl_X10_49 dX10_quiet_1 (by decide) ⟨rfl, rfl⟩ rfl rfl ?_
  refine j_getS C (5, 0, 0, 0) fl_X10_103 dX10_quiet_4 (by decide) ⟨rfl, rfl⟩ rfl rfl ?_
  refine j_getI C fl_X10_152 dX10_quiet_7 (V_95 (by decide)) ⟨rfl, rfl⟩ rfl ?_
  refine j_if_eq C 23 dX10_quiet_10 (by decide) (fun c1 => ?_) (fun c1 => ?_)
  · have h := ite_t c1 h
    refine j_iconst C (-1 : Int32) (by decide) dX10_quiet_23 ?_
    obtain ⟨rfl, rfl⟩ := pr_x h
    exact j_iret C dX10_quiet_24
  · have h := ite_f c1 h
    refine j_aload_n C 0 dX10_quiet_13 rfl rfl ?_
    refine j_getS C (1, 0, 0, 0) fl_X10_73 dX10_quiet_14 (by decide) ⟨rfl, rfl⟩ rfl rfl ?_
    obtain ⟨r3, D4, h2, h⟩ := cbd_x h
    refine j_callV C [] [] cl_X10_237 (M_X1_firstQuiet (lv := lv - 1) hG (by omega) h2) (by omega) dX10_quiet_17 (by decide) ⟨rfl, rfl⟩ rfl rfl (Nat.le_of_ble_eq_true rfl) ?_
    refine j_st (st' := [.int r3]) rfl ?_
    refine j_goto C 24 dX10_quiet_20 (by decide) ?_
    obtain ⟨rfl, rfl⟩ := pr_x h
    exact j_iret C dX10_quiet_24
def F_X10_worth (a1 : Int32) (a2 : Int32) (a3 : Int32) (D : Dt) : Option (Int32 × Dt) := (cbd (F_X10_isLand a1 D) (fun r2 D3 => (if r2 = 0 then (some ((-100000 : Int32), D3)) else (cbd (F_X10_within a2 (1 : Int32) (99 : Int32) D3) (fun r6 D7 => (if r6 = 0 then (some ((-100000 : Int32), D7)) else (cbd (F_X10_isSpan a3 D7) (fun r10 D11 => (if r10 = 0 then (some ((-100000 : Int32), D11)) else (cbd (F_X1_worthOf a1 a2 a3 D11) (fun r14 D15 => (some (r14, D15)))))))))))))
set_option maxRecDepth 100000 in
set_option maxHeartbeats 4000000 in
theorem M_X10_worth {l : Launch} {G : Gt} {A : Nat → Prop} {lv : Nat} {a1 : Int32} {a2 : Int32} {a3 : Int32} {D : Dt} {r : Int32} {D' : Dt} (hG : Gok G A) (hlv : 8 ≤ lv)  (h : F_X10_worth a1 a2 a3 D = some (r, D')) : MD l G A lv yX10_worth cX10_worth 4 (some .int) [.ref (ad G (10, 0, 0, 0)), .int a1, .int a2, .int a3] D (some (.int r)) D' := by
  unfold F_X10_worth at h
  refine md_start RX10 hG (by decide +kernel) rfl (Nat.le_of_ble_eq_true rfl) (L := [(0, .ref (ad G (10, 0, 0, 0))), (1, .int a1), (2, .int a2), (3, .int a3)]) rfl (fun X C => ?_)
  refine j_aload_n C 0 dX10_worth_0 rfl rfl ?_
  refine j_iload_n C 1 dX10_worth_1 rfl rfl ?_
  obtain ⟨r2, D3, h1, h⟩ := cbd_x h
  refine j_callV C [.int a1] [] cl_X10_118 (M_X10_isLand (lv := lv - 1) hG (by omega) h1) (by omega) dX10_worth_2 (by decide) ⟨rfl, rfl⟩ rfl rfl (Nat.le_of_ble_eq_true rfl) ?_
  refine j_st (st' := [.int r2]) rfl ?_
  refine j_if_eq C 26 dX10_worth_5 (by decide) (fun c4 => ?_) (fun c4 => ?_)
  · have h := ite_t c4 h
    refine j_ldc C (-100000 : Int32) kc_X10_241 dX10_worth_26 ?_
    obtain ⟨rfl, rfl⟩ := pr_x h
    exact j_iret C dX10_worth_28
  · have h := ite_f c4 h
    refine j_iload_n C 2 dX10_worth_8 rfl rfl ?_
    refine j_iconst C (1 : Int32) (by decide) dX10_worth_9 ?_
    refine j_bipush C (99 : Int32) (by decide) dX10_worth_10 ?_
    obtain ⟨r6, D7, h5, h⟩ := cbd_x h
    refine j_callS C [.int a2, .int (1 : Int32), .int (99 : Int32)] [] cl_X10_85 (M_X10_within (lv := lv - 1) hG (by omega) h5) (by omega) dX10_worth_12 rfl rfl (Nat.le_of_ble_eq_true rfl) ?_
    refine j_st (st' := [.int r6]) rfl ?_
    refine j_if_eq C 26 dX10_worth_15 (by decide) (fun c8 => ?_) (fun c8 => ?_)
    · have h := ite_t c8 h
      refine j_ldc C (-100000 : Int32) kc_X10_241 dX10_worth_26 ?_
      obtain ⟨rfl, rfl⟩ := pr_x h
      exact j_iret C dX10_worth_28
    · have h := ite_f c8 h
      refine j_aload_n C 0 dX10_worth_18 rfl rfl ?_
      refine j_iload_n C 3 dX10_worth_19 rfl rfl ?_
      obtain ⟨r10, D11, h9, h⟩ := cbd_x h
      refine j_callV C [.int a3] [] cl_X10_228 (M_X10_isSpan (lv := lv - 1) hG (by omega) h9) (by omega) dX10_worth_20 (by decide) ⟨rfl, rfl⟩ rfl rfl (Nat.le_of_ble_eq_true rfl) ?_
      refine j_st (st' := [.int r10]) rfl ?_
      refine j_if_ne C 29 dX10_worth_23 (by decide) (fun c12 => ?_) (fun c12 => ?_)
      · have h := ite_f c12 h
        refine j_aload_n C 0 dX10_worth_29 rfl rfl ?_
        refine j_getS C (1, 0, 0, 0) fl_X10_73 dX10_worth_30 (by decide) ⟨rfl, rfl⟩ rfl rfl ?_
        refine j_iload_n C 1 dX10_worth_33 rfl rfl ?_
        refine j_iload_n C 2 dX10_worth_34 rfl rfl ?_
        refine j_iload_n C 3 dX10_worth_35 rfl rfl ?_
        obtain ⟨r14, D15, h13, h⟩ := cbd_x h
        refine j_callV C [.int a1, .int a2, .int a3] [] cl_X10_242 (M_X1_worthOf (lv := lv - 1) hG (by omega) h13) (by omega) dX10_worth_36 (by decide) ⟨rfl, rfl⟩ rfl rfl (Nat.le_of_ble_eq_true rfl) ?_
        refine j_st (st' := [.int r14]) rfl ?_
        obtain ⟨rfl, rfl⟩ := pr_x h
        exact j_iret C dX10_worth_39
      · have h := ite_t c12 h
        refine j_ldc C (-100000 : Int32) kc_X10_241 dX10_worth_26 ?_
        obtain ⟨rfl, rfl⟩ := pr_x h
        exact j_iret C dX10_worth_28
def F_X10_need (a1 : Int32) (a2 : Int32) (a3 : Int32) (D : Dt) : Option (Int32 × Dt) := (cbd (F_X10_isLand a1 D) (fun r2 D3 => (if r2 = 0 then (some ((-1 : Int32), D3)) else (cbd (F_X10_within a2 (1 : Int32) (9999 : Int32) D3) (fun r6 D7 => (if r6 = 0 then (some ((-1 : Int32), D7)) else (cbd (F_X10_isSpan a3 D7) (fun r10 D11 => (if r10 = 0 then (some ((-1 : Int32), D11)) else (cbd (F_X1_leastSun a1 a2 a3 D11) (fun r14 D15 => (some (r14, D15)))))))))))))
set_option maxRecDepth 100000 in
set_option maxHeartbeats 4000000 in
theorem M_X10_need {l : Launch} {G : Gt} {A : Nat → Prop} {lv : Nat} {a1 : Int32} {a2 : Int32} {a3 : Int32} {D : Dt} {r : Int32} {D' : Dt} (hG : Gok G A) (hlv : 8 ≤ lv)  (h : F_X10_need a1 a2 a3 D = some (r, D')) : MD l G A lv yX10_need cX10_need 4 (some .int) [.ref (ad G (10, 0, 0, 0)), .int a1, .int a2, .int a3] D (some (.int r)) D' := by
  unfold F_X10_need at h
  refine md_start RX10 hG (by decide +kernel) rfl (Nat.le_of_ble_eq_true rfl) (L := [(0, .ref (ad G (10, 0, 0, 0))), (1, .int a1), (2, .int a2), (3, .int a3)]) rfl (fun X C => ?_)
  refine j_aload_n C 0 dX10_need_0 rfl rfl ?_
  refine j_iload_n C 1 dX10_need_1 rfl rfl ?_
  obtain ⟨r2, D3, h1, h⟩ := cbd_x h
  refine j_callV C [.int a1] [] cl_X10_118 (M_X10_isLand (lv := lv - 1) hG (by omega) h1) (by omega) dX10_need_2 (by decide) ⟨rfl, rfl⟩ rfl rfl (Nat.le_of_ble_eq_true rfl) ?_
  refine j_st (st' := [.int r2]) rfl ?_
  refine j_if_eq C 27 dX10_need_5 (by decide) (fun c4 => ?_) (fun c4 => ?_)
  · have h := ite_t c4 h
    refine j_iconst C (-1 : Int32) (by decide) dX10_need_27 ?_
    obtain ⟨rfl, rfl⟩ := pr_x h
    exact j_iret C dX10_need_28
  · have h := ite_f c4 h
    refine j_iload_n C 2 dX10_need_8 rfl rfl ?_
    refine j_iconst C (1 : Int32) (by decide) dX10_need_9 ?_
    refine j_sipush C (9999 : Int32) (by decide) dX10_need_10 ?_
    obtain ⟨r6, D7, h5, h⟩ := cbd_x h
    refine j_callS C [.int a2, .int (1 : Int32), .int (9999 : Int32)] [] cl_X10_85 (M_X10_within (lv := lv - 1) hG (by omega) h5) (by omega) dX10_need_13 rfl rfl (Nat.le_of_ble_eq_true rfl) ?_
    refine j_st (st' := [.int r6]) rfl ?_
    refine j_if_eq C 27 dX10_need_16 (by decide) (fun c8 => ?_) (fun c8 => ?_)
    · have h := ite_t c8 h
      refine j_iconst C (-1 : Int32) (by decide) dX10_need_27 ?_
      obtain ⟨rfl, rfl⟩ := pr_x h
      exact j_iret C dX10_need_28
    · have h := ite_f c8 h
      refine j_aload_n C 0 dX10_need_19 rfl rfl ?_
      refine j_iload_n C 3 dX10_need_20 rfl rfl ?_
      obtain ⟨r10, D11, h9, h⟩ := cbd_x h
      refine j_callV C [.int a3] [] cl_X10_228 (M_X10_isSpan (lv := lv - 1) hG (by omega) h9) (by omega) dX10_need_21 (by decide) ⟨rfl, rfl⟩ rfl rfl (Nat.le_of_ble_eq_true rfl) ?_
      refine j_st (st' := [.int r10]) rfl ?_
      refine j_if_ne C 29 dX10_need_24 (by decide) (fun c12 => ?_) (fun c12 => ?_)
      · have h := ite_f c12 h
        refine j_aload_n C 0 dX10_need_29 rfl rfl ?_
        refine j_getS C (1, 0, 0, 0) fl_X10_73 dX10_need_30 (by decide) ⟨rfl, rfl⟩ rfl rfl ?_
        refine j_iload_n C 1 dX10_need_33 rfl rfl ?_
        refine j_iload_n C 2 dX10_need_34 rfl rfl ?_
        refine j_iload_n C 3 dX10_need_35 rfl rfl ?_
        obtain ⟨r14, D15, h13, h⟩ := cbd_x h
        refine j_callV C [.int a1, .int a2, .int a3] [] cl_X10_246 (M_X1_leastSun (lv := lv - 1) hG (by omega) h13) (by omega) dX10_need_36 (by decide) ⟨rfl, rfl⟩ rfl rfl (Nat.le_of_ble_eq_true rfl) ?_
        refine j_st (st' := [.int r14]) rfl ?_
        obtain ⟨rfl, rfl⟩ := pr_x h
        exact j_iret C dX10_need_39
      · have h := ite_t c12 h
        refine j_iconst C (-1 : Int32) (by decide) dX10_need_27 ?_
        obtain ⟨rfl, rfl⟩ := pr_x h
        exact j_iret C dX10_need_28
def F_X10_game (a1 : Int32) (a2 : Int32) (a3 : Int32) (a4 : Int32) (D : Dt) : Option (Int32 × Dt) := (cbd (F_X10_areTwo a1 a2 D) (fun r2 D3 => (if r2 = 0 then (some ((-100000 : Int32), D3)) else (cbd (F_X10_within a3 (1 : Int32) (4 : Int32) D3) (fun r6 D7 => (if r6 = 0 then (some ((-100000 : Int32), D7)) else (cbd (F_X10_within a4 (0 : Int32) (1 : Int32) D7) (fun r10 D11 => (if r10 = 0 then (some ((-100000 : Int32), D11)) else (vbd (F_X1_play a1 a2 a3 D11) (fun D14 => (if a4 = 0 then (some ((D14.1 (1, 0, 0, 0) 11), D14)) else (some ((D14.1 (1, 0, 0, 0) 10), D14))))))))))))))
set_option maxRecDepth 100000 in
set_option maxHeartbeats 4000000 in
theorem M_X10_game {l : Launch} {G : Gt} {A : Nat → Prop} {lv : Nat} {a1 : Int32} {a2 : Int32} {a3 : Int32} {a4 : Int32} {D : Dt} {r : Int32} {D' : Dt} (hG : Gok G A) (hlv : 48 ≤ lv)  (h : F_X10_game a1 a2 a3 a4 D = some (r, D')) : MD l G A lv yX10_game cX10_game 5 (some .int) [.ref (ad G (10, 0, 0, 0)), .int a1, .int a2, .int a3, .int a4] D (some (.int r)) D' := by
  unfold F_X10_game at h
  refine md_start RX10 hG (by decide +kernel) rfl (Nat.le_of_ble_eq_true rfl) (L := [(0, .ref (ad G (10, 0, 0, 0))), (1, .int a1), (2, .int a2), (3, .int a3), (4, .int a4)]) rfl (fun X C => ?_)
  refine j_aload_n C 0 dX10_game_0 rfl rfl ?_
  refine j_iload_n C 1 dX10_game_1 rfl rfl ?_
  refine j_iload_n C 2 dX10_game_2 rfl rfl ?_
  obtain ⟨r2, D3, h1, h⟩ := cbd_x h
  refine j_callV C [.int a1, .int a2] [] cl_X10_181 (M_X10_areTwo (lv := lv - 1) hG (by omega) h1) (by omega) dX10_game_3 (by decide) ⟨rfl, rfl⟩ rfl rfl (Nat.le_of_ble_eq_true rfl) ?_
  refine j_st (st' := [.int r2]) rfl ?_
  refine j_if_eq C 28 dX10_game_6 (by decide) (fun c4 => ?_) (fun c4 => ?_)
  · have h := ite_t c4 h
    refine j_ldc C (-100000 : Int32) kc_X10_241 dX10_game_28 ?_
    obtain ⟨rfl, rfl⟩ := pr_x h
    exact j_iret C dX10_game_30
  · have h := ite_f c4 h
    refine j_iload_n C 3 dX10_game_9 rfl rfl ?_
    refine j_iconst C (1 : Int32) (by decide) dX10_game_10 ?_
    refine j_iconst C (4 : Int32) (by decide) dX10_game_11 ?_
    obtain ⟨r6, D7, h5, h⟩ := cbd_x h
    refine j_callS C [.int a3, .int (1 : Int32), .int (4 : Int32)] [] cl_X10_85 (M_X10_within (lv := lv - 1) hG (by omega) h5) (by omega) dX10_game_12 rfl rfl (Nat.le_of_ble_eq_true rfl) ?_
    refine j_st (st' := [.int r6]) rfl ?_
    refine j_if_eq C 28 dX10_game_15 (by decide) (fun c8 => ?_) (fun c8 => ?_)
    · have h := ite_t c8 h
      refine j_ldc C (-100000 : Int32) kc_X10_241 dX10_game_28 ?_
      obtain ⟨rfl, rfl⟩ := pr_x h
      exact j_iret C dX10_game_30
    · have h := ite_f c8 h
      refine j_iload C 4 dX10_game_18 rfl ?_
      refine j_iconst C (0 : Int32) (by decide) dX10_game_20 ?_
      refine j_iconst C (1 : Int32) (by decide) dX10_game_21 ?_
      obtain ⟨r10, D11, h9, h⟩ := cbd_x h
      refine j_callS C [.int a4, .int (0 : Int32), .int (1 : Int32)] [] cl_X10_85 (M_X10_within (lv := lv - 1) hG (by omega) h9) (by omega) dX10_game_22 rfl rfl (Nat.le_of_ble_eq_true rfl) ?_
      refine j_st (st' := [.int r10]) rfl ?_
      refine j_if_ne C 31 dX10_game_25 (by decide) (fun c12 => ?_) (fun c12 => ?_)
      · have h := ite_f c12 h
        refine j_aload_n C 0 dX10_game_31 rfl rfl ?_
        refine j_getS C (1, 0, 0, 0) fl_X10_73 dX10_game_32 (by decide) ⟨rfl, rfl⟩ rfl rfl ?_
        refine j_iload_n C 1 dX10_game_35 rfl rfl ?_
        refine j_iload_n C 2 dX10_game_36 rfl rfl ?_
        refine j_iload_n C 3 dX10_game_37 rfl rfl ?_
        obtain ⟨D14, h13, h⟩ := vbd_x h
        refine j_callV C [.int a1, .int a2, .int a3] [] cl_X10_249 (M_X1_play (lv := lv - 1) hG (by omega) h13) (by omega) dX10_game_38 (by decide) ⟨rfl, rfl⟩ rfl rfl (Nat.le_of_ble_eq_true rfl) ?_
        refine j_st (st' := []) rfl ?_
        refine j_iload C 4 dX10_game_41 rfl ?_
        refine j_if_ne C 56 dX10_game_43 (by decide) (fun c15 => ?_) (fun c15 => ?_)
        · have h := ite_f c15 h
          refine j_aload_n C 0 dX10_game_56 rfl rfl ?_
          refine j_getS C (1, 0, 0, 0) fl_X10_73 dX10_game_57 (by decide) ⟨rfl, rfl⟩ rfl rfl ?_
          refine j_getI C fl_X10_234 dX10_game_60 (by decide) ⟨rfl, rfl⟩ rfl ?_
          obtain ⟨rfl, rfl⟩ := pr_x h
          exact j_iret C dX10_game_63
        · have h := ite_t c15 h
          refine j_aload_n C 0 dX10_game_46 rfl rfl ?_
          refine j_getS C (1, 0, 0, 0) fl_X10_73 dX10_game_47 (by decide) ⟨rfl, rfl⟩ rfl rfl ?_
          refine j_getI C fl_X10_222 dX10_game_50 (by decide) ⟨rfl, rfl⟩ rfl ?_
          refine j_goto C 63 dX10_game_53 (by decide) ?_
          obtain ⟨rfl, rfl⟩ := pr_x h
          exact j_iret C dX10_game_63
      · have h := ite_t c12 h
        refine j_ldc C (-100000 : Int32) kc_X10_241 dX10_game_28 ?_
        obtain ⟨rfl, rfl⟩ := pr_x h
        exact j_iret C dX10_game_30
def F_X10_shun (a1 : Int32) (a2 : Int32) (D : Dt) : Option (Int32 × Dt) := (cbd (F_X10_isSpan a1 D) (fun r2 D3 => (if r2 = 0 then (some ((-1 : Int32), D3)) else (cbd (F_X10_within a2 (0 : Int32) (2 : Int32) D3) (fun r6 D7 => (if r6 = 0 then (some ((-1 : Int32), D7)) else (vbd (F_X1_findShunned a1 D7) (fun D10 => (if a2 = (0 : Int32) then (cbd (F_J6_bitCount_0f7a4 (D10.1 (1, 0, 0, 0) 10) D10) (fun r13 D14 => (some (r13, D14)))) else if a2 = (1 : Int32) then (some ((D10.1 (1, 0, 0, 0) 10), D10)) else (some ((D10.1 (1, 0, 0, 0) 11), D10)))))))))))
set_option maxRecDepth 100000 in
set_option maxHeartbeats 4000000 in
theorem M_X10_shun {l : Launch} {G : Gt} {A : Nat → Prop} {lv : Nat} {a1 : Int32} {a2 : Int32} {D : Dt} {r : Int32} {D' : Dt} (hG : Gok G A) (hlv : 8 ≤ lv)  (h : F_X10_shun a1 a2 D = some (r, D')) : MD l G A lv yX10_shun cX10_shun 3 (some .int) [.ref (ad G (10, 0, 0, 0)), .int a1, .int a2] D (some (.int r)) D' := by
  unfold F_X10_shun at h
  refine md_start RX10 hG (by decide +kernel) rfl (Nat.le_of_ble_eq_true rfl) (L := [(0, .ref (ad G (10, 0, 0, 0))), (1, .int a1), (2, .int a2)]) rfl (fun X C => ?_)
  refine j_aload_n C 0 dX10_shun_0 rfl rfl ?_
  refine j_iload_n C 1 dX10_shun_1 rfl rfl ?_
  obtain ⟨r2, D3, h1, h⟩ := cbd_x h
  refine j_callV C [.int a1] [] cl_X10_228 (M_X10_isSpan (lv := lv - 1) hG (by omega) h1) (by omega) dX10_shun_2 (by decide) ⟨rfl, rfl⟩ rfl rfl (Nat.le_of_ble_eq_true rfl) ?_
  refine j_st (st' := [.int r2]) rfl ?_
  refine j_if_eq C 17 dX10_shun_5 (by decide) (fun c4 => ?_) (fun c4 => ?_)
  · have h := ite_t c4 h
    refine j_iconst C (-1 : Int32) (by decide) dX10_shun_17 ?_
    obtain ⟨rfl, rfl⟩ := pr_x h
    exact j_iret C dX10_shun_18
  · have h := ite_f c4 h
    refine j_iload_n C 2 dX10_shun_8 rfl rfl ?_
    refine j_iconst C (0 : Int32) (by decide) dX10_shun_9 ?_
    refine j_iconst C (2 : Int32) (by decide) dX10_shun_10 ?_
    obtain ⟨r6, D7, h5, h⟩ := cbd_x h
    refine j_callS C [.int a2, .int (0 : Int32), .int (2 : Int32)] [] cl_X10_85 (M_X10_within (lv := lv - 1) hG (by omega) h5) (by omega) dX10_shun_11 rfl rfl (Nat.le_of_ble_eq_true rfl) ?_
    refine j_st (st' := [.int r6]) rfl ?_
    refine j_if_ne C 19 dX10_shun_14 (by decide) (fun c8 => ?_) (fun c8 => ?_)
    · have h := ite_f c8 h
      refine j_aload_n C 0 dX10_shun_19 rfl rfl ?_
      refine j_getS C (1, 0, 0, 0) fl_X10_73 dX10_shun_20 (by decide) ⟨rfl, rfl⟩ rfl rfl ?_
      refine j_iload_n C 1 dX10_shun_23 rfl rfl ?_
      obtain ⟨D10, h9, h⟩ := vbd_x h
      refine j_callV C [.int a1] [] cl_X10_252 (M_X1_findShunned (lv := lv - 1) hG (by omega) h9) (by omega) dX10_shun_24 (by decide) ⟨rfl, rfl⟩ rfl rfl (Nat.le_of_ble_eq_true rfl) ?_
      refine j_st (st' := []) rfl ?_
      refine j_iload_n C 2 dX10_shun_27 rfl rfl ?_
      by_cases c11 : a2 = (0 : Int32)
      · have h := ite_t c11 h
        refine j_look C (off := 28) 56 dX10_shun_28 (by decide) (by rw [c11]; decide +kernel) (by decide) ?_
        refine j_aload_n C 0 dX10_shun_56 rfl rfl ?_
        refine j_getS C (1, 0, 0, 0) fl_X10_73 dX10_shun_57 (by decide) ⟨rfl, rfl⟩ rfl rfl ?_
        refine j_getI C fl_X10_234 dX10_shun_60 (by decide) ⟨rfl, rfl⟩ rfl ?_
        obtain ⟨r13, D14, h12, h⟩ := cbd_x h
        refine j_callS C [.int (D10.1 (1, 0, 0, 0) 10)] [] cl_X10_255 (M_J6_bitCount_0f7a4 (lv := lv - 1) hG (by omega) h12) (by omega) dX10_shun_63 rfl rfl (Nat.le_of_ble_eq_true rfl) ?_
        refine j_st (st' := [.int r13]) rfl ?_
        obtain ⟨rfl, rfl⟩ := pr_x h
        exact j_iret C dX10_shun_66
      have h := ite_f c11 h
      by_cases c15 : a2 = (1 : Int32)
      · have h := ite_t c15 h
        refine j_look C (off := 39) 67 dX10_shun_28 (by decide) (by rw [c15]; decide +kernel) (by decide) ?_
        refine j_aload_n C 0 dX10_shun_67 rfl rfl ?_
        refine j_getS C (1, 0, 0, 0) fl_X10_73 dX10_shun_68 (by decide) ⟨rfl, rfl⟩ rfl rfl ?_
        refine j_getI C fl_X10_234 dX10_shun_71 (by decide) ⟨rfl, rfl⟩ rfl ?_
        obtain ⟨rfl, rfl⟩ := pr_x h
        exact j_iret C dX10_shun_74
      have h := ite_f c15 h
      refine j_look C (off := 47) 75 dX10_shun_28 (by decide) (by show Op.lookupswitch.offset [(0, 28), (1, 39)] 47 _ = 47; rw [lv_osw c11 (by decide), lv_osw c15 (by decide)]; rfl) (by decide) ?_
      refine j_aload_n C 0 dX10_shun_75 rfl rfl ?_
      refine j_getS C (1, 0, 0, 0) fl_X10_73 dX10_shun_76 (by decide) ⟨rfl, rfl⟩ rfl rfl ?_
      refine j_getI C fl_X10_222 dX10_shun_79 (by decide) ⟨rfl, rfl⟩ rfl ?_
      obtain ⟨rfl, rfl⟩ := pr_x h
      exact j_iret C dX10_shun_82
    · have h := ite_t c8 h
      refine j_iconst C (-1 : Int32) (by decide) dX10_shun_17 ?_
      obtain ⟨rfl, rfl⟩ := pr_x h
      exact j_iret C dX10_shun_18
def F_X10_mother (a1 : Int32) (a2 : Int32) (D : Dt) : Option (Int32 × Dt) := (cbd (F_X10_isSpan a1 D) (fun r2 D3 => (if r2 = 0 then (some ((-2 : Int32), D3)) else (cbd (F_X10_within a2 (0 : Int32) (1 : Int32) D3) (fun r6 D7 => (if r6 = 0 then (some ((-2 : Int32), D7)) else (vbd (F_X1_findMothered a1 D7) (fun D10 => (if a2 = 0 then (some ((D10.1 (1, 0, 0, 0) 10), D10)) else (some ((D10.1 (1, 0, 0, 0) 11), D10)))))))))))
set_option maxRecDepth 100000 in
set_option maxHeartbeats 4000000 in
theorem M_X10_mother {l : Launch} {G : Gt} {A : Nat → Prop} {lv : Nat} {a1 : Int32} {a2 : Int32} {D : Dt} {r : Int32} {D' : Dt} (hG : Gok G A) (hlv : 8 ≤ lv)  (h : F_X10_mother a1 a2 D = some (r, D')) : MD l G A lv yX10_mother cX10_mother 3 (some .int) [.ref (ad G (10, 0, 0, 0)), .int a1, .int a2] D (some (.int r)) D' := by
  unfold F_X10_mother at h
  refine md_start RX10 hG (by decide +kernel) rfl (Nat.le_of_ble_eq_true rfl) (L := [(0, .ref (ad G (10, 0, 0, 0))), (1, .int a1), (2, .int a2)]) rfl (fun X C => ?_)
  refine j_aload_n C 0 dX10_mother_0 rfl rfl ?_
  refine j_iload_n C 1 dX10_mother_1 rfl rfl ?_
  obtain ⟨r2, D3, h1, h⟩ := cbd_x h
  refine j_callV C [.int a1] [] cl_X10_228 (M_X10_isSpan (lv := lv - 1) hG (by omega) h1) (by omega) dX10_mother_2 (by decide) ⟨rfl, rfl⟩ rfl rfl (Nat.le_of_ble_eq_true rfl) ?_
  refine j_st (st' := [.int r2]) rfl ?_
  refine j_if_eq C 17 dX10_mother_5 (by decide) (fun c4 => ?_) (fun c4 => ?_)
  · have h := ite_t c4 h
    refine j_bipush C (-2 : Int32) (by decide) dX10_mother_17 ?_
    obtain ⟨rfl, rfl⟩ := pr_x h
    exact j_iret C dX10_mother_19
  · have h := ite_f c4 h
    refine j_iload_n C 2 dX10_mother_8 rfl rfl ?_
    refine j_iconst C (0 : Int32) (by decide) dX10_mother_9 ?_
    refine j_iconst C (1 : Int32) (by decide) dX10_mother_10 ?_
    obtain ⟨r6, D7, h5, h⟩ := cbd_x h
    refine j_callS C [.int a2, .int (0 : Int32), .int (1 : Int32)] [] cl_X10_85 (M_X10_within (lv := lv - 1) hG (by omega) h5) (by omega) dX10_mother_11 rfl rfl (Nat.le_of_ble_eq_true rfl) ?_
    refine j_st (st' := [.int r6]) rfl ?_
    refine j_if_ne C 20 dX10_mother_14 (by decide) (fun c8 => ?_) (fun c8 => ?_)
    · have h := ite_f c8 h
      refine j_aload_n C 0 dX10_mother_20 rfl rfl ?_
      refine j_getS C (1, 0, 0, 0) fl_X10_73 dX10_mother_21 (by decide) ⟨rfl, rfl⟩ rfl rfl ?_
      refine j_iload_n C 1 dX10_mother_24 rfl rfl ?_
      obtain ⟨D10, h9, h⟩ := vbd_x h
      refine j_callV C [.int a1] [] cl_X10_260 (M_X1_findMothered (lv := lv - 1) hG (by omega) h9) (by omega) dX10_mother_25 (by decide) ⟨rfl, rfl⟩ rfl rfl (Nat.le_of_ble_eq_true rfl) ?_
      refine j_st (st' := []) rfl ?_
      refine j_iload_n C 2 dX10_mother_28 rfl rfl ?_
      refine j_if_ne C 42 dX10_mother_29 (by decide) (fun c11 => ?_) (fun c11 => ?_)
      · have h := ite_f c11 h
        refine j_aload_n C 0 dX10_mother_42 rfl rfl ?_
        refine j_getS C (1, 0, 0, 0) fl_X10_73 dX10_mother_43 (by decide) ⟨rfl, rfl⟩ rfl rfl ?_
        refine j_getI C fl_X10_222 dX10_mother_46 (by decide) ⟨rfl, rfl⟩ rfl ?_
        obtain ⟨rfl, rfl⟩ := pr_x h
        exact j_iret C dX10_mother_49
      · have h := ite_t c11 h
        refine j_aload_n C 0 dX10_mother_32 rfl rfl ?_
        refine j_getS C (1, 0, 0, 0) fl_X10_73 dX10_mother_33 (by decide) ⟨rfl, rfl⟩ rfl rfl ?_
        refine j_getI C fl_X10_234 dX10_mother_36 (by decide) ⟨rfl, rfl⟩ rfl ?_
        refine j_goto C 49 dX10_mother_39 (by decide) ?_
        obtain ⟨rfl, rfl⟩ := pr_x h
        exact j_iret C dX10_mother_49
    · have h := ite_t c8 h
      refine j_bipush C (-2 : Int32) (by decide) dX10_mother_17 ?_
      obtain ⟨rfl, rfl⟩ := pr_x h
      exact j_iret C dX10_mother_19
def F_X10_parts (a1 : Int32) (a2 : Int32) (D : Dt) : Option (Int32 × Dt) := (cbd (F_X10_isLand a2 D) (fun r2 D3 => (if r2 = 0 then (some ((-1 : Int32), D3)) else (cbd (F_X10_within a1 (0 : Int32) (9999 : Int32) D3) (fun r6 D7 => (if r6 = 0 then (some ((-1 : Int32), D7)) else (cbd (F_X6_partOf 0 a1 a2 D7) (fun r10 D11 => (some (r10, D11))))))))))
set_option maxRecDepth 100000 in
set_option maxHeartbeats 4000000 in
theorem M_X10_parts {l : Launch} {G : Gt} {A : Nat → Prop} {lv : Nat} {a1 : Int32} {a2 : Int32} {D : Dt} {r : Int32} {D' : Dt} (hG : Gok G A) (hlv : 3 ≤ lv)  (h : F_X10_parts a1 a2 D = some (r, D')) : MD l G A lv yX10_parts cX10_parts 3 (some .int) [.ref (ad G (10, 0, 0, 0)), .int a1, .int a2] D (some (.int r)) D' := by
  unfold F_X10_parts at h
  refine md_start RX10 hG (by decide +kernel) rfl (Nat.le_of_ble_eq_true rfl) (L := [(0, .ref (ad G (10, 0, 0, 0))), (1, .int a1), (2, .int a2)]) rfl (fun X C => ?_)
  refine j_aload_n C 0 dX10_parts_0 rfl rfl ?_
  refine j_iload_n C 2 dX10_parts_1 rfl rfl ?_
  obtain ⟨r2, D3, h1, h⟩ := cbd_x h
  refine j_callV C [.int a2] [] cl_X10_118 (M_X10_isLand (lv := lv - 1) hG (by omega) h1) (by omega) dX10_parts_2 (by decide) ⟨rfl, rfl⟩ rfl rfl (Nat.le_of_ble_eq_true rfl) ?_
  refine j_st (st' := [.int r2]) rfl ?_
  refine j_if_eq C 19 dX10_parts_5 (by decide) (fun c4 => ?_) (fun c4 => ?_)
  · have h := ite_t c4 h
    refine j_iconst C (-1 : Int32) (by decide) dX10_parts_19 ?_
    obtain ⟨rfl, rfl⟩ := pr_x h
    exact j_iret C dX10_parts_20
  · have h := ite_f c4 h
    refine j_iload_n C 1 dX10_parts_8 rfl rfl ?_
    refine j_iconst C (0 : Int32) (by decide) dX10_parts_9 ?_
    refine j_sipush C (9999 : Int32) (by decide) dX10_parts_10 ?_
    obtain ⟨r6, D7, h5, h⟩ := cbd_x h
    refine j_callS C [.int a1, .int (0 : Int32), .int (9999 : Int32)] [] cl_X10_85 (M_X10_within (lv := lv - 1) hG (by omega) h5) (by omega) dX10_parts_13 rfl rfl (Nat.le_of_ble_eq_true rfl) ?_
    refine j_st (st' := [.int r6]) rfl ?_
    refine j_if_ne C 21 dX10_parts_16 (by decide) (fun c8 => ?_) (fun c8 => ?_)
    · have h := ite_f c8 h
      refine j_aload_n C 0 dX10_parts_21 rfl rfl ?_
      refine j_getS C (9, 0, 0, 0) fl_X10_49 dX10_parts_22 (by decide) ⟨rfl, rfl⟩ rfl rfl ?_
      refine j_getS C (6, 0, 0, 0) fl_X10_122 dX10_parts_25 (by decide) ⟨rfl, rfl⟩ rfl rfl ?_
      refine j_iload_n C 1 dX10_parts_28 rfl rfl ?_
      refine j_iload_n C 2 dX10_parts_29 rfl rfl ?_
      obtain ⟨r10, D11, h9, h⟩ := cbd_x h
      refine j_callV C [.int a1, .int a2] [] cl_X10_263 (M_X6_partOf (lv := lv - 1) hG (by omega) h9) (by omega) dX10_parts_30 (by decide) ⟨rfl, rfl⟩ rfl rfl (Nat.le_of_ble_eq_true rfl) ?_
      refine j_st (st' := [.int r10]) rfl ?_
      obtain ⟨rfl, rfl⟩ := pr_x h
      exact j_iret C dX10_parts_33
    · have h := ite_t c8 h
      refine j_iconst C (-1 : Int32) (by decide) dX10_parts_19 ?_
      obtain ⟨rfl, rfl⟩ := pr_x h
      exact j_iret C dX10_parts_20
def F_X10_note_b57 (a1 : Int32) (a2 : Int32) (a3 : Int32)  (l1 : Int32) (l2 : Int32) (l3 : Int32) (D : Dt) : Option (Int32 × Dt) := (cbd (F_X9_addNote 0 l1 l2 l3 D) (fun r13 D14 => (if r13 = 0 then (some ((-2 : Int32), D14)) else (some ((D14.1 (9, 0, 0, 0) 6), D14)))))
set_option maxRecDepth 100000 in
set_option maxHeartbeats 4000000 in
theorem T_X10_note_b57 {r : Int32} {D' : Dt} {X : Ctx} {l : Launch} {G : Gt} {A : Nat → Prop} {lv : Nat} {a1 : Int32} {a2 : Int32} {a3 : Int32}   (hG : Gok G A) (hlv : 3 ≤ lv)   (C : Cx X cX10_note RX10 G l A lv 4 (some .int) (some (.int r)) D')  : ∀ (l1 : Int32) (l2 : Int32) (l3 : Int32) (D : Dt), F_X10_note_b57 a1 a2 a3 l1 l2 l3 D = some (r, D') → J X (Rep G D) 57 [(0, .ref (ad G (10, 0, 0, 0))), (1, .int l1), (2, .int l2), (3, .int l3)] [] := by
  intro l1 l2 l3 D h
  unfold F_X10_note_b57 at h
  refine j_aload_n C 0 dX10_note_57 rfl rfl ?_
  refine j_getS C (9, 0, 0, 0) fl_X10_49 dX10_note_58 (by decide) ⟨rfl, rfl⟩ rfl rfl ?_
  refine j_iload_n C 1 dX10_note_61 rfl rfl ?_
  refine j_iload_n C 2 dX10_note_62 rfl rfl ?_
  refine j_iload_n C 3 dX10_note_63 rfl rfl ?_
  obtain ⟨r13, D14, h12, h⟩ := cbd_x h
  refine j_callV C [.int l1, .int l2, .int l3] [] cl_X10_269 (M_X9_addNote (lv := lv - 1) hG (by omega) h12) (by omega) dX10_note_64 (by decide) ⟨rfl, rfl⟩ rfl rfl (Nat.le_of_ble_eq_true rfl) ?_
  refine j_st (st' := [.int r13]) rfl ?_
  refine j_if_eq C 80 dX10_note_67 (by decide) (fun c15 => ?_) (fun c15 => ?_)
  · have h := ite_t c15 h
    refine j_bipush C (-2 : Int32) (by decide) dX10_note_80 ?_
    obtain ⟨rfl, rfl⟩ := pr_x h
    exact j_iret C dX10_note_82
  · have h := ite_f c15 h
    refine j_aload_n C 0 dX10_note_70 rfl rfl ?_
    refine j_getS C (9, 0, 0, 0) fl_X10_49 dX10_note_71 (by decide) ⟨rfl, rfl⟩ rfl rfl ?_
    refine j_getI C fl_X10_266 dX10_note_74 (by decide) ⟨rfl, rfl⟩ rfl ?_
    refine j_goto C 82 dX10_note_77 (by decide) ?_
    obtain ⟨rfl, rfl⟩ := pr_x h
    exact j_iret C dX10_note_82
def F_X10_note (a1 : Int32) (a2 : Int32) (a3 : Int32) (D : Dt) : Option (Int32 × Dt) := (if a1 = (-1 : Int32) then (bnd (setI D (9, 0, 0, 0) 6 (0 : Int32)) (fun D20 => (some ((0 : Int32), D20)))) else (cbd (F_X10_within a1 (0 : Int32) (60 : Int32) D) (fun r3 D4 => (if r3 = 0 then (some ((-2 : Int32), D4)) else (cbd (F_X10_isLand a2 D4) (fun r7 D8 => (if r7 = 0 then (some ((-2 : Int32), D8)) else (if a2 = a3 then (some ((-2 : Int32), D8)) else (if a3 = (-1 : Int32) then (F_X10_note_b57 a1 a2 a3 a1 a2 a3 D8) else (cbd (F_X10_isLand a3 D8) (fun r17 D18 => (if r17 = 0 then (some ((-2 : Int32), D18)) else (F_X10_note_b57 a1 a2 a3 a1 a2 a3 D18)))))))))))))
set_option maxRecDepth 100000 in
set_option maxHeartbeats 4000000 in
theorem M_X10_note {l : Launch} {G : Gt} {A : Nat → Prop} {lv : Nat} {a1 : Int32} {a2 : Int32} {a3 : Int32} {D : Dt} {r : Int32} {D' : Dt} (hG : Gok G A) (hlv : 3 ≤ lv)  (h : F_X10_note a1 a2 a3 D = some (r, D')) : MD l G A lv yX10_note cX10_note 4 (some .int) [.ref (ad G (10, 0, 0, 0)), .int a1, .int a2, .int a3] D (some (.int r)) D' := by
  unfold F_X10_note at h
  refine md_start RX10 hG (by decide +kernel) rfl (Nat.le_of_ble_eq_true rfl) (L := [(0, .ref (ad G (10, 0, 0, 0))), (1, .int a1), (2, .int a2), (3, .int a3)]) rfl (fun X C => ?_)
  refine j_iload_n C 1 dX10_note_0 rfl rfl ?_
  refine j_iconst C (-1 : Int32) (by decide) dX10_note_1 ?_
  refine j_icmp_ne C 15 dX10_note_2 (by decide) (fun c1 => ?_) (fun c1 => ?_)
  · have h := ite_f c1 h
    refine j_iload_n C 1 dX10_note_15 rfl rfl ?_
    refine j_iconst C (0 : Int32) (by decide) dX10_note_16 ?_
    refine j_bipush C (60 : Int32) (by decide) dX10_note_17 ?_
    obtain ⟨r3, D4, h2, h⟩ := cbd_x h
    refine j_callS C [.int a1, .int (0 : Int32), .int (60 : Int32)] [] cl_X10_85 (M_X10_within (lv := lv - 1) hG (by omega) h2) (by omega) dX10_note_19 rfl rfl (Nat.le_of_ble_eq_true rfl) ?_
    refine j_st (st' := [.int r3]) rfl ?_
    refine j_if_eq C 38 dX10_note_22 (by decide) (fun c5 => ?_) (fun c5 => ?_)
    · have h := ite_t c5 h
      refine j_bipush C (-2 : Int32) (by decide) dX10_note_38 ?_
      obtain ⟨rfl, rfl⟩ := pr_x h
      exact j_iret C dX10_note_40
    · have h := ite_f c5 h
      refine j_aload_n C 0 dX10_note_25 rfl rfl ?_
      refine j_iload_n C 2 dX10_note_26 rfl rfl ?_
      obtain ⟨r7, D8, h6, h⟩ := cbd_x h
      refine j_callV C [.int a2] [] cl_X10_118 (M_X10_isLand (lv := lv - 1) hG (by omega) h6) (by omega) dX10_note_27 (by decide) ⟨rfl, rfl⟩ rfl rfl (Nat.le_of_ble_eq_true rfl) ?_
      refine j_st (st' := [.int r7]) rfl ?_
      refine j_if_eq C 38 dX10_note_30 (by decide) (fun c9 => ?_) (fun c9 => ?_)
      · have h := ite_t c9 h
        refine j_bipush C (-2 : Int32) (by decide) dX10_note_38 ?_
        obtain ⟨rfl, rfl⟩ := pr_x h
        exact j_iret C dX10_note_40
      · have h := ite_f c9 h
        refine j_iload_n C 2 dX10_note_33 rfl rfl ?_
        refine j_iload_n C 3 dX10_note_34 rfl rfl ?_
        refine j_icmp_ne C 41 dX10_note_35 (by decide) (fun c10 => ?_) (fun c10 => ?_)
        · have h := ite_f c10 h
          refine j_iload_n C 3 dX10_note_41 rfl rfl ?_
          refine j_iconst C (-1 : Int32) (by decide) dX10_note_42 ?_
          refine j_icmp_eq C 57 dX10_note_43 (by decide) (fun c11 => ?_) (fun c11 => ?_)
          · have h := ite_t c11 h
            refine T_X10_note_b57 hG hlv  C  a1 a2 a3 D8 h
          · have h := ite_f c11 h
            refine j_aload_n C 0 dX10_note_46 rfl rfl ?_
            refine j_iload_n C 3 dX10_note_47 rfl rfl ?_
            obtain ⟨r17, D18, h16, h⟩ := cbd_x h
            refine j_callV C [.int a3] [] cl_X10_118 (M_X10_isLand (lv := lv - 1) hG (by omega) h16) (by omega) dX10_note_48 (by decide) ⟨rfl, rfl⟩ rfl rfl (Nat.le_of_ble_eq_true rfl) ?_
            refine j_st (st' := [.int r17]) rfl ?_
            refine j_if_ne C 57 dX10_note_51 (by decide) (fun c19 => ?_) (fun c19 => ?_)
            · have h := ite_f c19 h
              refine T_X10_note_b57 hG hlv  C  a1 a2 a3 D18 h
            · have h := ite_t c19 h
              refine j_bipush C (-2 : Int32) (by decide) dX10_note_54 ?_
              obtain ⟨rfl, rfl⟩ := pr_x h
              exact j_iret C dX10_note_56
        · have h := ite_t c10 h
          refine j_bipush C (-2 : Int32) (by decide) dX10_note_38 ?_
          obtain ⟨rfl, rfl⟩ := pr_x h
          exact j_iret C dX10_note_40
  · have h := ite_t c1 h
    refine j_aload_n C 0 dX10_note_5 rfl rfl ?_
    refine j_getS C (9, 0, 0, 0) fl_X10_49 dX10_note_6 (by decide) ⟨rfl, rfl⟩ rfl rfl ?_
    refine j_iconst C (0 : Int32) (by decide) dX10_note_9 ?_
    obtain ⟨D20, eD20, h⟩ := bnd_x h
    refine j_putI C fl_X10_266 dX10_note_10 (by decide) ⟨rfl, rfl⟩ rfl rfl rfl ?_
    refine j_rep eD20 ?_
    refine j_iconst C (0 : Int32) (by decide) dX10_note_13 ?_
    obtain ⟨rfl, rfl⟩ := pr_x h
    exact j_iret C dX10_note_14
def F_X10_ruled (a1 : Int32) (D : Dt) : Option (Int32 × Dt) := (if (D.1 (5, 0, 0, 0) 0) = 0 then (some ((-3 : Int32), D)) else (cbd (F_X10_within a1 (0 : Int32) (1 : Int32) D) (fun r3 D4 => (if r3 = 0 then (some ((-3 : Int32), D4)) else (vbd (F_X1_findRules (D4.1 (10, 0, 0, 0) 5) (-1 : Int32) D4) (fun D7 => (if a1 = 0 then (some ((D7.1 (1, 0, 0, 0) 11), D7)) else (some ((D7.1 (1, 0, 0, 0) 10), D7)))))))))
set_option maxRecDepth 100000 in
set_option maxHeartbeats 4000000 in
theorem M_X10_ruled {l : Launch} {G : Gt} {A : Nat → Prop} {lv : Nat} {a1 : Int32} {D : Dt} {r : Int32} {D' : Dt} (hG : Gok G A) (hlv : 8 ≤ lv)  (h : F_X10_ruled a1 D = some (r, D')) : MD l G A lv yX10_ruled cX10_ruled 2 (some .int) [.ref (ad G (10, 0, 0, 0)), .int a1] D (some (.int r)) D' := by
  unfold F_X10_ruled at h
  refine md_start RX10 hG (by decide +kernel) rfl (Nat.le_of_ble_eq_true rfl) (L := [(0, .ref (ad G (10, 0, 0, 0))), (1, .int a1)]) rfl (fun X C => ?_)
  refine j_aload_n C 0 dX10_ruled_0 rfl rfl ?_
  refine j_getS C (9, 0, 0, 0) fl_X10_49 dX10_ruled_1 (by decide) ⟨rfl, rfl⟩ rfl rfl ?_
  refine j_getS C (5, 0, 0, 0) fl_X10_103 dX10_ruled_4 (by decide) ⟨rfl, rfl⟩ rfl rfl ?_
  refine j_getI C fl_X10_152 dX10_ruled_7 (V_95 (by decide)) ⟨rfl, rfl⟩ rfl ?_
  refine j_if_eq C 22 dX10_ruled_10 (by decide) (fun c1 => ?_) (fun c1 => ?_)
  · have h := ite_t c1 h
    refine j_bipush C (-3 : Int32) (by decide) dX10_ruled_22 ?_
    obtain ⟨rfl, rfl⟩ := pr_x h
    exact j_iret C dX10_ruled_24
  · have h := ite_f c1 h
    refine j_iload_n C 1 dX10_ruled_13 rfl rfl ?_
    refine j_iconst C (0 : Int32) (by decide) dX10_ruled_14 ?_
    refine j_iconst C (1 : Int32) (by decide) dX10_ruled_15 ?_
    obtain ⟨r3, D4, h2, h⟩ := cbd_x h
    refine j_callS C [.int a1, .int (0 : Int32), .int (1 : Int32)] [] cl_X10_85 (M_X10_within (lv := lv - 1) hG (by omega) h2) (by omega) dX10_ruled_16 rfl rfl (Nat.le_of_ble_eq_true rfl) ?_
    refine j_st (st' := [.int r3]) rfl ?_
    refine j_if_ne C 25 dX10_ruled_19 (by decide) (fun c5 => ?_) (fun c5 => ?_)
    · have h := ite_f c5 h
      refine j_aload_n C 0 dX10_ruled_25 rfl rfl ?_
      refine j_getS C (1, 0, 0, 0) fl_X10_73 dX10_ruled_26 (by decide) ⟨rfl, rfl⟩ rfl rfl ?_
      refine j_aload_n C 0 dX10_ruled_29 rfl rfl ?_
      refine j_getI C fl_X10_109 dX10_ruled_30 (by decide) ⟨rfl, rfl⟩ rfl ?_
      refine j_iconst C (-1 : Int32) (by decide) dX10_ruled_33 ?_
      obtain ⟨D7, h6, h⟩ := vbd_x h
      refine j_callV C [.int (D4.1 (10, 0, 0, 0) 5), .int (-1 : Int32)] [] cl_X10_272 (M_X1_findRules (lv := lv - 1) hG (by omega) h6) (by omega) dX10_ruled_34 (by decide) ⟨rfl, rfl⟩ rfl rfl (Nat.le_of_ble_eq_true rfl) ?_
      refine j_st (st' := []) rfl ?_
      refine j_iload_n C 1 dX10_ruled_37 rfl rfl ?_
      refine j_if_ne C 51 dX10_ruled_38 (by decide) (fun c8 => ?_) (fun c8 => ?_)
      · have h := ite_f c8 h
        refine j_aload_n C 0 dX10_ruled_51 rfl rfl ?_
        refine j_getS C (1, 0, 0, 0) fl_X10_73 dX10_ruled_52 (by decide) ⟨rfl, rfl⟩ rfl rfl ?_
        refine j_getI C fl_X10_234 dX10_ruled_55 (by decide) ⟨rfl, rfl⟩ rfl ?_
        obtain ⟨rfl, rfl⟩ := pr_x h
        exact j_iret C dX10_ruled_58
      · have h := ite_t c8 h
        refine j_aload_n C 0 dX10_ruled_41 rfl rfl ?_
        refine j_getS C (1, 0, 0, 0) fl_X10_73 dX10_ruled_42 (by decide) ⟨rfl, rfl⟩ rfl rfl ?_
        refine j_getI C fl_X10_222 dX10_ruled_45 (by decide) ⟨rfl, rfl⟩ rfl ?_
        refine j_goto C 58 dX10_ruled_48 (by decide) ?_
        obtain ⟨rfl, rfl⟩ := pr_x h
        exact j_iret C dX10_ruled_58
    · have h := ite_t c5 h
      refine j_bipush C (-3 : Int32) (by decide) dX10_ruled_22 ?_
      obtain ⟨rfl, rfl⟩ := pr_x h
      exact j_iret C dX10_ruled_24
def F_X10_look (a1 : Int32) (a2 : Int32) (D : Dt) : Option (Int32 × Dt) := (if (D.1 (5, 0, 0, 0) 0) = 0 then (some ((-1 : Int32), D)) else (cbd (F_X10_within a1 (0 : Int32) (60 : Int32) D) (fun r3 D4 => (if r3 = 0 then (some ((-1 : Int32), D4)) else (cbd (F_X10_within a2 (0 : Int32) (1 : Int32) D4) (fun r7 D8 => (if r7 = 0 then (some ((-1 : Int32), D8)) else (vbd (F_X1_findRules (D8.1 (10, 0, 0, 0) 5) a1 D8) (fun D11 => (if (D11.1 (1, 0, 0, 0) 11) < (1 : Int32) then (some ((-2 : Int32), D11)) else (if (1 : Int32) ≤ (D11.1 (5, 0, 0, 0) 3) then (vbd (F_X1_findLook  D11) (fun D15 => (if a2 = 0 then (some ((D15.1 (1, 0, 0, 0) 10), D15)) else (some ((D15.1 (1, 0, 0, 0) 11), D15))))) else (some ((-2 : Int32), D11)))))))))))))
set_option maxRecDepth 100000 in
set_option maxHeartbeats 4000000 in
theorem M_X10_look {l : Launch} {G : Gt} {A : Nat → Prop} {lv : Nat} {a1 : Int32} {a2 : Int32} {D : Dt} {r : Int32} {D' : Dt} (hG : Gok G A) (hlv : 8 ≤ lv)  (h : F_X10_look a1 a2 D = some (r, D')) : MD l G A lv yX10_look cX10_look 3 (some .int) [.ref (ad G (10, 0, 0, 0)), .int a1, .int a2] D (some (.int r)) D' := by
  unfold F_X10_look at h
  refine md_start RX10 hG (by decide +kernel) rfl (Nat.le_of_ble_eq_true rfl) (L := [(0, .ref (ad G (10, 0, 0, 0))), (1, .int a1), (2, .int a2)]) rfl (fun X C => ?_)
  refine j_aload_n C 0 dX10_look_0 rfl rfl ?_
  refine j_getS C (9, 0, 0, 0) fl_X10_49 dX10_look_1 (by decide) ⟨rfl, rfl⟩ rfl rfl ?_
  refine j_getS C (5, 0, 0, 0) fl_X10_103 dX10_look_4 (by decide) ⟨rfl, rfl⟩ rfl rfl ?_
  refine j_getI C fl_X10_152 dX10_look_7 (V_95 (by decide)) ⟨rfl, rfl⟩ rfl ?_
  refine j_if_eq C 32 dX10_look_10 (by decide) (fun c1 => ?_) (fun c1 => ?_)
  · have h := ite_t c1 h
    refine j_iconst C (-1 : Int32) (by decide) dX10_look_32 ?_
    obtain ⟨rfl, rfl⟩ := pr_x h
    exact j_iret C dX10_look_33
  · have h := ite_f c1 h
    refine j_iload_n C 1 dX10_look_13 rfl rfl ?_
    refine j_iconst C (0 : Int32) (by decide) dX10_look_14 ?_
    refine j_bipush C (60 : Int32) (by decide) dX10_look_15 ?_
    obtain ⟨r3, D4, h2, h⟩ := cbd_x h
    refine j_callS C [.int a1, .int (0 : Int32), .int (60 : Int32)] [] cl_X10_85 (M_X10_within (lv := lv - 1) hG (by omega) h2) (by omega) dX10_look_17 rfl rfl (Nat.le_of_ble_eq_true rfl) ?_
    refine j_st (st' := [.int r3]) rfl ?_
    refine j_if_eq C 32 dX10_look_20 (by decide) (fun c5 => ?_) (fun c5 => ?_)
    · have h := ite_t c5 h
      refine j_iconst C (-1 : Int32) (by decide) dX10_look_32 ?_
      obtain ⟨rfl, rfl⟩ := pr_x h
      exact j_iret C dX10_look_33
    · have h := ite_f c5 h
      refine j_iload_n C 2 dX10_look_23 rfl rfl ?_
      refine j_iconst C (0 : Int32) (by decide) dX10_look_24 ?_
      refine j_iconst C (1 : Int32) (by decide) dX10_look_25 ?_
      obtain ⟨r7, D8, h6, h⟩ := cbd_x h
      refine j_callS C [.int a2, .int (0 : Int32), .int (1 : Int32)] [] cl_X10_85 (M_X10_within (lv := lv - 1) hG (by omega) h6) (by omega) dX10_look_26 rfl rfl (Nat.le_of_ble_eq_true rfl) ?_
      refine j_st (st' := [.int r7]) rfl ?_
      refine j_if_ne C 34 dX10_look_29 (by decide) (fun c9 => ?_) (fun c9 => ?_)
      · have h := ite_f c9 h
        refine j_aload_n C 0 dX10_look_34 rfl rfl ?_
        refine j_getS C (1, 0, 0, 0) fl_X10_73 dX10_look_35 (by decide) ⟨rfl, rfl⟩ rfl rfl ?_
        refine j_aload_n C 0 dX10_look_38 rfl rfl ?_
        refine j_getI C fl_X10_109 dX10_look_39 (by decide) ⟨rfl, rfl⟩ rfl ?_
        refine j_iload_n C 1 dX10_look_42 rfl rfl ?_
        obtain ⟨D11, h10, h⟩ := vbd_x h
        refine j_callV C [.int (D8.1 (10, 0, 0, 0) 5), .int a1] [] cl_X10_272 (M_X1_findRules (lv := lv - 1) hG (by omega) h10) (by omega) dX10_look_43 (by decide) ⟨rfl, rfl⟩ rfl rfl (Nat.le_of_ble_eq_true rfl) ?_
        refine j_st (st' := []) rfl ?_
        refine j_aload_n C 0 dX10_look_46 rfl rfl ?_
        refine j_getS C (1, 0, 0, 0) fl_X10_73 dX10_look_47 (by decide) ⟨rfl, rfl⟩ rfl rfl ?_
        refine j_getI C fl_X10_222 dX10_look_50 (by decide) ⟨rfl, rfl⟩ rfl ?_
        refine j_iconst C (1 : Int32) (by decide) dX10_look_53 ?_
        refine j_icmp_lt C 71 dX10_look_54 (by decide) (fun c12 => ?_) (fun c12 => ?_)
        · have h := ite_t c12 h
          refine j_bipush C (-2 : Int32) (by decide) dX10_look_71 ?_
          obtain ⟨rfl, rfl⟩ := pr_x h
          exact j_iret C dX10_look_73
        · have h := ite_f c12 h
          refine j_aload_n C 0 dX10_look_57 rfl rfl ?_
          refine j_getS C (9, 0, 0, 0) fl_X10_49 dX10_look_58 (by decide) ⟨rfl, rfl⟩ rfl rfl ?_
          refine j_getS C (5, 0, 0, 0) fl_X10_103 dX10_look_61 (by decide) ⟨rfl, rfl⟩ rfl rfl ?_
          refine j_getI C fl_X10_106 dX10_look_64 (V_95 (by decide)) ⟨rfl, rfl⟩ rfl ?_
          refine j_iconst C (1 : Int32) (by decide) dX10_look_67 ?_
          refine j_icmp_ge C 74 dX10_look_68 (by decide) (fun c13 => ?_) (fun c13 => ?_)
          · have h := ite_t c13 h
            refine j_aload_n C 0 dX10_look_74 rfl rfl ?_
            refine j_getS C (1, 0, 0, 0) fl_X10_73 dX10_look_75 (by decide) ⟨rfl, rfl⟩ rfl rfl ?_
            obtain ⟨D15, h14, h⟩ := vbd_x h
            refine j_callV C [] [] cl_X10_275 (M_X1_findLook (lv := lv - 1) hG (by omega) h14) (by omega) dX10_look_78 (by decide) ⟨rfl, rfl⟩ rfl rfl (Nat.le_of_ble_eq_true rfl) ?_
            refine j_st (st' := []) rfl ?_
            refine j_iload_n C 2 dX10_look_81 rfl rfl ?_
            refine j_if_ne C 95 dX10_look_82 (by decide) (fun c16 => ?_) (fun c16 => ?_)
            · have h := ite_f c16 h
              refine j_aload_n C 0 dX10_look_95 rfl rfl ?_
              refine j_getS C (1, 0, 0, 0) fl_X10_73 dX10_look_96 (by decide) ⟨rfl, rfl⟩ rfl rfl ?_
              refine j_getI C fl_X10_222 dX10_look_99 (by decide) ⟨rfl, rfl⟩ rfl ?_
              obtain ⟨rfl, rfl⟩ := pr_x h
              exact j_iret C dX10_look_102
            · have h := ite_t c16 h
              refine j_aload_n C 0 dX10_look_85 rfl rfl ?_
              refine j_getS C (1, 0, 0, 0) fl_X10_73 dX10_look_86 (by decide) ⟨rfl, rfl⟩ rfl rfl ?_
              refine j_getI C fl_X10_234 dX10_look_89 (by decide) ⟨rfl, rfl⟩ rfl ?_
              refine j_goto C 102 dX10_look_92 (by decide) ?_
              obtain ⟨rfl, rfl⟩ := pr_x h
              exact j_iret C dX10_look_102
          · have h := ite_f c13 h
            refine j_bipush C (-2 : Int32) (by decide) dX10_look_71 ?_
            obtain ⟨rfl, rfl⟩ := pr_x h
            exact j_iret C dX10_look_73
      · have h := ite_t c9 h
        refine j_iconst C (-1 : Int32) (by decide) dX10_look_32 ?_
        obtain ⟨rfl, rfl⟩ := pr_x h
        exact j_iret C dX10_look_33
def F_X10_seed (a1 : Int32) (D : Dt) : Option (Int32 × Dt) := (if 0 ≤ a1 then (bnd (D.1 (9, 0, 0, 0) 8) (fun v2 => (bnd (setI D (9, 0, 0, 0) 8 a1) (fun D3 => (some (v2, D3)))))) else (some ((-1 : Int32), D)))
set_option maxRecDepth 100000 in
set_option maxHeartbeats 4000000 in
theorem M_X10_seed {l : Launch} {G : Gt} {A : Nat → Prop} {lv : Nat} {a1 : Int32} {D : Dt} {r : Int32} {D' : Dt} (hG : Gok G A) (hlv : 1 ≤ lv)  (h : F_X10_seed a1 D = some (r, D')) : MD l G A lv yX10_seed cX10_seed 3 (some .int) [.ref (ad G (10, 0, 0, 0)), .int a1] D (some (.int r)) D' := by
  unfold F_X10_seed at h
  refine md_start RX10 hG (by decide +kernel) rfl (Nat.le_of_ble_eq_true rfl) (L := [(0, .ref (ad G (10, 0, 0, 0))), (1, .int a1)]) rfl (fun X C => ?_)
  refine j_iload_n C 1 dX10_seed_0 rfl rfl ?_
  refine j_if_ge C 6 dX10_seed_1 (by decide) (fun c1 => ?_) (fun c1 => ?_)
  · have h := ite_t c1 h
    refine j_aload_n C 0 dX10_seed_6 rfl rfl ?_
    refine j_getS C (9, 0, 0, 0) fl_X10_49 dX10_seed_7 (by decide) ⟨rfl, rfl⟩ rfl rfl ?_
    refine j_getI C fl_X10_278 dX10_seed_10 (by decide) ⟨rfl, rfl⟩ rfl ?_
    obtain ⟨v2, ev2, h⟩ := bnd_x h
    refine j_istore_n C [(2, .int v2), (0, .ref (ad G (10, 0, 0, 0))), (1, .int a1)] dX10_seed_13 rfl (Nat.le_of_ble_eq_true rfl) ev2 rfl ?_
    refine j_aload_n C 1 dX10_seed_14 rfl rfl ?_
    refine j_getS C (9, 0, 0, 0) fl_X10_49 dX10_seed_15 (by decide) ⟨rfl, rfl⟩ rfl rfl ?_
    refine j_iload_n C 2 dX10_seed_18 rfl rfl ?_
    obtain ⟨D3, eD3, h⟩ := bnd_x h
    refine j_putI C fl_X10_278 dX10_seed_19 (by decide) ⟨rfl, rfl⟩ rfl rfl rfl ?_
    refine j_rep eD3 ?_
    refine j_iload_n C 0 dX10_seed_22 rfl rfl ?_
    obtain ⟨rfl, rfl⟩ := pr_x h
    exact j_iret C dX10_seed_23
  · have h := ite_f c1 h
    refine j_iconst C (-1 : Int32) (by decide) dX10_seed_4 ?_
    obtain ⟨rfl, rfl⟩ := pr_x h
    exact j_iret C dX10_seed_5
def F_X10_summers (a1 : Int32) (a2 : Int32) (a3 : Int32) (a4 : Int32) (D : Dt) : Option (Int32 × Dt) := (cbd (F_X10_isSpan a2 D) (fun r2 D3 => (if r2 = 0 then (some ((-1 : Int32), D3)) else (cbd (F_X10_within a1 (1 : Int32) (10 : Int32) D3) (fun r6 D7 => (if r6 = 0 then (some ((-1 : Int32), D7)) else (cbd (F_X10_within a3 (0 : Int32) (100 : Int32) D7) (fun r10 D11 => (if r10 = 0 then (some ((-1 : Int32), D11)) else (cbd (F_X10_within a4 (0 : Int32) (1 : Int32) D11) (fun r14 D15 => (if r14 = 0 then (some ((-1 : Int32), D15)) else (vbd (F_X1_drawSummers a1 a2 a3 D15) (fun D18 => (if a4 = 0 then (some ((D18.1 (1, 0, 0, 0) 11), D18)) else (some ((D18.1 (1, 0, 0, 0) 10), D18)))))))))))))))))
set_option maxRecDepth 100000 in
set_option maxHeartbeats 4000000 in
theorem M_X10_summers {l : Launch} {G : Gt} {A : Nat → Prop} {lv : Nat} {a1 : Int32} {a2 : Int32} {a3 : Int32} {a4 : Int32} {D : Dt} {r : Int32} {D' : Dt} (hG : Gok G A) (hlv : 7 ≤ lv)  (h : F_X10_summers a1 a2 a3 a4 D = some (r, D')) : MD l G A lv yX10_summers cX10_summers 5 (some .int) [.ref (ad G (10, 0, 0, 0)), .int a1, .int a2, .int a3, .int a4] D (some (.int r)) D' := by
  unfold F_X10_summers at h
  refine md_start RX10 hG (by decide +kernel) rfl (Nat.le_of_ble_eq_true rfl) (L := [(0, .ref (ad G (10, 0, 0, 0))), (1, .int a1), (2, .int a2), (3, .int a3), (4, .int a4)]) rfl (fun X C => ?_)
  refine j_aload_n C 0 dX10_summers_0 rfl rfl ?_
  refine j_iload_n C 2 dX10_summers_1 rfl rfl ?_
  obtain ⟨r2, D3, h1, h⟩ := cbd_x h
  refine j_callV C [.int a2] [] cl_X10_228 (M_X10_isSpan (lv := lv - 1) hG (by omega) h1) (by omega) dX10_summers_2 (by decide) ⟨rfl, rfl⟩ rfl rfl (Nat.le_of_ble_eq_true rfl) ?_
  refine j_st (st' := [.int r2]) rfl ?_
  refine j_if_eq C 38 dX10_summers_5 (by decide) (fun c4 => ?_) (fun c4 => ?_)
  · have h := ite_t c4 h
    refine j_iconst C (-1 : Int32) (by decide) dX10_summers_38 ?_
    obtain ⟨rfl, rfl⟩ := pr_x h
    exact j_iret C dX10_summers_39
  · have h := ite_f c4 h
    refine j_iload_n C 1 dX10_summers_8 rfl rfl ?_
    refine j_iconst C (1 : Int32) (by decide) dX10_summers_9 ?_
    refine j_bipush C (10 : Int32) (by decide) dX10_summers_10 ?_
    obtain ⟨r6, D7, h5, h⟩ := cbd_x h
    refine j_callS C [.int a1, .int (1 : Int32), .int (10 : Int32)] [] cl_X10_85 (M_X10_within (lv := lv - 1) hG (by omega) h5) (by omega) dX10_summers_12 rfl rfl (Nat.le_of_ble_eq_true rfl) ?_
    refine j_st (st' := [.int r6]) rfl ?_
    refine j_if_eq C 38 dX10_summers_15 (by decide) (fun c8 => ?_) (fun c8 => ?_)
    · have h := ite_t c8 h
      refine j_iconst C (-1 : Int32) (by decide) dX10_summers_38 ?_
      obtain ⟨rfl, rfl⟩ := pr_x h
      exact j_iret C dX10_summers_39
    · have h := ite_f c8 h
      refine j_iload_n C 3 dX10_summers_18 rfl rfl ?_
      refine j_iconst C (0 : Int32) (by decide) dX10_summers_19 ?_
      refine j_bipush C (100 : Int32) (by decide) dX10_summers_20 ?_
      obtain ⟨r10, D11, h9, h⟩ := cbd_x h
      refine j_callS C [.int a3, .int (0 : Int32), .int (100 : Int32)] [] cl_X10_85 (M_X10_within (lv := lv - 1) hG (by omega) h9) (by omega) dX10_summers_22 rfl rfl (Nat.le_of_ble_eq_true rfl) ?_
      refine j_st (st' := [.int r10]) rfl ?_
      refine j_if_eq C 38 dX10_summers_25 (by decide) (fun c12 => ?_) (fun c12 => ?_)
      · have h := ite_t c12 h
        refine j_iconst C (-1 : Int32) (by decide) dX10_summers_38 ?_
        obtain ⟨rfl, rfl⟩ := pr_x h
        exact j_iret C dX10_summers_39
      · have h := ite_f c12 h
        refine j_iload C 4 dX10_summers_28 rfl ?_
        refine j_iconst C (0 : Int32) (by decide) dX10_summers_30 ?_
        refine j_iconst C (1 : Int32) (by decide) dX10_summers_31 ?_
        obtain ⟨r14, D15, h13, h⟩ := cbd_x h
        refine j_callS C [.int a4, .int (0 : Int32), .int (1 : Int32)] [] cl_X10_85 (M_X10_within (lv := lv - 1) hG (by omega) h13) (by omega) dX10_summers_32 rfl rfl (Nat.le_of_ble_eq_true rfl) ?_
        refine j_st (st' := [.int r14]) rfl ?_
        refine j_if_ne C 40 dX10_summers_35 (by decide) (fun c16 => ?_) (fun c16 => ?_)
        · have h := ite_f c16 h
          refine j_aload_n C 0 dX10_summers_40 rfl rfl ?_
          refine j_getS C (1, 0, 0, 0) fl_X10_73 dX10_summers_41 (by decide) ⟨rfl, rfl⟩ rfl rfl ?_
          refine j_iload_n C 1 dX10_summers_44 rfl rfl ?_
          refine j_iload_n C 2 dX10_summers_45 rfl rfl ?_
          refine j_iload_n C 3 dX10_summers_46 rfl rfl ?_
          obtain ⟨D18, h17, h⟩ := vbd_x h
          refine j_callV C [.int a1, .int a2, .int a3] [] cl_X10_281 (M_X1_drawSummers (lv := lv - 1) hG (by omega) h17) (by omega) dX10_summers_47 (by decide) ⟨rfl, rfl⟩ rfl rfl (Nat.le_of_ble_eq_true rfl) ?_
          refine j_st (st' := []) rfl ?_
          refine j_iload C 4 dX10_summers_50 rfl ?_
          refine j_if_ne C 65 dX10_summers_52 (by decide) (fun c19 => ?_) (fun c19 => ?_)
          · have h := ite_f c19 h
            refine j_aload_n C 0 dX10_summers_65 rfl rfl ?_
            refine j_getS C (1, 0, 0, 0) fl_X10_73 dX10_summers_66 (by decide) ⟨rfl, rfl⟩ rfl rfl ?_
            refine j_getI C fl_X10_234 dX10_summers_69 (by decide) ⟨rfl, rfl⟩ rfl ?_
            obtain ⟨rfl, rfl⟩ := pr_x h
            exact j_iret C dX10_summers_72
          · have h := ite_t c19 h
            refine j_aload_n C 0 dX10_summers_55 rfl rfl ?_
            refine j_getS C (1, 0, 0, 0) fl_X10_73 dX10_summers_56 (by decide) ⟨rfl, rfl⟩ rfl rfl ?_
            refine j_getI C fl_X10_222 dX10_summers_59 (by decide) ⟨rfl, rfl⟩ rfl ?_
            refine j_goto C 72 dX10_summers_62 (by decide) ?_
            obtain ⟨rfl, rfl⟩ := pr_x h
            exact j_iret C dX10_summers_72
        · have h := ite_t c16 h
          refine j_iconst C (-1 : Int32) (by decide) dX10_summers_38 ?_
          obtain ⟨rfl, rfl⟩ := pr_x h
          exact j_iret C dX10_summers_39
def F_X10_count (a1 : Int32) (D : Dt) : Option (Int32 × Dt) := (if a1 = (0 : Int32) then (some ((D.1 (6, 0, 0, 0) 5), D)) else if a1 = (1 : Int32) then (some ((D.1 (5, 0, 0, 0) 2), D)) else if a1 = (2 : Int32) then (some ((D.1 (5, 0, 0, 0) 3), D)) else if a1 = (3 : Int32) then (some ((D.1 (10, 0, 0, 0) 5), D)) else if a1 = (4 : Int32) then (some ((D.1 (9, 0, 0, 0) 7), D)) else if a1 = (5 : Int32) then (some ((D.1 (6, 0, 0, 0) 6), D)) else if a1 = (6 : Int32) then (cbd (F_X10_total (6, 0, 1, 0) D) (fun r9 D10 => (some (r9, D10)))) else if a1 = (7 : Int32) then (cbd (F_X10_total (6, 0, 2, 0) D) (fun r13 D14 => (some (r13, D14)))) else if a1 = (8 : Int32) then (cbd (F_X10_total (6, 0, 3, 0) D) (fun r17 D18 => (some (r17, D18)))) else if a1 = (9 : Int32) then (cbd (F_X10_total (6, 0, 4, 0) D) (fun r21 D22 => (some (r21, D22)))) else if a1 = (10 : Int32) then (some ((D.1 (6, 0, 0, 0) 7), D)) else if a1 = (11 : Int32) then (some ((D.1 (9, 0, 0, 0) 6), D)) else if a1 = (12 : Int32) then (some ((D.1 (0, 0, 0, 0) 1), D)) else if a1 = (13 : Int32) then (some ((D.1 (9, 0, 0, 0) 8), D)) else if a1 = (14 : Int32) then (some ((D.1 (2, 0, 0, 0) 1), D)) else (some ((-1 : Int32), D)))
set_option maxRecDepth 100000 in
set_option maxHeartbeats 4000000 in
theorem M_X10_count {l : Launch} {G : Gt} {A : Nat → Prop} {lv : Nat} {a1 : Int32} {D : Dt} {r : Int32} {D' : Dt} (hG : Gok G A) (hlv : 2 ≤ lv)  (h : F_X10_count a1 D = some (r, D')) : MD l G A lv yX10_count cX10_count 2 (some .int) [.ref (ad G (10, 0, 0, 0)), .int a1] D (some (.int r)) D' := by
  unfold F_X10_count at h
  refine md_start RX10 hG (by decide +kernel) rfl (Nat.le_of_ble_eq_true rfl) (L := [(0, .ref (ad G (10, 0, 0, 0))), (1, .int a1)]) rfl (fun X C => ?_)
  refine j_iload_n C 1 dX10_count_0 rfl rfl ?_
  by_cases c1 : a1 = (0 : Int32)
  · have h := ite_t c1 h
    refine j_tabIn C (off := 75) (0 : Int32) 76 dX10_count_1 c1 ⟨by decide, by decide⟩ (by decide +kernel) (by decide) ?_
    refine j_aload_n C 0 dX10_count_76 rfl rfl ?_
    refine j_getS C (9, 0, 0, 0) fl_X10_49 dX10_count_77 (by decide) ⟨rfl, rfl⟩ rfl rfl ?_
    refine j_getS C (6, 0, 0, 0) fl_X10_122 dX10_count_80 (by decide) ⟨rfl, rfl⟩ rfl rfl ?_
    refine j_getI C fl_X10_202 dX10_count_83 (by decide) ⟨rfl, rfl⟩ rfl ?_
    obtain ⟨rfl, rfl⟩ := pr_x h
    exact j_iret C dX10_count_86
  have h := ite_f c1 h
  by_cases c2 : a1 = (1 : Int32)
  · have h := ite_t c2 h
    refine j_tabIn C (off := 86) (1 : Int32) 87 dX10_count_1 c2 ⟨by decide, by decide⟩ (by decide +kernel) (by decide) ?_
    refine j_aload_n C 0 dX10_count_87 rfl rfl ?_
    refine j_getS C (9, 0, 0, 0) fl_X10_49 dX10_count_88 (by decide) ⟨rfl, rfl⟩ rfl rfl ?_
    refine j_getS C (5, 0, 0, 0) fl_X10_103 dX10_count_91 (by decide) ⟨rfl, rfl⟩ rfl rfl ?_
    refine j_getI C fl_X10_284 dX10_count_94 (V_95 (by decide)) ⟨rfl, rfl⟩ rfl ?_
    obtain ⟨rfl, rfl⟩ := pr_x h
    exact j_iret C dX10_count_97
  have h := ite_f c2 h
  by_cases c3 : a1 = (2 : Int32)
  · have h := ite_t c3 h
    refine j_tabIn C (off := 97) (2 : Int32) 98 dX10_count_1 c3 ⟨by decide, by decide⟩ (by decide +kernel) (by decide) ?_
    refine j_aload_n C 0 dX10_count_98 rfl rfl ?_
    refine j_getS C (9, 0, 0, 0) fl_X10_49 dX10_count_99 (by decide) ⟨rfl, rfl⟩ rfl rfl ?_
    refine j_getS C (5, 0, 0, 0) fl_X10_103 dX10_count_102 (by decide) ⟨rfl, rfl⟩ rfl rfl ?_
    refine j_getI C fl_X10_106 dX10_count_105 (V_95 (by decide)) ⟨rfl, rfl⟩ rfl ?_
    obtain ⟨rfl, rfl⟩ := pr_x h
    exact j_iret C dX10_count_108
  have h := ite_f c3 h
  by_cases c4 : a1 = (3 : Int32)
  · have h := ite_t c4 h
    refine j_tabIn C (off := 108) (3 : Int32) 109 dX10_count_1 c4 ⟨by decide, by decide⟩ (by decide +kernel) (by decide) ?_
    refine j_aload_n C 0 dX10_count_109 rfl rfl ?_
    refine j_getI C fl_X10_109 dX10_count_110 (by decide) ⟨rfl, rfl⟩ rfl ?_
    obtain ⟨rfl, rfl⟩ := pr_x h
    exact j_iret C dX10_count_113
  have h := ite_f c4 h
  by_cases c5 : a1 = (4 : Int32)
  · have h := ite_t c5 h
    refine j_tabIn C (off := 113) (4 : Int32) 114 dX10_count_1 c5 ⟨by decide, by decide⟩ (by decide +kernel) (by decide) ?_
    refine j_aload_n C 0 dX10_count_114 rfl rfl ?_
    refine j_getS C (9, 0, 0, 0) fl_X10_49 dX10_count_115 (by decide) ⟨rfl, rfl⟩ rfl rfl ?_
    refine j_getI C fl_X10_115 dX10_count_118 (by decide) ⟨rfl, rfl⟩ rfl ?_
    obtain ⟨rfl, rfl⟩ := pr_x h
    exact j_iret C dX10_count_121
  have h := ite_f c5 h
  by_cases c6 : a1 = (5 : Int32)
  · have h := ite_t c6 h
    refine j_tabIn C (off := 121) (5 : Int32) 122 dX10_count_1 c6 ⟨by decide, by decide⟩ (by decide +kernel) (by decide) ?_
    refine j_aload_n C 0 dX10_count_122 rfl rfl ?_
    refine j_getS C (9, 0, 0, 0) fl_X10_49 dX10_count_123 (by decide) ⟨rfl, rfl⟩ rfl rfl ?_
    refine j_getS C (6, 0, 0, 0) fl_X10_122 dX10_count_126 (by decide) ⟨rfl, rfl⟩ rfl rfl ?_
    refine j_getI C fl_X10_156 dX10_count_129 (by decide) ⟨rfl, rfl⟩ rfl ?_
    obtain ⟨rfl, rfl⟩ := pr_x h
    exact j_iret C dX10_count_132
  have h := ite_f c6 h
  by_cases c7 : a1 = (6 : Int32)
  · have h := ite_t c7 h
    refine j_tabIn C (off := 132) (6 : Int32) 133 dX10_count_1 c7 ⟨by decide, by decide⟩ (by decide +kernel) (by decide) ?_
    refine j_aload_n C 0 dX10_count_133 rfl rfl ?_
    refine j_getS C (9, 0, 0, 0) fl_X10_49 dX10_count_134 (by decide) ⟨rfl, rfl⟩ rfl rfl ?_
    refine j_getS C (6, 0, 0, 0) fl_X10_122 dX10_count_137 (by decide) ⟨rfl, rfl⟩ rfl rfl ?_
    refine j_getS C (6, 0, 1, 0) fl_X10_126 dX10_count_140 (by decide) ⟨rfl, rfl⟩ rfl rfl ?_
    obtain ⟨r9, D10, h8, h⟩ := cbd_x h
    refine j_callS C [.ref (ad G (6, 0, 1, 0))] [] cl_X10_287 (M_X10_total (lv := lv - 1) hG (by omega) h8) (by omega) dX10_count_143 rfl rfl (Nat.le_of_ble_eq_true rfl) ?_
    refine j_st (st' := [.int r9]) rfl ?_
    obtain ⟨rfl, rfl⟩ := pr_x h
    exact j_iret C dX10_count_146
  have h := ite_f c7 h
  by_cases c11 : a1 = (7 : Int32)
  · have h := ite_t c11 h
    refine j_tabIn C (off := 146) (7 : Int32) 147 dX10_count_1 c11 ⟨by decide, by decide⟩ (by decide +kernel) (by decide) ?_
    refine j_aload_n C 0 dX10_count_147 rfl rfl ?_
    refine j_getS C (9, 0, 0, 0) fl_X10_49 dX10_count_148 (by decide) ⟨rfl, rfl⟩ rfl rfl ?_
    refine j_getS C (6, 0, 0, 0) fl_X10_122 dX10_count_151 (by decide) ⟨rfl, rfl⟩ rfl rfl ?_
    refine j_getS C (6, 0, 2, 0) fl_X10_132 dX10_count_154 (by decide) ⟨rfl, rfl⟩ rfl rfl ?_
    obtain ⟨r13, D14, h12, h⟩ := cbd_x h
    refine j_callS C [.ref (ad G (6, 0, 2, 0))] [] cl_X10_287 (M_X10_total (lv := lv - 1) hG (by omega) h12) (by omega) dX10_count_157 rfl rfl (Nat.le_of_ble_eq_true rfl) ?_
    refine j_st (st' := [.int r13]) rfl ?_
    obtain ⟨rfl, rfl⟩ := pr_x h
    exact j_iret C dX10_count_160
  have h := ite_f c11 h
  by_cases c15 : a1 = (8 : Int32)
  · have h := ite_t c15 h
    refine j_tabIn C (off := 160) (8 : Int32) 161 dX10_count_1 c15 ⟨by decide, by decide⟩ (by decide +kernel) (by decide) ?_
    refine j_aload_n C 0 dX10_count_161 rfl rfl ?_
    refine j_getS C (9, 0, 0, 0) fl_X10_49 dX10_count_162 (by decide) ⟨rfl, rfl⟩ rfl rfl ?_
    refine j_getS C (6, 0, 0, 0) fl_X10_122 dX10_count_165 (by decide) ⟨rfl, rfl⟩ rfl rfl ?_
    refine j_getS C (6, 0, 3, 0) fl_X10_135 dX10_count_168 (by decide) ⟨rfl, rfl⟩ rfl rfl ?_
    obtain ⟨r17, D18, h16, h⟩ := cbd_x h
    refine j_callS C [.ref (ad G (6, 0, 3, 0))] [] cl_X10_287 (M_X10_total (lv := lv - 1) hG (by omega) h16) (by omega) dX10_count_171 rfl rfl (Nat.le_of_ble_eq_true rfl) ?_
    refine j_st (st' := [.int r17]) rfl ?_
    obtain ⟨rfl, rfl⟩ := pr_x h
    exact j_iret C dX10_count_174
  have h := ite_f c15 h
  by_cases c19 : a1 = (9 : Int32)
  · have h := ite_t c19 h
    refine j_tabIn C (off := 174) (9 : Int32) 175 dX10_count_1 c19 ⟨by decide, by decide⟩ (by decide +kernel) (by decide) ?_
    refine j_aload_n C 0 dX10_count_175 rfl rfl ?_
    refine j_getS C (9, 0, 0, 0) fl_X10_49 dX10_count_176 (by decide) ⟨rfl, rfl⟩ rfl rfl ?_
    refine j_getS C (6, 0, 0, 0) fl_X10_122 dX10_count_179 (by decide) ⟨rfl, rfl⟩ rfl rfl ?_
    refine j_getS C (6, 0, 4, 0) fl_X10_138 dX10_count_182 (by decide) ⟨rfl, rfl⟩ rfl rfl ?_
    obtain ⟨r21, D22, h20, h⟩ := cbd_x h
    refine j_callS C [.ref (ad G (6, 0, 4, 0))] [] cl_X10_287 (M_X10_total (lv := lv - 1) hG (by omega) h20) (by omega) dX10_count_185 rfl rfl (Nat.le_of_ble_eq_true rfl) ?_
    refine j_st (st' := [.int r21]) rfl ?_
    obtain ⟨rfl, rfl⟩ := pr_x h
    exact j_iret C dX10_count_188
  have h := ite_f c19 h
  by_cases c23 : a1 = (10 : Int32)
  · have h := ite_t c23 h
    refine j_tabIn C (off := 188) (10 : Int32) 189 dX10_count_1 c23 ⟨by decide, by decide⟩ (by decide +kernel) (by decide) ?_
    refine j_aload_n C 0 dX10_count_189 rfl rfl ?_
    refine j_getS C (9, 0, 0, 0) fl_X10_49 dX10_count_190 (by decide) ⟨rfl, rfl⟩ rfl rfl ?_
    refine j_getS C (6, 0, 0, 0) fl_X10_122 dX10_count_193 (by decide) ⟨rfl, rfl⟩ rfl rfl ?_
    refine j_getI C fl_X10_291 dX10_count_196 (by decide) ⟨rfl, rfl⟩ rfl ?_
    obtain ⟨rfl, rfl⟩ := pr_x h
    exact j_iret C dX10_count_199
  have h := ite_f c23 h
  by_cases c24 : a1 = (11 : Int32)
  · have h := ite_t c24 h
    refine j_tabIn C (off := 199) (11 : Int32) 200 dX10_count_1 c24 ⟨by decide, by decide⟩ (by decide +kernel) (by decide) ?_
    refine j_aload_n C 0 dX10_count_200 rfl rfl ?_
    refine j_getS C (9, 0, 0, 0) fl_X10_49 dX10_count_201 (by decide) ⟨rfl, rfl⟩ rfl rfl ?_
    refine j_getI C fl_X10_266 dX10_count_204 (by decide) ⟨rfl, rfl⟩ rfl ?_
    obtain ⟨rfl, rfl⟩ := pr_x h
    exact j_iret C dX10_count_207
  have h := ite_f c24 h
  by_cases c25 : a1 = (12 : Int32)
  · have h := ite_t c25 h
    refine j_tabIn C (off := 207) (12 : Int32) 208 dX10_count_1 c25 ⟨by decide, by decide⟩ (by decide +kernel) (by decide) ?_
    refine j_aload_n C 0 dX10_count_208 rfl rfl ?_
    refine j_getS C (9, 0, 0, 0) fl_X10_49 dX10_count_209 (by decide) ⟨rfl, rfl⟩ rfl rfl ?_
    refine j_getS C (0, 0, 0, 0) fl_X10_159 dX10_count_212 (by decide) ⟨rfl, rfl⟩ rfl rfl ?_
    refine j_getI C fl_X10_209 dX10_count_215 (V_90 (by decide)) ⟨rfl, rfl⟩ rfl ?_
    obtain ⟨rfl, rfl⟩ := pr_x h
    exact j_iret C dX10_count_218
  have h := ite_f c25 h
  by_cases c26 : a1 = (13 : Int32)
  · have h := ite_t c26 h
    refine j_tabIn C (off := 218) (13 : Int32) 219 dX10_count_1 c26 ⟨by decide, by decide⟩ (by decide +kernel) (by decide) ?_
    refine j_aload_n C 0 dX10_count_219 rfl rfl ?_
    refine j_getS C (9, 0, 0, 0) fl_X10_49 dX10_count_220 (by decide) ⟨rfl, rfl⟩ rfl rfl ?_
    refine j_getI C fl_X10_278 dX10_count_223 (by decide) ⟨rfl, rfl⟩ rfl ?_
    obtain ⟨rfl, rfl⟩ := pr_x h
    exact j_iret C dX10_count_226
  have h := ite_f c26 h
  by_cases c27 : a1 = (14 : Int32)
  · have h := ite_t c27 h
    refine j_tabIn C (off := 226) (14 : Int32) 227 dX10_count_1 c27 ⟨by decide, by decide⟩ (by decide +kernel) (by decide) ?_
    refine j_aload_n C 0 dX10_count_227 rfl rfl ?_
    refine j_getS C (2, 0, 0, 0) fl_X10_12 dX10_count_228 (by decide) ⟨rfl, rfl⟩ rfl rfl ?_
    refine j_getI C fl_X10_77 dX10_count_231 (by decide) ⟨rfl, rfl⟩ rfl ?_
    obtain ⟨rfl, rfl⟩ := pr_x h
    exact j_iret C dX10_count_234
  have h := ite_f c27 h
  refine j_tabOut C 235 dX10_count_1 (by have z0 : a1.toInt ≠ 0 := ne_toInt c1; have z1 : a1.toInt ≠ 1 := ne_toInt c2; have z2 : a1.toInt ≠ 2 := ne_toInt c3; have z3 : a1.toInt ≠ 3 := ne_toInt c4; have z4 : a1.toInt ≠ 4 := ne_toInt c5; have z5 : a1.toInt ≠ 5 := ne_toInt c6; have z6 : a1.toInt ≠ 6 := ne_toInt c7; have z7 : a1.toInt ≠ 7 := ne_toInt c11; have z8 : a1.toInt ≠ 8 := ne_toInt c15; have z9 : a1.toInt ≠ 9 := ne_toInt c19; have z10 : a1.toInt ≠ 10 := ne_toInt c23; have z11 : a1.toInt ≠ 11 := ne_toInt c24; have z12 : a1.toInt ≠ 12 := ne_toInt c25; have z13 : a1.toInt ≠ 13 := ne_toInt c26; have z14 : a1.toInt ≠ 14 := ne_toInt c27; omega) (by decide) ?_
  refine j_iconst C (-1 : Int32) (by decide) dX10_count_235 ?_
  obtain ⟨rfl, rfl⟩ := pr_x h
  exact j_iret C dX10_count_236
def F_X10_image (a1 : Int32) (D : Dt) : Option (Int32 × Dt) := (cbd (F_X10_within a1 (0 : Int32) (3 : Int32) D) (fun r2 D3 => (if r2 = 0 then (some ((-1 : Int32), D3)) else (grd (inB a1 4 = true) (vbd (F_X9_copyFrom (a1.toNatClampNeg + 1) 0 D3) (fun D7 => (bnd (setI D7 (10, 0, 9, 0) (a1.toNatClampNeg) (vp_nar .boolean (1 : Int32))) (fun D8 => (some ((D8.1 (6, 0, 0, 0) 6), D8))))))))))
set_option maxRecDepth 100000 in
set_option maxHeartbeats 4000000 in
theorem M_X10_image {l : Launch} {G : Gt} {A : Nat → Prop} {lv : Nat} {a1 : Int32} {D : Dt} {r : Int32} {D' : Dt} (hG : Gok G A) (hlv : 5 ≤ lv)  (h : F_X10_image a1 D = some (r, D')) : MD l G A lv yX10_image cX10_image 2 (some .int) [.ref (ad G (10, 0, 0, 0)), .int a1] D (some (.int r)) D' := by
  unfold F_X10_image at h
  refine md_start RX10 hG (by decide +kernel) rfl (Nat.le_of_ble_eq_true rfl) (L := [(0, .ref (ad G (10, 0, 0, 0))), (1, .int a1)]) rfl (fun X C => ?_)
  refine j_iload_n C 1 dX10_image_0 rfl rfl ?_
  refine j_iconst C (0 : Int32) (by decide) dX10_image_1 ?_
  refine j_iconst C (3 : Int32) (by decide) dX10_image_2 ?_
  obtain ⟨r2, D3, h1, h⟩ := cbd_x h
  refine j_callS C [.int a1, .int (0 : Int32), .int (3 : Int32)] [] cl_X10_85 (M_X10_within (lv := lv - 1) hG (by omega) h1) (by omega) dX10_image_3 rfl rfl (Nat.le_of_ble_eq_true rfl) ?_
  refine j_st (st' := [.int r2]) rfl ?_
  refine j_if_ne C 11 dX10_image_6 (by decide) (fun c4 => ?_) (fun c4 => ?_)
  · have h := ite_f c4 h
    refine j_aload_n C 0 dX10_image_11 rfl rfl ?_
    refine j_getS C (10, 0, 8, 0) fl_X10_53 dX10_image_12 (by decide) ⟨rfl, rfl⟩ rfl rfl ?_
    refine j_iload_n C 1 dX10_image_15 rfl rfl ?_
    obtain ⟨g5, h⟩ := grd_x h
    refine j_aald C 6 4 (9, (a1.toNatClampNeg + 1), 0, 0) dX10_image_16 (V_f 7 (by decide) (by decide)) rfl (by decide) g5 rfl ?_
    refine j_aload_n C 0 dX10_image_17 rfl rfl ?_
    refine j_getS C (9, 0, 0, 0) fl_X10_49 dX10_image_18 (by decide) ⟨rfl, rfl⟩ rfl rfl ?_
    obtain ⟨D7, h6, h⟩ := vbd_x h
    refine j_callV C [.ref (ad G (9, 0, 0, 0))] [] cl_X10_294 (M_X9_copyFrom (lv := lv - 1) hG (by omega) h6) (by omega) dX10_image_21 (V_img g5) ⟨rfl, rfl⟩ rfl rfl (Nat.le_of_ble_eq_true rfl) ?_
    refine j_st (st' := []) rfl ?_
    refine j_aload_n C 0 dX10_image_24 rfl rfl ?_
    refine j_getS C (10, 0, 9, 0) fl_X10_57 dX10_image_25 (by decide) ⟨rfl, rfl⟩ rfl rfl ?_
    refine j_iload_n C 1 dX10_image_28 rfl rfl ?_
    refine j_iconst C (1 : Int32) (by decide) dX10_image_29 ?_
    obtain ⟨D8, eD8, h⟩ := bnd_x h
    refine j_zastK C 4 (a1.toNatClampNeg) dX10_image_30 (V_f 8 (by decide) (by decide)) rfl g5 rfl ?_
    refine j_rep eD8 ?_
    refine j_aload_n C 0 dX10_image_31 rfl rfl ?_
    refine j_getS C (9, 0, 0, 0) fl_X10_49 dX10_image_32 (by decide) ⟨rfl, rfl⟩ rfl rfl ?_
    refine j_getS C (6, 0, 0, 0) fl_X10_122 dX10_image_35 (by decide) ⟨rfl, rfl⟩ rfl rfl ?_
    refine j_getI C fl_X10_156 dX10_image_38 (by decide) ⟨rfl, rfl⟩ rfl ?_
    obtain ⟨rfl, rfl⟩ := pr_x h
    exact j_iret C dX10_image_41
  · have h := ite_t c4 h
    refine j_iconst C (-1 : Int32) (by decide) dX10_image_9 ?_
    obtain ⟨rfl, rfl⟩ := pr_x h
    exact j_iret C dX10_image_10
def F_X10_back (a1 : Int32) (D : Dt) : Option (Int32 × Dt) := (cbd (F_X10_within a1 (0 : Int32) (3 : Int32) D) (fun r2 D3 => (if r2 = 0 then (some ((-1 : Int32), D3)) else (grd (inB a1 4 = true) (if (D3.1 (10, 0, 9, 0) (a1.toNatClampNeg)) = 0 then (some ((-1 : Int32), D3)) else (vbd (F_X9_copyFrom 0 (a1.toNatClampNeg + 1) D3) (fun D8 => (some ((D8.1 (6, 0, 0, 0) 6), D8)))))))))
set_option maxRecDepth 100000 in
set_option maxHeartbeats 4000000 in
theorem M_X10_back {l : Launch} {G : Gt} {A : Nat → Prop} {lv : Nat} {a1 : Int32} {D : Dt} {r : Int32} {D' : Dt} (hG : Gok G A) (hlv : 5 ≤ lv)  (h : F_X10_back a1 D = some (r, D')) : MD l G A lv yX10_back cX10_back 2 (some .int) [.ref (ad G (10, 0, 0, 0)), .int a1] D (some (.int r)) D' := by
  unfold F_X10_back at h
  refine md_start RX10 hG (by decide +kernel) rfl (Nat.le_of_ble_eq_true rfl) (L := [(0, .ref (ad G (10, 0, 0, 0))), (1, .int a1)]) rfl (fun X C => ?_)
  refine j_iload_n C 1 dX10_back_0 rfl rfl ?_
  refine j_iconst C (0 : Int32) (by decide) dX10_back_1 ?_
  refine j_iconst C (3 : Int32) (by decide) dX10_back_2 ?_
  obtain ⟨r2, D3, h1, h⟩ := cbd_x h
  refine j_callS C [.int a1, .int (0 : Int32), .int (3 : Int32)] [] cl_X10_85 (M_X10_within (lv := lv - 1) hG (by omega) h1) (by omega) dX10_back_3 rfl rfl (Nat.le_of_ble_eq_true rfl) ?_
  refine j_st (st' := [.int r2]) rfl ?_
  refine j_if_eq C 18 dX10_back_6 (by decide) (fun c4 => ?_) (fun c4 => ?_)
  · have h := ite_t c4 h
    refine j_iconst C (-1 : Int32) (by decide) dX10_back_18 ?_
    obtain ⟨rfl, rfl⟩ := pr_x h
    exact j_iret C dX10_back_19
  · have h := ite_f c4 h
    refine j_aload_n C 0 dX10_back_9 rfl rfl ?_
    refine j_getS C (10, 0, 9, 0) fl_X10_57 dX10_back_10 (by decide) ⟨rfl, rfl⟩ rfl rfl ?_
    refine j_iload_n C 1 dX10_back_13 rfl rfl ?_
    obtain ⟨g5, h⟩ := grd_x h
    refine j_zaldK C 4 (a1.toNatClampNeg) dX10_back_14 (V_f 8 (by decide) (by decide)) rfl g5 rfl ?_
    refine j_if_ne C 20 dX10_back_15 (by decide) (fun c6 => ?_) (fun c6 => ?_)
    · have h := ite_f c6 h
      refine j_aload_n C 0 dX10_back_20 rfl rfl ?_
      refine j_getS C (9, 0, 0, 0) fl_X10_49 dX10_back_21 (by decide) ⟨rfl, rfl⟩ rfl rfl ?_
      refine j_aload_n C 0 dX10_back_24 rfl rfl ?_
      refine j_getS C (10, 0, 8, 0) fl_X10_53 dX10_back_25 (by decide) ⟨rfl, rfl⟩ rfl rfl ?_
      refine j_iload_n C 1 dX10_back_28 rfl rfl ?_
      refine j_aald C 6 4 (9, (a1.toNatClampNeg + 1), 0, 0) dX10_back_29 (V_f 7 (by decide) (by decide)) rfl (by decide) g5 rfl ?_
      obtain ⟨D8, h7, h⟩ := vbd_x h
      refine j_callV C [.ref (ad G (9, (a1.toNatClampNeg + 1), 0, 0))] [] cl_X10_294 (M_X9_copyFrom (lv := lv - 1) hG (by omega) h7) (by omega) dX10_back_30 (by decide) ⟨rfl, rfl⟩ rfl rfl (Nat.le_of_ble_eq_true rfl) ?_
      refine j_st (st' := []) rfl ?_
      refine j_aload_n C 0 dX10_back_33 rfl rfl ?_
      refine j_getS C (9, 0, 0, 0) fl_X10_49 dX10_back_34 (by decide) ⟨rfl, rfl⟩ rfl rfl ?_
      refine j_getS C (6, 0, 0, 0) fl_X10_122 dX10_back_37 (by decide) ⟨rfl, rfl⟩ rfl rfl ?_
      refine j_getI C fl_X10_156 dX10_back_40 (by decide) ⟨rfl, rfl⟩ rfl ?_
      obtain ⟨rfl, rfl⟩ := pr_x h
      exact j_iret C dX10_back_43
    · have h := ite_t c6 h
      refine j_iconst C (-1 : Int32) (by decide) dX10_back_18 ?_
      obtain ⟨rfl, rfl⟩ := pr_x h
      exact j_iret C dX10_back_19
def F_X11_in (a1 : Int64) (a2 : Int64) (a3 : Int64) (D : Dt) : Option (Int32 × Dt) := (if (lg_cmp a1 a2) < 0 then (some ((0 : Int32), D)) else (if 0 < (lg_cmp a1 a3) then (some ((0 : Int32), D)) else (some ((1 : Int32), D))))
set_option maxRecDepth 100000 in
set_option maxHeartbeats 4000000 in
theorem M_X11_in {l : Launch} {G : Gt} {A : Nat → Prop} {lv : Nat} {a1 : Int64} {a2 : Int64} {a3 : Int64} {D : Dt} {r : Int32} {D' : Dt} (hG : Gok G A) (hlv : 1 ≤ lv)  (h : F_X11_in a1 a2 a3 D = some (r, D')) : MD l G A lv yX11_in cX11_in 6 (some .boolean) [.long a1, .long a2, .long a3] D (some (.int r)) D' := by
  unfold F_X11_in at h
  refine md_start RX11 hG (by decide +kernel) rfl (Nat.le_of_ble_eq_true rfl) (L := [(0, .long a1), (2, .long a2), (4, .long a3)]) rfl (fun X C => ?_)
  refine j_lload_n C 0 dX11_in_0 rfl rfl ?_
  refine j_lload_n C 1 dX11_in_1 rfl rfl ?_
  refine j_lcmp C dX11_in_2 ?_
  refine j_if_lt C 17 dX11_in_3 (by decide) (fun c1 => ?_) (fun c1 => ?_)
  · have h := ite_t c1 h
    refine j_iconst C (0 : Int32) (by decide) dX11_in_17 ?_
    obtain ⟨rfl, rfl⟩ := pr_x h
    exact j_zret C (Or.inl rfl) dX11_in_18
  · have h := ite_f c1 h
    refine j_lload_n C 0 dX11_in_6 rfl rfl ?_
    refine j_lload C 2 dX11_in_7 rfl ?_
    refine j_lcmp C dX11_in_9 ?_
    refine j_if_gt C 17 dX11_in_10 (by decide) (fun c2 => ?_) (fun c2 => ?_)
    · have h := ite_t c2 h
      refine j_iconst C (0 : Int32) (by decide) dX11_in_17 ?_
      obtain ⟨rfl, rfl⟩ := pr_x h
      exact j_zret C (Or.inl rfl) dX11_in_18
    · have h := ite_f c2 h
      refine j_iconst C (1 : Int32) (by decide) dX11_in_13 ?_
      refine j_goto C 18 dX11_in_14 (by decide) ?_
      obtain ⟨rfl, rfl⟩ := pr_x h
      exact j_zret C (Or.inr rfl) dX11_in_18
def F_X11_bits_b4 (a1 : Int32)  : Nat → Int32 → Int32 → Int32 → Dt → Option (Int32 × Dt)
  | 0, _, _, _, _ => none
  | f + 1, l0, l1, l2, D => (if (16 : Int32) ≤ l2 then (some (l1, D)) else (bnd (l1 + ((l0 >>> (l2 &&& 31)) &&& (1 : Int32))) (fun v2 => (bnd (l2 + (1 : Int32)) (fun v3 => (F_X11_bits_b4 a1 f l0 v2 v3 D))))))
set_option maxRecDepth 100000 in
set_option maxHeartbeats 4000000 in
theorem T_X11_bits_b4 {r : Int32} {D' : Dt} {X : Ctx} {l : Launch} {G : Gt} {A : Nat → Prop} {lv : Nat} {a1 : Int32}   (hG : Gok G A) (hlv : 1 ≤ lv)   (C : Cx X cX11_bits RX11 G l A lv 3 (some .int) (some (.int r)) D')  : ∀ (f : Nat) (l0 : Int32) (l1 : Int32) (l2 : Int32) (D : Dt), F_X11_bits_b4 a1 f l0 l1 l2 D = some (r, D') → J X (Rep G D) 4 [(0, .int l0), (1, .int l1), (2, .int l2)] [] := by
  intro f
  induction f with
  | zero =>
    intro l0 l1 l2 D h
    exact nomatch h
  | succ f ih =>
    intro l0 l1 l2 D h
    rw [F_X11_bits_b4] at h
    refine j_iload_n C 2 dX11_bits_4 rfl rfl ?_
    refine j_bipush C (16 : Int32) (by decide) dX11_bits_5 ?_
    refine j_icmp_ge C 24 dX11_bits_7 (by decide) (fun c1 => ?_) (fun c1 => ?_)
    · have h := ite_t c1 h
      refine j_iload_n C 1 dX11_bits_24 rfl rfl ?_
      obtain ⟨rfl, rfl⟩ := pr_x h
      exact j_iret C dX11_bits_25
    · have h := ite_f c1 h
      refine j_iload_n C 1 dX11_bits_10 rfl rfl ?_
      refine j_iload_n C 0 dX11_bits_11 rfl rfl ?_
      refine j_iload_n C 2 dX11_bits_12 rfl rfl ?_
      refine j_ishr C dX11_bits_13 ?_
      refine j_iconst C (1 : Int32) (by decide) dX11_bits_14 ?_
      refine j_iand C dX11_bits_15 ?_
      refine j_iadd C dX11_bits_16 ?_
      obtain ⟨v2, ev2, h⟩ := bnd_x h
      refine j_istore_n C [(1, .int v2), (0, .int l0), (2, .int l2)] dX11_bits_17 rfl (Nat.le_of_ble_eq_true rfl) ev2 rfl ?_
      obtain ⟨v3, ev3, h⟩ := bnd_x h
      refine j_iinc C 2 [(2, .int v3), (1, .int v2), (0, .int l0)] dX11_bits_18 rfl (Nat.le_of_ble_eq_true rfl) (ev3.trans (congrArg (l2 + ·) (by decide))) rfl ?_
      refine j_goto C 4 dX11_bits_21 (by decide) ?_
      refine j_sub [2, 1, 0] [(0, .int l0), (1, .int v2), (2, .int v3)] rfl ?_
      exact ih l0 v2 v3 D h
def F_X11_bits (a1 : Int32) (D : Dt) : Option (Int32 × Dt) := (F_X11_bits_b4 a1 2000 a1 (0 : Int32) (0 : Int32) D)
set_option maxRecDepth 100000 in
set_option maxHeartbeats 4000000 in
theorem M_X11_bits {l : Launch} {G : Gt} {A : Nat → Prop} {lv : Nat} {a1 : Int32} {D : Dt} {r : Int32} {D' : Dt} (hG : Gok G A) (hlv : 1 ≤ lv)  (h : F_X11_bits a1 D = some (r, D')) : MD l G A lv yX11_bits cX11_bits 3 (some .int) [.int a1] D (some (.int r)) D' := by
  unfold F_X11_bits at h
  refine md_start RX11 hG (by decide +kernel) rfl (Nat.le_of_ble_eq_true rfl) (L := [(0, .int a1)]) rfl (fun X C => ?_)
  refine j_iconst C (0 : Int32) (by decide) dX11_bits_0 ?_
  refine j_istore_n C [(1, .int (0 : Int32)), (0, .int a1)] dX11_bits_1 rfl (Nat.le_of_ble_eq_true rfl) rfl rfl ?_
  refine j_iconst C (0 : Int32) (by decide) dX11_bits_2 ?_
  refine j_istore_n C [(2, .int (0 : Int32)), (1, .int (0 : Int32)), (0, .int a1)] dX11_bits_3 rfl (Nat.le_of_ble_eq_true rfl) rfl rfl ?_
  refine j_sub [2, 1, 0] [(0, .int a1), (1, .int (0 : Int32)), (2, .int (0 : Int32))] rfl ?_
  refine T_X11_bits_b4 hG hlv  C  2000 a1 (0 : Int32) (0 : Int32) D h
def F_X11_has (a1 : Int32) (a2 : Int32) (D : Dt) : Option (Int32 × Dt) := (if ((a1 >>> (a2 &&& 31)) &&& (1 : Int32)) = (1 : Int32) then (some ((1 : Int32), D)) else (some ((0 : Int32), D)))
set_option maxRecDepth 100000 in
set_option maxHeartbeats 4000000 in
theorem M_X11_has {l : Launch} {G : Gt} {A : Nat → Prop} {lv : Nat} {a1 : Int32} {a2 : Int32} {D : Dt} {r : Int32} {D' : Dt} (hG : Gok G A) (hlv : 1 ≤ lv)  (h : F_X11_has a1 a2 D = some (r, D')) : MD l G A lv yX11_has cX11_has 2 (some .boolean) [.int a1, .int a2] D (some (.int r)) D' := by
  unfold F_X11_has at h
  refine md_start RX11 hG (by decide +kernel) rfl (Nat.le_of_ble_eq_true rfl) (L := [(0, .int a1), (1, .int a2)]) rfl (fun X C => ?_)
  refine j_iload_n C 0 dX11_has_0 rfl rfl ?_
  refine j_iload_n C 1 dX11_has_1 rfl rfl ?_
  refine j_ishr C dX11_has_2 ?_
  refine j_iconst C (1 : Int32) (by decide) dX11_has_3 ?_
  refine j_iand C dX11_has_4 ?_
  refine j_iconst C (1 : Int32) (by decide) dX11_has_5 ?_
  refine j_icmp_ne C 13 dX11_has_6 (by decide) (fun c1 => ?_) (fun c1 => ?_)
  · have h := ite_f c1 h
    refine j_iconst C (0 : Int32) (by decide) dX11_has_13 ?_
    obtain ⟨rfl, rfl⟩ := pr_x h
    exact j_zret C (Or.inl rfl) dX11_has_14
  · have h := ite_t c1 h
    refine j_iconst C (1 : Int32) (by decide) dX11_has_9 ?_
    refine j_goto C 14 dX11_has_10 (by decide) ?_
    obtain ⟨rfl, rfl⟩ := pr_x h
    exact j_zret C (Or.inr rfl) dX11_has_14
def F_X11_isTable  (D : Dt) : Option (Int32 × Dt) := (if (D.1 (11, 0, 2, 0) 0) ≤ 0 then (some ((0 : Int32), D)) else (some ((1 : Int32), D)))
set_option maxRecDepth 100000 in
set_option maxHeartbeats 4000000 in
theorem M_X11_isTable {l : Launch} {G : Gt} {A : Nat → Prop} {lv : Nat}  {D : Dt} {r : Int32} {D' : Dt} (hG : Gok G A) (hlv : 1 ≤ lv)  (h : F_X11_isTable  D = some (r, D')) : MD l G A lv yX11_isTable cX11_isTable 1 (some .boolean) [.ref (ad G (11, 0, 0, 0))] D (some (.int r)) D' := by
  unfold F_X11_isTable at h
  refine md_start RX11 hG (by decide +kernel) rfl (Nat.le_of_ble_eq_true rfl) (L := [(0, .ref (ad G (11, 0, 0, 0)))]) rfl (fun X C => ?_)
  refine j_aload_n C 0 dX11_isTable_0 rfl rfl ?_
  refine j_getS C (11, 0, 2, 0) fl_X11_9 dX11_isTable_1 (by decide) ⟨rfl, rfl⟩ rfl rfl ?_
  refine j_iconst C (0 : Int32) (by decide) dX11_isTable_4 ?_
  refine j_ialdK C 9 0 dX11_isTable_5 (V_f 1 (by decide) (by decide)) rfl (by decide) (by decide) ?_
  refine j_if_le C 13 dX11_isTable_6 (by decide) (fun c1 => ?_) (fun c1 => ?_)
  · have h := ite_t c1 h
    refine j_iconst C (0 : Int32) (by decide) dX11_isTable_13 ?_
    obtain ⟨rfl, rfl⟩ := pr_x h
    exact j_zret C (Or.inl rfl) dX11_isTable_14
  · have h := ite_f c1 h
    refine j_iconst C (1 : Int32) (by decide) dX11_isTable_9 ?_
    refine j_goto C 14 dX11_isTable_10 (by decide) ?_
    obtain ⟨rfl, rfl⟩ := pr_x h
    exact j_zret C (Or.inr rfl) dX11_isTable_14
def F_X11_isLand (a1 : Int32) (D : Dt) : Option (Int32 × Dt) := (cbd (F_X11_in a1.toInt64 (0 : Int64) (((D.1 (11, 0, 2, 0) 2) - (1 : Int32)).toInt64) D) (fun r2 D3 => (grd (r2 = 0 ∨ r2 = 1) (some (r2, D3)))))
set_option maxRecDepth 100000 in
set_option maxHeartbeats 4000000 in
theorem M_X11_isLand {l : Launch} {G : Gt} {A : Nat → Prop} {lv : Nat} {a1 : Int32} {D : Dt} {r : Int32} {D' : Dt} (hG : Gok G A) (hlv : 2 ≤ lv)  (h : F_X11_isLand a1 D = some (r, D')) : MD l G A lv yX11_isLand cX11_isLand 2 (some .boolean) [.ref (ad G (11, 0, 0, 0)), .int a1] D (some (.int r)) D' := by
  unfold F_X11_isLand at h
  refine md_start RX11 hG (by decide +kernel) rfl (Nat.le_of_ble_eq_true rfl) (L := [(0, .ref (ad G (11, 0, 0, 0))), (1, .int a1)]) rfl (fun X C => ?_)
  refine j_iload_n C 1 dX11_isLand_0 rfl rfl ?_
  refine j_i2l C dX11_isLand_1 ?_
  refine j_lconst C (0 : Int64) (by decide) dX11_isLand_2 ?_
  refine j_aload_n C 0 dX11_isLand_3 rfl rfl ?_
  refine j_getS C (11, 0, 2, 0) fl_X11_9 dX11_isLand_4 (by decide) ⟨rfl, rfl⟩ rfl rfl ?_
  refine j_iconst C (2 : Int32) (by decide) dX11_isLand_7 ?_
  refine j_ialdK C 9 2 dX11_isLand_8 (V_f 1 (by decide) (by decide)) rfl (by decide) (by decide) ?_
  refine j_iconst C (1 : Int32) (by decide) dX11_isLand_9 ?_
  refine j_isub C dX11_isLand_10 ?_
  refine j_i2l C dX11_isLand_11 ?_
  obtain ⟨r2, D3, h1, h⟩ := cbd_x h
  refine j_callS C [.long a1.toInt64, .long (0 : Int64), .long (((D.1 (11, 0, 2, 0) 2) - (1 : Int32)).toInt64)] [] cl_X11_134 (M_X11_in (lv := lv - 1) hG (by omega) h1) (by omega) dX11_isLand_12 rfl rfl (Nat.le_of_ble_eq_true rfl) ?_
  refine j_st (st' := [.int r2]) rfl ?_
  obtain ⟨g4, h⟩ := grd_x h
  obtain ⟨rfl, rfl⟩ := pr_x h
  exact j_zret C g4 dX11_isLand_15
def F_X11_put_b3 (a1 : Int32)  : Nat → Int32 → Int32 → Dt → Option Dt
  | 0, _, _, _ => none
  | f + 1, l1, l2, D => (if l2 < 0 then (some D) else (grd (inB (D.1 (11, 0, 0, 0) 19) 400 = true) (bnd (setI D (11, 0, 30, 0) ((D.1 (11, 0, 0, 0) 19).toNatClampNeg) (vp_nar .byte ((l1 >>> (l2 &&& 31)).toInt8.toInt32))) (fun D3 => (bnd (setI D3 (11, 0, 0, 0) 19 ((D3.1 (11, 0, 0, 0) 19) + (1 : Int32))) (fun D4 => (bnd (l2 + (-8 : Int32)) (fun v5 => (F_X11_put_b3 a1 f l1 v5 D4)))))))))
set_option maxRecDepth 100000 in
set_option maxHeartbeats 4000000 in
theorem T_X11_put_b3 {D' : Dt} {X : Ctx} {l : Launch} {G : Gt} {A : Nat → Prop} {lv : Nat} {a1 : Int32}   (hG : Gok G A) (hlv : 1 ≤ lv)   (C : Cx X cX11_put RX11 G l A lv 3 none none D')  : ∀ (f : Nat) (l1 : Int32) (l2 : Int32) (D : Dt), F_X11_put_b3 a1 f l1 l2 D = some D' → J X (Rep G D) 3 [(0, .ref (ad G (11, 0, 0, 0))), (1, .int l1), (2, .int l2)] [] := by
  intro f
  induction f with
  | zero =>
    intro l1 l2 D h
    exact nomatch h
  | succ f ih =>
    intro l1 l2 D h
    rw [F_X11_put_b3] at h
    refine j_iload_n C 2 dX11_put_3 rfl rfl ?_
    refine j_if_lt C 36 dX11_put_4 (by decide) (fun c1 => ?_) (fun c1 => ?_)
    · have h := ite_t c1 h
      obtain rfl := Option.some.inj h
      exact j_vret C dX11_put_36
    · have h := ite_f c1 h
      refine j_aload_n C 0 dX11_put_7 rfl rfl ?_
      refine j_getS C (11, 0, 30, 0) fl_X11_68 dX11_put_8 (by decide) ⟨rfl, rfl⟩ rfl rfl ?_
      refine j_aload_n C 0 dX11_put_11 rfl rfl ?_
      refine j_getI C fl_X11_138 dX11_put_12 (by decide) ⟨rfl, rfl⟩ rfl ?_
      refine j_iload_n C 1 dX11_put_15 rfl rfl ?_
      refine j_iload_n C 2 dX11_put_16 rfl rfl ?_
      refine j_ishr C dX11_put_17 ?_
      refine j_i2b C dX11_put_18 ?_
      obtain ⟨g2, h⟩ := grd_x h
      obtain ⟨D3, eD3, h⟩ := bnd_x h
      refine j_bastK C 400 ((D.1 (11, 0, 0, 0) 19).toNatClampNeg) dX11_put_19 (V_f 29 (by decide) (by decide)) rfl g2 rfl ?_
      refine j_rep eD3 ?_
      refine j_aload_n C 0 dX11_put_20 rfl rfl ?_
      refine j_dup C rfl dX11_put_21 ?_
      refine j_getI C fl_X11_138 dX11_put_22 (by decide) ⟨rfl, rfl⟩ rfl ?_
      refine j_iconst C (1 : Int32) (by decide) dX11_put_25 ?_
      refine j_iadd C dX11_put_26 ?_
      obtain ⟨D4, eD4, h⟩ := bnd_x h
      refine j_putI C fl_X11_138 dX11_put_27 (by decide) ⟨rfl, rfl⟩ rfl rfl rfl ?_
      refine j_rep eD4 ?_
      obtain ⟨v5, ev5, h⟩ := bnd_x h
      refine j_iinc C 2 [(2, .int v5), (0, .ref (ad G (11, 0, 0, 0))), (1, .int l1)] dX11_put_30 rfl (Nat.le_of_ble_eq_true rfl) (ev5.trans (congrArg (l2 + ·) (by decide))) rfl ?_
      refine j_goto C 3 dX11_put_33 (by decide) ?_
      refine j_sub [1, 2, 0] [(0, .ref (ad G (11, 0, 0, 0))), (1, .int l1), (2, .int v5)] rfl ?_
      exact ih l1 v5 D4 h
def F_X11_put (a1 : Int32) (D : Dt) : Option Dt := (F_X11_put_b3 a1 2000 a1 (24 : Int32) D)
set_option maxRecDepth 100000 in
set_option maxHeartbeats 4000000 in
theorem M_X11_put {l : Launch} {G : Gt} {A : Nat → Prop} {lv : Nat} {a1 : Int32} {D : Dt} {D' : Dt} (hG : Gok G A) (hlv : 1 ≤ lv)  (h : F_X11_put a1 D = some D') : MD l G A lv yX11_put cX11_put 3 none [.ref (ad G (11, 0, 0, 0)), .int a1] D none D' := by
  unfold F_X11_put at h
  refine md_start RX11 hG (by decide +kernel) rfl (Nat.le_of_ble_eq_true rfl) (L := [(0, .ref (ad G (11, 0, 0, 0))), (1, .int a1)]) rfl (fun X C => ?_)
  refine j_bipush C (24 : Int32) (by decide) dX11_put_0 ?_
  refine j_istore_n C [(2, .int (24 : Int32)), (0, .ref (ad G (11, 0, 0, 0))), (1, .int a1)] dX11_put_2 rfl (Nat.le_of_ble_eq_true rfl) rfl rfl ?_
  refine j_sub [1, 2, 0] [(0, .ref (ad G (11, 0, 0, 0))), (1, .int a1), (2, .int (24 : Int32))] rfl ?_
  refine T_X11_put_b3 hG hlv  C  2000 a1 (24 : Int32) D h
def F_X11_feed (a1 : Int32) (a2 : Int32) (a3 : Int32) (a4 : Int32) (a5 : Int32) (D : Dt) : Option (Int32 × Dt) := (if ((D.1 (11, 0, 0, 0) 19) + (20 : Int32)) ≤ (400 : Int32) then (vbd (F_X11_put a1 D) (fun D3 => (vbd (F_X11_put a2 D3) (fun D5 => (vbd (F_X11_put a3 D5) (fun D7 => (vbd (F_X11_put a4 D7) (fun D9 => (vbd (F_X11_put a5 D9) (fun D11 => (some ((D11.1 (11, 0, 0, 0) 19), D11)))))))))))) else (some ((-1 : Int32), D)))
set_option maxRecDepth 100000 in
set_option maxHeartbeats 4000000 in
theorem M_X11_feed {l : Launch} {G : Gt} {A : Nat → Prop} {lv : Nat} {a1 : Int32} {a2 : Int32} {a3 : Int32} {a4 : Int32} {a5 : Int32} {D : Dt} {r : Int32} {D' : Dt} (hG : Gok G A) (hlv : 2 ≤ lv)  (h : F_X11_feed a1 a2 a3 a4 a5 D = some (r, D')) : MD l G A lv yX11_feed cX11_feed 6 (some .int) [.ref (ad G (11, 0, 0, 0)), .int a1, .int a2, .int a3, .int a4, .int a5] D (some (.int r)) D' := by
  unfold F_X11_feed at h
  refine md_start RX11 hG (by decide +kernel) rfl (Nat.le_of_ble_eq_true rfl) (L := [(0, .ref (ad G (11, 0, 0, 0))), (1, .int a1), (2, .int a2), (3, .int a3), (4, .int a4), (5, .int a5)]) rfl (fun X C => ?_)
  refine j_aload_n C 0 dX11_feed_0 rfl rfl ?_
  refine j_getI C fl_X11_138 dX11_feed_1 (by decide) ⟨rfl, rfl⟩ rfl ?_
  refine j_bipush C (20 : Int32) (by decide) dX11_feed_4 ?_
  refine j_iadd C dX11_feed_6 ?_
  refine j_sipush C (400 : Int32) (by decide) dX11_feed_7 ?_
  refine j_icmp_le C 15 dX11_feed_10 (by decide) (fun c1 => ?_) (fun c1 => ?_)
  · have h := ite_t c1 h
    refine j_aload_n C 0 dX11_feed_15 rfl rfl ?_
    refine j_iload_n C 1 dX11_feed_16 rfl rfl ?_
    obtain ⟨D3, h2, h⟩ := vbd_x h
    refine j_callV C [.int a1] [] cl_X11_141 (M_X11_put (lv := lv - 1) hG (by omega) h2) (by omega) dX11_feed_17 (by decide) ⟨rfl, rfl⟩ rfl rfl (Nat.le_of_ble_eq_true rfl) ?_
    refine j_st (st' := []) rfl ?_
    refine j_aload_n C 0 dX11_feed_20 rfl rfl ?_
    refine j_iload_n C 2 dX11_feed_21 rfl rfl ?_
    obtain ⟨D5, h4, h⟩ := vbd_x h
    refine j_callV C [.int a2] [] cl_X11_141 (M_X11_put (lv := lv - 1) hG (by omega) h4) (by omega) dX11_feed_22 (by decide) ⟨rfl, rfl⟩ rfl rfl (Nat.le_of_ble_eq_true rfl) ?_
    refine j_st (st' := []) rfl ?_
    refine j_aload_n C 0 dX11_feed_25 rfl rfl ?_
    refine j_iload_n C 3 dX11_feed_26 rfl rfl ?_
    obtain ⟨D7, h6, h⟩ := vbd_x h
    refine j_callV C [.int a3] [] cl_X11_141 (M_X11_put (lv := lv - 1) hG (by omega) h6) (by omega) dX11_feed_27 (by decide) ⟨rfl, rfl⟩ rfl rfl (Nat.le_of_ble_eq_true rfl) ?_
    refine j_st (st' := []) rfl ?_
    refine j_aload_n C 0 dX11_feed_30 rfl rfl ?_
    refine j_iload C 4 dX11_feed_31 rfl ?_
    obtain ⟨D9, h8, h⟩ := vbd_x h
    refine j_callV C [.int a4] [] cl_X11_141 (M_X11_put (lv := lv - 1) hG (by omega) h8) (by omega) dX11_feed_33 (by decide) ⟨rfl, rfl⟩ rfl rfl (Nat.le_of_ble_eq_true rfl) ?_
    refine j_st (st' := []) rfl ?_
    refine j_aload_n C 0 dX11_feed_36 rfl rfl ?_
    refine j_iload C 5 dX11_feed_37 rfl ?_
    obtain ⟨D11, h10, h⟩ := vbd_x h
    refine j_callV C [.int a5] [] cl_X11_141 (M_X11_put (lv := lv - 1) hG (by omega) h10) (by omega) dX11_feed_39 (by decide) ⟨rfl, rfl⟩ rfl rfl (Nat.le_of_ble_eq_true rfl) ?_
    refine j_st (st' := []) rfl ?_
    refine j_aload_n C 0 dX11_feed_42 rfl rfl ?_
    refine j_getI C fl_X11_138 dX11_feed_43 (by decide) ⟨rfl, rfl⟩ rfl ?_
    obtain ⟨rfl, rfl⟩ := pr_x h
    exact j_iret C dX11_feed_46
  · have h := ite_f c1 h
    refine j_iconst C (-1 : Int32) (by decide) dX11_feed_13 ?_
    obtain ⟨rfl, rfl⟩ := pr_x h
    exact j_iret C dX11_feed_14
def F_X11_end (a1 : Int32) (D : Dt) : Option (Int32 × Dt) := (if a1 < 0 then (some ((-1 : Int32), D)) else (if a1 ≤ (D.1 (11, 0, 0, 0) 19) then (bnd (setI D (11, 0, 0, 0) 19 a1) (fun D3 => (some (a1, D3)))) else (some ((-1 : Int32), D))))
set_option maxRecDepth 100000 in
set_option maxHeartbeats 4000000 in
theorem M_X11_end {l : Launch} {G : Gt} {A : Nat → Prop} {lv : Nat} {a1 : Int32} {D : Dt} {r : Int32} {D' : Dt} (hG : Gok G A) (hlv : 1 ≤ lv)  (h : F_X11_end a1 D = some (r, D')) : MD l G A lv yX11_end cX11_end 2 (some .int) [.ref (ad G (11, 0, 0, 0)), .int a1] D (some (.int r)) D' := by
  unfold F_X11_end at h
  refine md_start RX11 hG (by decide +kernel) rfl (Nat.le_of_ble_eq_true rfl) (L := [(0, .ref (ad G (11, 0, 0, 0))), (1, .int a1)]) rfl (fun X C => ?_)
  refine j_iload_n C 1 dX11_end_0 rfl rfl ?_
  refine j_if_lt C 12 dX11_end_1 (by decide) (fun c1 => ?_) (fun c1 => ?_)
  · have h := ite_t c1 h
    refine j_iconst C (-1 : Int32) (by decide) dX11_end_12 ?_
    obtain ⟨rfl, rfl⟩ := pr_x h
    exact j_iret C dX11_end_13
  · have h := ite_f c1 h
    refine j_iload_n C 1 dX11_end_4 rfl rfl ?_
    refine j_aload_n C 0 dX11_end_5 rfl rfl ?_
    refine j_getI C fl_X11_138 dX11_end_6 (by decide) ⟨rfl, rfl⟩ rfl ?_
    refine j_icmp_le C 14 dX11_end_9 (by decide) (fun c2 => ?_) (fun c2 => ?_)
    · have h := ite_t c2 h
      refine j_aload_n C 0 dX11_end_14 rfl rfl ?_
      refine j_iload_n C 1 dX11_end_15 rfl rfl ?_
      obtain ⟨D3, eD3, h⟩ := bnd_x h
      refine j_putI C fl_X11_138 dX11_end_16 (by decide) ⟨rfl, rfl⟩ rfl rfl rfl ?_
      refine j_rep eD3 ?_
      refine j_iload_n C 1 dX11_end_19 rfl rfl ?_
      obtain ⟨rfl, rfl⟩ := pr_x h
      exact j_iret C dX11_end_20
    · have h := ite_f c2 h
      refine j_iconst C (-1 : Int32) (by decide) dX11_end_12 ?_
      obtain ⟨rfl, rfl⟩ := pr_x h
      exact j_iret C dX11_end_13
def F_X11_wordOf (a1 : Int32) (D : Dt) : Option (Nat × Dt) := (if a1 = (0 : Int32) then (some (3, D)) else if a1 = (1 : Int32) then (some (6, D)) else if a1 = (2 : Int32) then (some (7, D)) else if a1 = (3 : Int32) then (some (4, D)) else if a1 = (4 : Int32) then (some (8, D)) else if a1 = (5 : Int32) then (some (9, D)) else if a1 = (6 : Int32) then (some (10, D)) else if a1 = (7 : Int32) then (some (11, D)) else if a1 = (8 : Int32) then (some (12, D)) else if a1 = (9 : Int32) then (some (13, D)) else if a1 = (10 : Int32) then (some (14, D)) else (some (15, D)))
set_option maxRecDepth 100000 in
set_option maxHeartbeats 4000000 in
theorem M_X11_wordOf {l : Launch} {G : Gt} {A : Nat → Prop} {lv : Nat} {a1 : Int32} {D : Dt} {r : Nat} {D' : Dt} (hG : Gok G A) (hlv : 1 ≤ lv)  (h : F_X11_wordOf a1 D = some (r, D')) : MD l G A lv yX11_wordOf cX11_wordOf 1 (some (.object "java/lang/String")) [.int a1] D (some (.ref (sK G r))) D' := by
  unfold F_X11_wordOf at h
  refine md_start RX11 hG (by decide +kernel) rfl (Nat.le_of_ble_eq_true rfl) (L := [(0, .int a1)]) rfl (fun X C => ?_)
  refine j_iload_n C 0 dX11_wordOf_0 rfl rfl ?_
  by_cases c1 : a1 = (0 : Int32)
  · have h := ite_t c1 h
    refine j_tabIn C (off := 59) (0 : Int32) 60 dX11_wordOf_1 c1 ⟨by decide, by decide⟩ (by decide +kernel) (by decide) ?_
    refine j_ldcS C 3 rfl dX11_wordOf_60 ?_
    obtain ⟨rfl, rfl⟩ := pr_x h
    exact j_aret C (Or.inr ⟨_, rfl⟩) dX11_wordOf_62
  have h := ite_f c1 h
  by_cases c2 : a1 = (1 : Int32)
  · have h := ite_t c2 h
    refine j_tabIn C (off := 62) (1 : Int32) 63 dX11_wordOf_1 c2 ⟨by decide, by decide⟩ (by decide +kernel) (by decide) ?_
    refine j_ldcS C 6 rfl dX11_wordOf_63 ?_
    obtain ⟨rfl, rfl⟩ := pr_x h
    exact j_aret C (Or.inr ⟨_, rfl⟩) dX11_wordOf_65
  have h := ite_f c2 h
  by_cases c3 : a1 = (2 : Int32)
  · have h := ite_t c3 h
    refine j_tabIn C (off := 65) (2 : Int32) 66 dX11_wordOf_1 c3 ⟨by decide, by decide⟩ (by decide +kernel) (by decide) ?_
    refine j_ldcS C 7 rfl dX11_wordOf_66 ?_
    obtain ⟨rfl, rfl⟩ := pr_x h
    exact j_aret C (Or.inr ⟨_, rfl⟩) dX11_wordOf_68
  have h := ite_f c3 h
  by_cases c4 : a1 = (3 : Int32)
  · have h := ite_t c4 h
    refine j_tabIn C (off := 68) (3 : Int32) 69 dX11_wordOf_1 c4 ⟨by decide, by decide⟩ (by decide +kernel) (by decide) ?_
    refine j_ldcS C 4 rfl dX11_wordOf_69 ?_
    obtain ⟨rfl, rfl⟩ := pr_x h
    exact j_aret C (Or.inr ⟨_, rfl⟩) dX11_wordOf_71
  have h := ite_f c4 h
  by_cases c5 : a1 = (4 : Int32)
  · have h := ite_t c5 h
    refine j_tabIn C (off := 71) (4 : Int32) 72 dX11_wordOf_1 c5 ⟨by decide, by decide⟩ (by decide +kernel) (by decide) ?_
    refine j_ldcS C 8 rfl dX11_wordOf_72 ?_
    obtain ⟨rfl, rfl⟩ := pr_x h
    exact j_aret C (Or.inr ⟨_, rfl⟩) dX11_wordOf_74
  have h := ite_f c5 h
  by_cases c6 : a1 = (5 : Int32)
  · have h := ite_t c6 h
    refine j_tabIn C (off := 74) (5 : Int32) 75 dX11_wordOf_1 c6 ⟨by decide, by decide⟩ (by decide +kernel) (by decide) ?_
    refine j_ldcS C 9 rfl dX11_wordOf_75 ?_
    obtain ⟨rfl, rfl⟩ := pr_x h
    exact j_aret C (Or.inr ⟨_, rfl⟩) dX11_wordOf_77
  have h := ite_f c6 h
  by_cases c7 : a1 = (6 : Int32)
  · have h := ite_t c7 h
    refine j_tabIn C (off := 77) (6 : Int32) 78 dX11_wordOf_1 c7 ⟨by decide, by decide⟩ (by decide +kernel) (by decide) ?_
    refine j_ldcS C 10 rfl dX11_wordOf_78 ?_
    obtain ⟨rfl, rfl⟩ := pr_x h
    exact j_aret C (Or.inr ⟨_, rfl⟩) dX11_wordOf_80
  have h := ite_f c7 h
  by_cases c8 : a1 = (7 : Int32)
  · have h := ite_t c8 h
    refine j_tabIn C (off := 80) (7 : Int32) 81 dX11_wordOf_1 c8 ⟨by decide, by decide⟩ (by decide +kernel) (by decide) ?_
    refine j_ldcS C 11 rfl dX11_wordOf_81 ?_
    obtain ⟨rfl, rfl⟩ := pr_x h
    exact j_aret C (Or.inr ⟨_, rfl⟩) dX11_wordOf_83
  have h := ite_f c8 h
  by_cases c9 : a1 = (8 : Int32)
  · have h := ite_t c9 h
    refine j_tabIn C (off := 83) (8 : Int32) 84 dX11_wordOf_1 c9 ⟨by decide, by decide⟩ (by decide +kernel) (by decide) ?_
    refine j_ldcS C 12 rfl dX11_wordOf_84 ?_
    obtain ⟨rfl, rfl⟩ := pr_x h
    exact j_aret C (Or.inr ⟨_, rfl⟩) dX11_wordOf_86
  have h := ite_f c9 h
  by_cases c10 : a1 = (9 : Int32)
  · have h := ite_t c10 h
    refine j_tabIn C (off := 86) (9 : Int32) 87 dX11_wordOf_1 c10 ⟨by decide, by decide⟩ (by decide +kernel) (by decide) ?_
    refine j_ldcS C 13 rfl dX11_wordOf_87 ?_
    obtain ⟨rfl, rfl⟩ := pr_x h
    exact j_aret C (Or.inr ⟨_, rfl⟩) dX11_wordOf_89
  have h := ite_f c10 h
  by_cases c11 : a1 = (10 : Int32)
  · have h := ite_t c11 h
    refine j_tabIn C (off := 89) (10 : Int32) 90 dX11_wordOf_1 c11 ⟨by decide, by decide⟩ (by decide +kernel) (by decide) ?_
    refine j_ldcS C 14 rfl dX11_wordOf_90 ?_
    obtain ⟨rfl, rfl⟩ := pr_x h
    exact j_aret C (Or.inr ⟨_, rfl⟩) dX11_wordOf_92
  have h := ite_f c11 h
  refine j_tabOut C 93 dX11_wordOf_1 (by have z0 : a1.toInt ≠ 0 := ne_toInt c1; have z1 : a1.toInt ≠ 1 := ne_toInt c2; have z2 : a1.toInt ≠ 2 := ne_toInt c3; have z3 : a1.toInt ≠ 3 := ne_toInt c4; have z4 : a1.toInt ≠ 4 := ne_toInt c5; have z5 : a1.toInt ≠ 5 := ne_toInt c6; have z6 : a1.toInt ≠ 6 := ne_toInt c7; have z7 : a1.toInt ≠ 7 := ne_toInt c8; have z8 : a1.toInt ≠ 8 := ne_toInt c9; have z9 : a1.toInt ≠ 9 := ne_toInt c10; have z10 : a1.toInt ≠ 10 := ne_toInt c11; omega) (by decide) ?_
  refine j_ldcS C 15 rfl dX11_wordOf_93 ?_
  obtain ⟨rfl, rfl⟩ := pr_x h
  exact j_aret C (Or.inr ⟨_, rfl⟩) dX11_wordOf_95
def F_X11_fails_b23 (a1 : Int32) (a2 : Int32)  (s1 : Int32) (D : Dt) : Option Dt := (bnd (setI D (11, 0, 0, 0) 21 s1) (fun D2 => (some D2)))
set_option maxRecDepth 100000 in
set_option maxHeartbeats 4000000 in
theorem T_X11_fails_b23 {D' : Dt} {X : Ctx} {l : Launch} {G : Gt} {A : Nat → Prop} {lv : Nat} {a1 : Int32} {a2 : Int32}   (hG : Gok G A) (hlv : 1 ≤ lv)   (C : Cx X cX11_fails RX11 G l A lv 3 none none D')  : ∀ (s1 : Int32) (D : Dt), F_X11_fails_b23 a1 a2 s1 D = some D' → J X (Rep G D) 23 [] [.int s1, .ref (ad G (11, 0, 0, 0))] := by
  intro s1 D h
  unfold F_X11_fails_b23 at h
  obtain ⟨D2, eD2, h⟩ := bnd_x h
  refine j_putI C fl_X11_165 dX11_fails_23 (by decide) ⟨rfl, rfl⟩ rfl rfl rfl ?_
  refine j_rep eD2 ?_
  obtain rfl := Option.some.inj h
  exact j_vret C dX11_fails_26
def F_X11_fails (a1 : Int32) (a2 : Int32) (D : Dt) : Option Dt := (if (D.1 (11, 0, 0, 0) 21) = 0 then (F_X11_fails_b23 a1 a2 (((1 : Int32) + ((8 : Int32) * a2)) + a1) D) else (F_X11_fails_b23 a1 a2 (D.1 (11, 0, 0, 0) 21) D))
set_option maxRecDepth 100000 in
set_option maxHeartbeats 4000000 in
theorem M_X11_fails {l : Launch} {G : Gt} {A : Nat → Prop} {lv : Nat} {a1 : Int32} {a2 : Int32} {D : Dt} {D' : Dt} (hG : Gok G A) (hlv : 1 ≤ lv)  (h : F_X11_fails a1 a2 D = some D') : MD l G A lv yX11_fails cX11_fails 3 none [.ref (ad G (11, 0, 0, 0)), .int a1, .int a2] D none D' := by
  unfold F_X11_fails at h
  refine md_start RX11 hG (by decide +kernel) rfl (Nat.le_of_ble_eq_true rfl) (L := [(0, .ref (ad G (11, 0, 0, 0))), (1, .int a1), (2, .int a2)]) rfl (fun X C => ?_)
  refine j_aload_n C 0 dX11_fails_0 rfl rfl ?_
  refine j_aload_n C 0 dX11_fails_1 rfl rfl ?_
  refine j_getI C fl_X11_165 dX11_fails_2 (by decide) ⟨rfl, rfl⟩ rfl ?_
  refine j_if_ne C 19 dX11_fails_5 (by decide) (fun c1 => ?_) (fun c1 => ?_)
  · have h := ite_f c1 h
    refine j_aload_n C 0 dX11_fails_19 rfl rfl ?_
    refine j_getI C fl_X11_165 dX11_fails_20 (by decide) ⟨rfl, rfl⟩ rfl ?_
    refine j_sub [] [] rfl ?_
    refine T_X11_fails_b23 hG hlv  C  (D.1 (11, 0, 0, 0) 21) D h
  · have h := ite_t c1 h
    refine j_iconst C (1 : Int32) (by decide) dX11_fails_8 ?_
    refine j_bipush C (8 : Int32) (by decide) dX11_fails_9 ?_
    refine j_iload_n C 2 dX11_fails_11 rfl rfl ?_
    refine j_imul C dX11_fails_12 ?_
    refine j_iadd C dX11_fails_13 ?_
    refine j_iload_n C 1 dX11_fails_14 rfl rfl ?_
    refine j_iadd C dX11_fails_15 ?_
    refine j_goto C 23 dX11_fails_16 (by decide) ?_
    refine j_sub [] [] rfl ?_
    refine T_X11_fails_b23 hG hlv  C  (((1 : Int32) + ((8 : Int32) * a2)) + a1) D h
def F_X11_sign  (D : Dt) : Option (Int32 × Dt) := (if (D.1 (11, 0, 0, 0) 19) ≤ (D.1 (11, 0, 0, 0) 20) then (some ((-1 : Int32), D)) else (grd (inB (D.1 (11, 0, 0, 0) 20) 400 = true) (some (((D.1 (11, 0, 30, 0) ((D.1 (11, 0, 0, 0) 20).toNatClampNeg)) &&& (255 : Int32)), D))))
set_option maxRecDepth 100000 in
set_option maxHeartbeats 4000000 in
theorem M_X11_sign {l : Launch} {G : Gt} {A : Nat → Prop} {lv : Nat}  {D : Dt} {r : Int32} {D' : Dt} (hG : Gok G A) (hlv : 1 ≤ lv)  (h : F_X11_sign  D = some (r, D')) : MD l G A lv yX11_sign cX11_sign 1 (some .int) [.ref (ad G (11, 0, 0, 0))] D (some (.int r)) D' := by
  unfold F_X11_sign at h
  refine md_start RX11 hG (by decide +kernel) rfl (Nat.le_of_ble_eq_true rfl) (L := [(0, .ref (ad G (11, 0, 0, 0)))]) rfl (fun X C => ?_)
  refine j_aload_n C 0 dX11_sign_0 rfl rfl ?_
  refine j_getI C fl_X11_168 dX11_sign_1 (by decide) ⟨rfl, rfl⟩ rfl ?_
  refine j_aload_n C 0 dX11_sign_4 rfl rfl ?_
  refine j_getI C fl_X11_138 dX11_sign_5 (by decide) ⟨rfl, rfl⟩ rfl ?_
  refine j_icmp_ge C 27 dX11_sign_8 (by decide) (fun c1 => ?_) (fun c1 => ?_)
  · have h := ite_t c1 h
    refine j_iconst C (-1 : Int32) (by decide) dX11_sign_27 ?_
    obtain ⟨rfl, rfl⟩ := pr_x h
    exact j_iret C dX11_sign_28
  · have h := ite_f c1 h
    refine j_aload_n C 0 dX11_sign_11 rfl rfl ?_
    refine j_getS C (11, 0, 30, 0) fl_X11_68 dX11_sign_12 (by decide) ⟨rfl, rfl⟩ rfl rfl ?_
    refine j_aload_n C 0 dX11_sign_15 rfl rfl ?_
    refine j_getI C fl_X11_168 dX11_sign_16 (by decide) ⟨rfl, rfl⟩ rfl ?_
    obtain ⟨g2, h⟩ := grd_x h
    refine j_baldK C 400 ((D.1 (11, 0, 0, 0) 20).toNatClampNeg) dX11_sign_19 (V_f 29 (by decide) (by decide)) rfl g2 rfl ?_
    refine j_sipush C (255 : Int32) (by decide) dX11_sign_20 ?_
    refine j_iand C dX11_sign_23 ?_
    refine j_goto C 28 dX11_sign_24 (by decide) ?_
    obtain ⟨rfl, rfl⟩ := pr_x h
    exact j_iret C dX11_sign_28
