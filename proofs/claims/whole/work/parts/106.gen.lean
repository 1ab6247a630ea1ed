def F_X11_soonOf_b9 (a1 : Int32) (k29 : Int32 → Dt → Option (Int32 × Dt)) : Nat → Int32 → Int32 → Dt → Option (Int32 × Dt)
  | 0, _, _, _ => none
  | f + 1, l1, l2, D => (if (61 : Int32) ≤ l2 then (some ((99 : Int32), D)) else (grd (inB (((61 : Int32) * l1) + l2) 305 = true) (if (D.1 (11, 0, 8, 0) ((((61 : Int32) * l1) + l2).toNatClampNeg)) ≤ 0 then (bnd (l2 + (1 : Int32)) (fun v5 => (F_X11_soonOf_b9 a1 k29 f l1 v5 D))) else (k29 l2 D))))
set_option maxRecDepth 100000 in
set_option maxHeartbeats 4000000 in
theorem T_X11_soonOf_b9 {r : Int32} {D' : Dt} {X : Ctx} {l : Launch} {G : Gt} {A : Nat → Prop} {lv : Nat} {a1 : Int32}  {k29 : Int32 → Dt → Option (Int32 × Dt)} (hG : Gok G A) (hlv : 1 ≤ lv)   (C : Cx X cX11_soonOf RX11 G l A lv 3 (some .int) (some (.int r)) D') (hk29 : ∀ (l2 : Int32) (D : Dt), k29 l2 D = some (r, D') → J X (Rep G D) 29 [(0, .ref (ad G (11, 0, 0, 0))), (2, .int l2)] []) : ∀ (f : Nat) (l1 : Int32) (l2 : Int32) (D : Dt), F_X11_soonOf_b9 a1 k29 f l1 l2 D = some (r, D') → J X (Rep G D) 9 [(0, .ref (ad G (11, 0, 0, 0))), (1, .int l1), (2, .int l2)] [] := by
  intro f
  induction f with
  | zero =>
    intro l1 l2 D h
    exact nomatch h
  | succ f ih =>
    intro l1 l2 D h
    rw [F_X11_soonOf_b9] at h
    refine j_iload_n C 2 dX11_soonOf_9 rfl rfl ?_
    refine j_bipush C (61 : Int32) (by decide) dX11_soonOf_10 ?_
    refine j_icmp_ge C 44 dX11_soonOf_12 (by decide) (fun c2 => ?_) (fun c2 => ?_)
    · have h := ite_t c2 h
      refine j_bipush C (99 : Int32) (by decide) dX11_soonOf_44 ?_
      obtain ⟨rfl, rfl⟩ := pr_x h
      exact j_iret C dX11_soonOf_46
    · have h := ite_f c2 h
      refine j_aload_n C 0 dX11_soonOf_15 rfl rfl ?_
      refine j_getS C (11, 0, 8, 0) fl_X11_28 dX11_soonOf_16 (by decide) ⟨rfl, rfl⟩ rfl rfl ?_
      refine j_bipush C (61 : Int32) (by decide) dX11_soonOf_19 ?_
      refine j_iload_n C 1 dX11_soonOf_21 rfl rfl ?_
      refine j_imul C dX11_soonOf_22 ?_
      refine j_iload_n C 2 dX11_soonOf_23 rfl rfl ?_
      refine j_iadd C dX11_soonOf_24 ?_
      obtain ⟨g3, h⟩ := grd_x h
      refine j_ialdK C 305 ((((61 : Int32) * l1) + l2).toNatClampNeg) dX11_soonOf_25 (V_f 7 (by decide) (by decide)) rfl g3 rfl ?_
      refine j_if_le C 38 dX11_soonOf_26 (by decide) (fun c4 => ?_) (fun c4 => ?_)
      · have h := ite_t c4 h
        obtain ⟨v5, ev5, h⟩ := bnd_x h
        refine j_iinc C 2 [(2, .int v5), (0, .ref (ad G (11, 0, 0, 0))), (1, .int l1)] dX11_soonOf_38 rfl (Nat.le_of_ble_eq_true rfl) (ev5.trans (congrArg (l2 + ·) (by decide))) rfl ?_
        refine j_goto C 9 dX11_soonOf_41 (by decide) ?_
        refine j_sub [1, 2, 0] [(0, .ref (ad G (11, 0, 0, 0))), (1, .int l1), (2, .int v5)] rfl ?_
        exact ih l1 v5 D h
      · have h := ite_f c4 h
        refine j_sub [0, 2] [(0, .ref (ad G (11, 0, 0, 0))), (2, .int l2)] rfl ?_
        exact hk29 l2 D h
def F_X11_soonOf (a1 : Int32) (D : Dt) : Option (Int32 × Dt) := (bnd ((D.1 (11, 0, 2, 0) 4) + (1 : Int32)) (fun v1 => (F_X11_soonOf_b9 a1 (fun l2_6 D7 => (some ((l2_6 - (D7.1 (11, 0, 2, 0) 4)), D7))) 2000 a1 v1 D)))
set_option maxRecDepth 100000 in
set_option maxHeartbeats 4000000 in
theorem M_X11_soonOf {l : Launch} {G : Gt} {A : Nat → Prop} {lv : Nat} {a1 : Int32} {D : Dt} {r : Int32} {D' : Dt} (hG : Gok G A) (hlv : 1 ≤ lv)  (h : F_X11_soonOf a1 D = some (r, D')) : MD l G A lv yX11_soonOf cX11_soonOf 3 (some .int) [.ref (ad G (11, 0, 0, 0)), .int a1] D (some (.int r)) D' := by
  unfold F_X11_soonOf at h
  refine md_start RX11 hG (by decide +kernel) rfl (Nat.le_of_ble_eq_true rfl) (L := [(0, .ref (ad G (11, 0, 0, 0))), (1, .int a1)]) rfl (fun X C => ?_)
  refine j_aload_n C 0 dX11_soonOf_0 rfl rfl ?_
  refine j_getS C (11, 0, 2, 0) fl_X11_9 dX11_soonOf_1 (by decide) ⟨rfl, rfl⟩ rfl rfl ?_
  refine j_iconst C (4 : Int32) (by decide) dX11_soonOf_4 ?_
  refine j_ialdK C 9 4 dX11_soonOf_5 (V_f 1 (by decide) (by decide)) rfl (by decide) (by decide) ?_
  refine j_iconst C (1 : Int32) (by decide) dX11_soonOf_6 ?_
  refine j_iadd C dX11_soonOf_7 ?_
  obtain ⟨v1, ev1, h⟩ := bnd_x h
  refine j_istore_n C [(2, .int v1), (0, .ref (ad G (11, 0, 0, 0))), (1, .int a1)] dX11_soonOf_8 rfl (Nat.le_of_ble_eq_true rfl) ev1 rfl ?_
  refine j_sub [1, 2, 0] [(0, .ref (ad G (11, 0, 0, 0))), (1, .int a1), (2, .int v1)] rfl ?_
  refine T_X11_soonOf_b9 hG hlv  C (fun l2_6 D7 h => ?_) 2000 a1 v1 D h
  · refine j_iload_n C 1 dX11_soonOf_29 rfl rfl ?_
    refine j_aload_n C 0 dX11_soonOf_30 rfl rfl ?_
    refine j_getS C (11, 0, 2, 0) fl_X11_9 dX11_soonOf_31 (by decide) ⟨rfl, rfl⟩ rfl rfl ?_
    refine j_iconst C (4 : Int32) (by decide) dX11_soonOf_34 ?_
    refine j_ialdK C 9 4 dX11_soonOf_35 (V_f 1 (by decide) (by decide)) rfl (by decide) (by decide) ?_
    refine j_isub C dX11_soonOf_36 ?_
    obtain ⟨rfl, rfl⟩ := pr_x h
    exact j_iret C dX11_soonOf_37
def F_X11_sumOf (a1 : Int32) (a2 : Int32) (D : Dt) : Option (Int64 × Dt) := (bnd (setL D (11, 0, 38, 0) 0 a1.toInt64) (fun D1 => (bnd (setL D1 (11, 0, 38, 0) 1 a2.toInt64) (fun D2 => (grd (inB a1 5 = true) (bnd (setL D2 (11, 0, 38, 0) 2 ((D2.1 (11, 0, 3, 0) (a1.toNatClampNeg)).toInt64)) (fun D4 => (bnd (setL D4 (11, 0, 38, 0) 3 ((D4.1 (11, 0, 4, 0) (a1.toNatClampNeg)).toInt64)) (fun D5 => (bnd (setL D5 (11, 0, 38, 0) 4 ((D5.1 (11, 0, 5, 0) (a1.toNatClampNeg)).toInt64)) (fun D6 => (bnd (setL D6 (11, 0, 38, 0) 5 ((D6.1 (11, 0, 6, 0) (a1.toNatClampNeg)).toInt64)) (fun D7 => (grd (inB a2 5 = true) (bnd (setL D7 (11, 0, 38, 0) 6 ((D7.1 (11, 0, 3, 0) (a2.toNatClampNeg)).toInt64)) (fun D9 => (bnd (setL D9 (11, 0, 38, 0) 7 ((D9.1 (11, 0, 4, 0) (a2.toNatClampNeg)).toInt64)) (fun D10 => (bnd (setL D10 (11, 0, 38, 0) 8 ((D10.1 (11, 0, 5, 0) (a2.toNatClampNeg)).toInt64)) (fun D11 => (bnd (setL D11 (11, 0, 38, 0) 9 ((D11.1 (11, 0, 2, 0) 3).toInt64)) (fun D12 => (cbd (F_X11_soonOf a1 D12) (fun r14 D15 => (bnd (setL D15 (11, 0, 38, 0) 10 r14.toInt64) (fun D16 => (bnd (setL D16 (11, 0, 38, 0) 11 ((D16.1 (11, 0, 2, 0) 4).toInt64)) (fun D17 => (cbd (F_X11_wanted  D17) (fun r19 D20 => (some (r19, D20))))))))))))))))))))))))))))))))
set_option maxRecDepth 100000 in
set_option maxHeartbeats 4000000 in
theorem M_X11_sumOf {l : Launch} {G : Gt} {A : Nat → Prop} {lv : Nat} {a1 : Int32} {a2 : Int32} {D : Dt} {r : Int64} {D' : Dt} (hG : Gok G A) (hlv : 5 ≤ lv)  (h : F_X11_sumOf a1 a2 D = some (r, D')) : MD l G A lv yX11_sumOf cX11_sumOf 3 (some .long) [.ref (ad G (11, 0, 0, 0)), .int a1, .int a2] D (some (.long r)) D' := by
  unfold F_X11_sumOf at h
  refine md_start RX11 hG (by decide +kernel) rfl (Nat.le_of_ble_eq_true rfl) (L := [(0, .ref (ad G (11, 0, 0, 0))), (1, .int a1), (2, .int a2)]) rfl (fun X C => ?_)
  refine j_aload_n C 0 dX11_sumOf_0 rfl rfl ?_
  refine j_getS C (11, 0, 38, 0) fl_X11_93 dX11_sumOf_1 (by decide) ⟨rfl, rfl⟩ rfl rfl ?_
  refine j_iconst C (0 : Int32) (by decide) dX11_sumOf_4 ?_
  refine j_iload_n C 1 dX11_sumOf_5 rfl rfl ?_
  refine j_i2l C dX11_sumOf_6 ?_
  obtain ⟨D1, eD1, h⟩ := bnd_x h
  refine j_lastK C 12 0 dX11_sumOf_7 (V_f 37 (by decide) (by decide)) rfl (by decide) (by decide) ?_
  refine j_rep eD1 ?_
  refine j_aload_n C 0 dX11_sumOf_8 rfl rfl ?_
  refine j_getS C (11, 0, 38, 0) fl_X11_93 dX11_sumOf_9 (by decide) ⟨rfl, rfl⟩ rfl rfl ?_
  refine j_iconst C (1 : Int32) (by decide) dX11_sumOf_12 ?_
  refine j_iload_n C 2 dX11_sumOf_13 rfl rfl ?_
  refine j_i2l C dX11_sumOf_14 ?_
  obtain ⟨D2, eD2, h⟩ := bnd_x h
  refine j_lastK C 12 1 dX11_sumOf_15 (V_f 37 (by decide) (by decide)) rfl (by decide) (by decide) ?_
  refine j_rep eD2 ?_
  refine j_aload_n C 0 dX11_sumOf_16 rfl rfl ?_
  refine j_getS C (11, 0, 38, 0) fl_X11_93 dX11_sumOf_17 (by decide) ⟨rfl, rfl⟩ rfl rfl ?_
  refine j_iconst C (2 : Int32) (by decide) dX11_sumOf_20 ?_
  refine j_aload_n C 0 dX11_sumOf_21 rfl rfl ?_
  refine j_getS C (11, 0, 3, 0) fl_X11_13 dX11_sumOf_22 (by decide) ⟨rfl, rfl⟩ rfl rfl ?_
  refine j_iload_n C 1 dX11_sumOf_25 rfl rfl ?_
  obtain ⟨g3, h⟩ := grd_x h
  refine j_ialdK C 5 (a1.toNatClampNeg) dX11_sumOf_26 (V_f 2 (by decide) (by decide)) rfl g3 rfl ?_
  refine j_i2l C dX11_sumOf_27 ?_
  obtain ⟨D4, eD4, h⟩ := bnd_x h
  refine j_lastK C 12 2 dX11_sumOf_28 (V_f 37 (by decide) (by decide)) rfl (by decide) (by decide) ?_
  refine j_rep eD4 ?_
  refine j_aload_n C 0 dX11_sumOf_29 rfl rfl ?_
  refine j_getS C (11, 0, 38, 0) fl_X11_93 dX11_sumOf_30 (by decide) ⟨rfl, rfl⟩ rfl rfl ?_
  refine j_iconst C (3 : Int32) (by decide) dX11_sumOf_33 ?_
  refine j_aload_n C 0 dX11_sumOf_34 rfl rfl ?_
  refine j_getS C (11, 0, 4, 0) fl_X11_16 dX11_sumOf_35 (by decide) ⟨rfl, rfl⟩ rfl rfl ?_
  refine j_iload_n C 1 dX11_sumOf_38 rfl rfl ?_
  refine j_ialdK C 5 (a1.toNatClampNeg) dX11_sumOf_39 (V_f 3 (by decide) (by decide)) rfl g3 rfl ?_
  refine j_i2l C dX11_sumOf_40 ?_
  obtain ⟨D5, eD5, h⟩ := bnd_x h
  refine j_lastK C 12 3 dX11_sumOf_41 (V_f 37 (by decide) (by decide)) rfl (by decide) (by decide) ?_
  refine j_rep eD5 ?_
  refine j_aload_n C 0 dX11_sumOf_42 rfl rfl ?_
  refine j_getS C (11, 0, 38, 0) fl_X11_93 dX11_sumOf_43 (by decide) ⟨rfl, rfl⟩ rfl rfl ?_
  refine j_iconst C (4 : Int32) (by decide) dX11_sumOf_46 ?_
  refine j_aload_n C 0 dX11_sumOf_47 rfl rfl ?_
  refine j_getS C (11, 0, 5, 0) fl_X11_19 dX11_sumOf_48 (by decide) ⟨rfl, rfl⟩ rfl rfl ?_
  refine j_iload_n C 1 dX11_sumOf_51 rfl rfl ?_
  refine j_ialdK C 5 (a1.toNatClampNeg) dX11_sumOf_52 (V_f 4 (by decide) (by decide)) rfl g3 rfl ?_
  refine j_i2l C dX11_sumOf_53 ?_
  obtain ⟨D6, eD6, h⟩ := bnd_x h
  refine j_lastK C 12 4 dX11_sumOf_54 (V_f 37 (by decide) (by decide)) rfl (by decide) (by decide) ?_
  refine j_rep eD6 ?_
  refine j_aload_n C 0 dX11_sumOf_55 rfl rfl ?_
  refine j_getS C (11, 0, 38, 0) fl_X11_93 dX11_sumOf_56 (by decide) ⟨rfl, rfl⟩ rfl rfl ?_
  refine j_iconst C (5 : Int32) (by decide) dX11_sumOf_59 ?_
  refine j_aload_n C 0 dX11_sumOf_60 rfl rfl ?_
  refine j_getS C (11, 0, 6, 0) fl_X11_22 dX11_sumOf_61 (by decide) ⟨rfl, rfl⟩ rfl rfl ?_
  refine j_iload_n C 1 dX11_sumOf_64 rfl rfl ?_
  refine j_ialdK C 5 (a1.toNatClampNeg) dX11_sumOf_65 (V_f 5 (by decide) (by decide)) rfl g3 rfl ?_
  refine j_i2l C dX11_sumOf_66 ?_
  obtain ⟨D7, eD7, h⟩ := bnd_x h
  refine j_lastK C 12 5 dX11_sumOf_67 (V_f 37 (by decide) (by decide)) rfl (by decide) (by decide) ?_
  refine j_rep eD7 ?_
  refine j_aload_n C 0 dX11_sumOf_68 rfl rfl ?_
  refine j_getS C (11, 0, 38, 0) fl_X11_93 dX11_sumOf_69 (by decide) ⟨rfl, rfl⟩ rfl rfl ?_
  refine j_bipush C (6 : Int32) (by decide) dX11_sumOf_72 ?_
  refine j_aload_n C 0 dX11_sumOf_74 rfl rfl ?_
  refine j_getS C (11, 0, 3, 0) fl_X11_13 dX11_sumOf_75 (by decide) ⟨rfl, rfl⟩ rfl rfl ?_
  refine j_iload_n C 2 dX11_sumOf_78 rfl rfl ?_
  obtain ⟨g8, h⟩ := grd_x h
  refine j_ialdK C 5 (a2.toNatClampNeg) dX11_sumOf_79 (V_f 2 (by decide) (by decide)) rfl g8 rfl ?_
  refine j_i2l C dX11_sumOf_80 ?_
  obtain ⟨D9, eD9, h⟩ := bnd_x h
  refine j_lastK C 12 6 dX11_sumOf_81 (V_f 37 (by decide) (by decide)) rfl (by decide) (by decide) ?_
  refine j_rep eD9 ?_
  refine j_aload_n C 0 dX11_sumOf_82 rfl rfl ?_
  refine j_getS C (11, 0, 38, 0) fl_X11_93 dX11_sumOf_83 (by decide) ⟨rfl, rfl⟩ rfl rfl ?_
  refine j_bipush C (7 : Int32) (by decide) dX11_sumOf_86 ?_
  refine j_aload_n C 0 dX11_sumOf_88 rfl rfl ?_
  refine j_getS C (11, 0, 4, 0) fl_X11_16 dX11_sumOf_89 (by decide) ⟨rfl, rfl⟩ rfl rfl ?_
  refine j_iload_n C 2 dX11_sumOf_92 rfl rfl ?_
  refine j_ialdK C 5 (a2.toNatClampNeg) dX11_sumOf_93 (V_f 3 (by decide) (by decide)) rfl g8 rfl ?_
  refine j_i2l C dX11_sumOf_94 ?_
  obtain ⟨D10, eD10, h⟩ := bnd_x h
  refine j_lastK C 12 7 dX11_sumOf_95 (V_f 37 (by decide) (by decide)) rfl (by decide) (by decide) ?_
  refine j_rep eD10 ?_
  refine j_aload_n C 0 dX11_sumOf_96 rfl rfl ?_
  refine j_getS C (11, 0, 38, 0) fl_X11_93 dX11_sumOf_97 (by decide) ⟨rfl, rfl⟩ rfl rfl ?_
  refine j_bipush C (8 : Int32) (by decide) dX11_sumOf_100 ?_
  refine j_aload_n C 0 dX11_sumOf_102 rfl rfl ?_
  refine j_getS C (11, 0, 5, 0) fl_X11_19 dX11_sumOf_103 (by decide) ⟨rfl, rfl⟩ rfl rfl ?_
  refine j_iload_n C 2 dX11_sumOf_106 rfl rfl ?_
  refine j_ialdK C 5 (a2.toNatClampNeg) dX11_sumOf_107 (V_f 4 (by decide) (by decide)) rfl g8 rfl ?_
  refine j_i2l C dX11_sumOf_108 ?_
  obtain ⟨D11, eD11, h⟩ := bnd_x h
  refine j_lastK C 12 8 dX11_sumOf_109 (V_f 37 (by decide) (by decide)) rfl (by decide) (by decide) ?_
  refine j_rep eD11 ?_
  refine j_aload_n C 0 dX11_sumOf_110 rfl rfl ?_
  refine j_getS C (11, 0, 38, 0) fl_X11_93 dX11_sumOf_111 (by decide) ⟨rfl, rfl⟩ rfl rfl ?_
  refine j_bipush C (9 : Int32) (by decide) dX11_sumOf_114 ?_
  refine j_aload_n C 0 dX11_sumOf_116 rfl rfl ?_
  refine j_getS C (11, 0, 2, 0) fl_X11_9 dX11_sumOf_117 (by decide) ⟨rfl, rfl⟩ rfl rfl ?_
  refine j_iconst C (3 : Int32) (by decide) dX11_sumOf_120 ?_
  refine j_ialdK C 9 3 dX11_sumOf_121 (V_f 1 (by decide) (by decide)) rfl (by decide) (by decide) ?_
  refine j_i2l C dX11_sumOf_122 ?_
  obtain ⟨D12, eD12, h⟩ := bnd_x h
  refine j_lastK C 12 9 dX11_sumOf_123 (V_f 37 (by decide) (by decide)) rfl (by decide) (by decide) ?_
  refine j_rep eD12 ?_
  refine j_aload_n C 0 dX11_sumOf_124 rfl rfl ?_
  refine j_getS C (11, 0, 38, 0) fl_X11_93 dX11_sumOf_125 (by decide) ⟨rfl, rfl⟩ rfl rfl ?_
  refine j_bipush C (10 : Int32) (by decide) dX11_sumOf_128 ?_
  refine j_aload_n C 0 dX11_sumOf_130 rfl rfl ?_
  refine j_iload_n C 1 dX11_sumOf_131 rfl rfl ?_
  obtain ⟨r14, D15, h13, h⟩ := cbd_x h
  refine j_callV C [.int a1] [.int (10 : Int32), .ref (ad G (11, 0, 38, 0))] cl_X11_352 (M_X11_soonOf (lv := lv - 1) hG (by omega) h13) (by omega) dX11_sumOf_132 (by decide) ⟨rfl, rfl⟩ rfl rfl (Nat.le_of_ble_eq_true rfl) ?_
  refine j_st (st' := [.int r14, .int (10 : Int32), .ref (ad G (11, 0, 38, 0))]) rfl ?_
  refine j_i2l C dX11_sumOf_135 ?_
  obtain ⟨D16, eD16, h⟩ := bnd_x h
  refine j_lastK C 12 10 dX11_sumOf_136 (V_f 37 (by decide) (by decide)) rfl (by decide) (by decide) ?_
  refine j_rep eD16 ?_
  refine j_aload_n C 0 dX11_sumOf_137 rfl rfl ?_
  refine j_getS C (11, 0, 38, 0) fl_X11_93 dX11_sumOf_138 (by decide) ⟨rfl, rfl⟩ rfl rfl ?_
  refine j_bipush C (11 : Int32) (by decide) dX11_sumOf_141 ?_
  refine j_aload_n C 0 dX11_sumOf_143 rfl rfl ?_
  refine j_getS C (11, 0, 2, 0) fl_X11_9 dX11_sumOf_144 (by decide) ⟨rfl, rfl⟩ rfl rfl ?_
  refine j_iconst C (4 : Int32) (by decide) dX11_sumOf_147 ?_
  refine j_ialdK C 9 4 dX11_sumOf_148 (V_f 1 (by decide) (by decide)) rfl (by decide) (by decide) ?_
  refine j_i2l C dX11_sumOf_149 ?_
  obtain ⟨D17, eD17, h⟩ := bnd_x h
  refine j_lastK C 12 11 dX11_sumOf_150 (V_f 37 (by decide) (by decide)) rfl (by decide) (by decide) ?_
  refine j_rep eD17 ?_
  refine j_aload_n C 0 dX11_sumOf_151 rfl rfl ?_
  obtain ⟨r19, D20, h18, h⟩ := cbd_x h
  refine j_callV C [] [] cl_X11_355 (M_X11_wanted (lv := lv - 1) hG (by omega) h18) (by omega) dX11_sumOf_152 (by decide) ⟨rfl, rfl⟩ rfl rfl (Nat.le_of_ble_eq_true rfl) ?_
  refine j_st (st' := [.long r19]) rfl ?_
  obtain ⟨rfl, rfl⟩ := pr_x h
  exact j_lret C dX11_sumOf_155
def F_X11_wants (a1 : Int32) (a2 : Int32) (D : Dt) : Option (Int64 × Dt) := (if (D.1 (11, 0, 2, 0) 8) = (-1 : Int32) then (grd (inB a1 5 = true) (if (D.1 (11, 0, 5, 0) (a1.toNatClampNeg)) ≤ 0 then (some ((0 : Int64), D)) else (if (D.1 (11, 0, 4, 0) (a1.toNatClampNeg)) = 0 then (grd (inB a2 5 = true) (some (((D.1 (11, 0, 4, 0) (a2.toNatClampNeg)).toInt64), D))) else (some ((0 : Int64), D))))) else (cbd (F_X11_sumOf a1 a2 D) (fun r7 D8 => (some (r7, D8)))))
set_option maxRecDepth 100000 in
set_option maxHeartbeats 4000000 in
theorem M_X11_wants {l : Launch} {G : Gt} {A : Nat → Prop} {lv : Nat} {a1 : Int32} {a2 : Int32} {D : Dt} {r : Int64} {D' : Dt} (hG : Gok G A) (hlv : 6 ≤ lv)  (h : F_X11_wants a1 a2 D = some (r, D')) : MD l G A lv yX11_wants cX11_wants 3 (some .long) [.ref (ad G (11, 0, 0, 0)), .int a1, .int a2] D (some (.long r)) D' := by
  unfold F_X11_wants at h
  refine md_start RX11 hG (by decide +kernel) rfl (Nat.le_of_ble_eq_true rfl) (L := [(0, .ref (ad G (11, 0, 0, 0))), (1, .int a1), (2, .int a2)]) rfl (fun X C => ?_)
  refine j_aload_n C 0 dX11_wants_0 rfl rfl ?_
  refine j_getS C (11, 0, 2, 0) fl_X11_9 dX11_wants_1 (by decide) ⟨rfl, rfl⟩ rfl rfl ?_
  refine j_bipush C (8 : Int32) (by decide) dX11_wants_4 ?_
  refine j_ialdK C 9 8 dX11_wants_6 (V_f 1 (by decide) (by decide)) rfl (by decide) (by decide) ?_
  refine j_iconst C (-1 : Int32) (by decide) dX11_wants_7 ?_
  refine j_icmp_eq C 18 dX11_wants_8 (by decide) (fun c1 => ?_) (fun c1 => ?_)
  · have h := ite_t c1 h
    refine j_aload_n C 0 dX11_wants_18 rfl rfl ?_
    refine j_getS C (11, 0, 5, 0) fl_X11_19 dX11_wants_19 (by decide) ⟨rfl, rfl⟩ rfl rfl ?_
    refine j_iload_n C 1 dX11_wants_22 rfl rfl ?_
    obtain ⟨g2, h⟩ := grd_x h
    refine j_ialdK C 5 (a1.toNatClampNeg) dX11_wants_23 (V_f 4 (by decide) (by decide)) rfl g2 rfl ?_
    refine j_if_le C 46 dX11_wants_24 (by decide) (fun c3 => ?_) (fun c3 => ?_)
    · have h := ite_t c3 h
      refine j_lconst C (0 : Int64) (by decide) dX11_wants_46 ?_
      obtain ⟨rfl, rfl⟩ := pr_x h
      exact j_lret C dX11_wants_47
    · have h := ite_f c3 h
      refine j_aload_n C 0 dX11_wants_27 rfl rfl ?_
      refine j_getS C (11, 0, 4, 0) fl_X11_16 dX11_wants_28 (by decide) ⟨rfl, rfl⟩ rfl rfl ?_
      refine j_iload_n C 1 dX11_wants_31 rfl rfl ?_
      refine j_ialdK C 5 (a1.toNatClampNeg) dX11_wants_32 (V_f 3 (by decide) (by decide)) rfl g2 rfl ?_
      refine j_if_ne C 46 dX11_wants_33 (by decide) (fun c4 => ?_) (fun c4 => ?_)
      · have h := ite_f c4 h
        refine j_lconst C (0 : Int64) (by decide) dX11_wants_46 ?_
        obtain ⟨rfl, rfl⟩ := pr_x h
        exact j_lret C dX11_wants_47
      · have h := ite_t c4 h
        refine j_aload_n C 0 dX11_wants_36 rfl rfl ?_
        refine j_getS C (11, 0, 4, 0) fl_X11_16 dX11_wants_37 (by decide) ⟨rfl, rfl⟩ rfl rfl ?_
        refine j_iload_n C 2 dX11_wants_40 rfl rfl ?_
        obtain ⟨g5, h⟩ := grd_x h
        refine j_ialdK C 5 (a2.toNatClampNeg) dX11_wants_41 (V_f 3 (by decide) (by decide)) rfl g5 rfl ?_
        refine j_i2l C dX11_wants_42 ?_
        refine j_goto C 47 dX11_wants_43 (by decide) ?_
        obtain ⟨rfl, rfl⟩ := pr_x h
        exact j_lret C dX11_wants_47
  · have h := ite_f c1 h
    refine j_aload_n C 0 dX11_wants_11 rfl rfl ?_
    refine j_iload_n C 1 dX11_wants_12 rfl rfl ?_
    refine j_iload_n C 2 dX11_wants_13 rfl rfl ?_
    obtain ⟨r7, D8, h6, h⟩ := cbd_x h
    refine j_callV C [.int a1, .int a2] [] cl_X11_359 (M_X11_sumOf (lv := lv - 1) hG (by omega) h6) (by omega) dX11_wants_14 (by decide) ⟨rfl, rfl⟩ rfl rfl (Nat.le_of_ble_eq_true rfl) ?_
    refine j_st (st' := [.long r7]) rfl ?_
    obtain ⟨rfl, rfl⟩ := pr_x h
    exact j_lret C dX11_wants_17
def F_X11_choice_b123 (a1 : Int32) (k80 : Int32 → Int32 → Int64 → Int32 → Dt → Option (Int32 × Dt)) (l1 : Int32) (l2 : Int32) (l3 : Int64) (l5 : Int32) (D : Dt) : Option (Int32 × Dt) := (bnd (l5 + (1 : Int32)) (fun v11 => (k80 l1 l2 l3 v11 D)))
set_option maxRecDepth 100000 in
set_option maxHeartbeats 4000000 in
theorem T_X11_choice_b123 {r : Int32} {D' : Dt} {X : Ctx} {l : Launch} {G : Gt} {A : Nat → Prop} {lv : Nat} {a1 : Int32}  {k80 : Int32 → Int32 → Int64 → Int32 → Dt → Option (Int32 × Dt)} (hG : Gok G A) (hlv : 7 ≤ lv)   (C : Cx X cX11_choice RX11 G l A lv 8 (some .int) (some (.int r)) D') (hk80 : ∀ (l1 : Int32) (l2 : Int32) (l3 : Int64) (l5 : Int32) (D : Dt), k80 l1 l2 l3 l5 D = some (r, D') → J X (Rep G D) 80 [(0, .ref (ad G (11, 0, 0, 0))), (1, .int l1), (2, .int l2), (3, .long l3), (5, .int l5)] []) : ∀ (l1 : Int32) (l2 : Int32) (l3 : Int64) (l5 : Int32) (D : Dt), F_X11_choice_b123 a1 k80 l1 l2 l3 l5 D = some (r, D') → J X (Rep G D) 123 [(0, .ref (ad G (11, 0, 0, 0))), (1, .int l1), (2, .int l2), (3, .long l3), (5, .int l5)] [] := by
  intro l1 l2 l3 l5 D h
  unfold F_X11_choice_b123 at h
  obtain ⟨v11, ev11, h⟩ := bnd_x h
  refine j_iinc C 4 [(5, .int v11), (0, .ref (ad G (11, 0, 0, 0))), (1, .int l1), (2, .int l2), (3, .long l3)] dX11_choice_123 rfl (Nat.le_of_ble_eq_true rfl) (ev11.trans (congrArg (l5 + ·) (by decide))) rfl ?_
  refine j_goto C 80 dX11_choice_126 (by decide) ?_
  refine j_sub [1, 2, 3, 4, 0] [(0, .ref (ad G (11, 0, 0, 0))), (1, .int l1), (2, .int l2), (3, .long l3), (5, .int v11)] rfl ?_
  exact hk80 l1 l2 l3 v11 D h
def F_X11_choice_b80 (a1 : Int32)  : Nat → Int32 → Int32 → Int64 → Int32 → Dt → Option (Int32 × Dt)
  | 0, _, _, _, _, _ => none
  | f + 1, l1, l2, l3, l5, D => (if (D.1 (11, 0, 2, 0) 2) ≤ l5 then (some (l2, D)) else (cbd (F_X11_canBuy l1 l5 D) (fun r8 D9 => (if r8 = 0 then (F_X11_choice_b123 a1 (fun l1_12 l2_13 l3_14 l5_15 D16 => (F_X11_choice_b80 a1 f l1_12 l2_13 l3_14 l5_15 D16)) l1 l2 l3 l5 D9) else (cbd (F_X11_wants l1 l5 D9) (fun r18 D19 => (if (lg_cmp r18 l3) ≤ 0 then (F_X11_choice_b123 a1 (fun l1_21 l2_22 l3_23 l5_24 D25 => (F_X11_choice_b80 a1 f l1_21 l2_22 l3_23 l5_24 D25)) l1 l2 l3 l5 D19) else (F_X11_choice_b123 a1 (fun l1_26 l2_27 l3_28 l5_29 D30 => (F_X11_choice_b80 a1 f l1_26 l2_27 l3_28 l5_29 D30)) l1 l5 r18 l5 D19))))))))
set_option maxRecDepth 100000 in
set_option maxHeartbeats 4000000 in
theorem T_X11_choice_b80 {r : Int32} {D' : Dt} {X : Ctx} {l : Launch} {G : Gt} {A : Nat → Prop} {lv : Nat} {a1 : Int32}   (hG : Gok G A) (hlv : 7 ≤ lv)   (C : Cx X cX11_choice RX11 G l A lv 8 (some .int) (some (.int r)) D')  : ∀ (f : Nat) (l1 : Int32) (l2 : Int32) (l3 : Int64) (l5 : Int32) (D : Dt), F_X11_choice_b80 a1 f l1 l2 l3 l5 D = some (r, D') → J X (Rep G D) 80 [(0, .ref (ad G (11, 0, 0, 0))), (1, .int l1), (2, .int l2), (3, .long l3), (5, .int l5)] [] := by
  intro f
  induction f with
  | zero =>
    intro l1 l2 l3 l5 D h
    exact nomatch h
  | succ f ih =>
    intro l1 l2 l3 l5 D h
    rw [F_X11_choice_b80] at h
    refine j_iload C 4 dX11_choice_80 rfl ?_
    refine j_aload_n C 0 dX11_choice_82 rfl rfl ?_
    refine j_getS C (11, 0, 2, 0) fl_X11_9 dX11_choice_83 (by decide) ⟨rfl, rfl⟩ rfl rfl ?_
    refine j_iconst C (2 : Int32) (by decide) dX11_choice_86 ?_
    refine j_ialdK C 9 2 dX11_choice_87 (V_f 1 (by decide) (by decide)) rfl (by decide) (by decide) ?_
    refine j_icmp_ge C 129 dX11_choice_88 (by decide) (fun c6 => ?_) (fun c6 => ?_)
    · have h := ite_t c6 h
      refine j_iload_n C 2 dX11_choice_129 rfl rfl ?_
      obtain ⟨rfl, rfl⟩ := pr_x h
      exact j_iret C dX11_choice_130
    · have h := ite_f c6 h
      refine j_aload_n C 0 dX11_choice_91 rfl rfl ?_
      refine j_iload_n C 1 dX11_choice_92 rfl rfl ?_
      refine j_iload C 4 dX11_choice_93 rfl ?_
      obtain ⟨r8, D9, h7, h⟩ := cbd_x h
      refine j_callV C [.int l1, .int l5] [] cl_X11_337 (M_X11_canBuy (lv := lv - 1) hG (by omega) h7) (by omega) dX11_choice_95 (by decide) ⟨rfl, rfl⟩ rfl rfl (Nat.le_of_ble_eq_true rfl) ?_
      refine j_st (st' := [.int r8]) rfl ?_
      refine j_if_eq C 123 dX11_choice_98 (by decide) (fun c10 => ?_) (fun c10 => ?_)
      · have h := ite_t c10 h
        refine T_X11_choice_b123 hG hlv  C (fun l1_12 l2_13 l3_14 l5_15 D16 h => ?_) l1 l2 l3 l5 D9 h
        · exact ih l1_12 l2_13 l3_14 l5_15 D16 h
      · have h := ite_f c10 h
        refine j_aload_n C 0 dX11_choice_101 rfl rfl ?_
        refine j_iload_n C 1 dX11_choice_102 rfl rfl ?_
        refine j_iload C 4 dX11_choice_103 rfl ?_
        obtain ⟨r18, D19, h17, h⟩ := cbd_x h
        refine j_callV C [.int l1, .int l5] [] cl_X11_373 (M_X11_wants (lv := lv - 1) hG (by omega) h17) (by omega) dX11_choice_105 (by decide) ⟨rfl, rfl⟩ rfl rfl (Nat.le_of_ble_eq_true rfl) ?_
        refine j_st (st' := [.long r18]) rfl ?_
        refine j_lstore C [(6, .long r18), (0, .ref (ad G (11, 0, 0, 0))), (1, .int l1), (2, .int l2), (3, .long l3), (5, .int l5)] dX11_choice_108 (Nat.le_of_ble_eq_true rfl) rfl rfl ?_
        refine j_lload C 0 dX11_choice_110 rfl ?_
        refine j_lload_n C 4 dX11_choice_112 rfl rfl ?_
        refine j_lcmp C dX11_choice_113 ?_
        refine j_if_le C 123 dX11_choice_114 (by decide) (fun c20 => ?_) (fun c20 => ?_)
        · have h := ite_t c20 h
          refine j_sub [1, 2, 3, 4, 5] [(0, .ref (ad G (11, 0, 0, 0))), (1, .int l1), (2, .int l2), (3, .long l3), (5, .int l5)] rfl ?_
          refine T_X11_choice_b123 hG hlv  C (fun l1_21 l2_22 l3_23 l5_24 D25 h => ?_) l1 l2 l3 l5 D19 h
          · exact ih l1_21 l2_22 l3_23 l5_24 D25 h
        · have h := ite_f c20 h
          refine j_iload C 5 dX11_choice_117 rfl ?_
          refine j_istore_n C [(2, .int l5), (6, .long r18), (0, .ref (ad G (11, 0, 0, 0))), (1, .int l1), (3, .long l3), (5, .int l5)] dX11_choice_119 rfl (Nat.le_of_ble_eq_true rfl) rfl rfl ?_
          refine j_lload C 1 dX11_choice_120 rfl ?_
          refine j_lstore_n C [(3, .long r18), (2, .int l5), (6, .long r18), (0, .ref (ad G (11, 0, 0, 0))), (1, .int l1), (5, .int l5)] dX11_choice_122 rfl (Nat.le_of_ble_eq_true rfl) rfl rfl ?_
          refine j_sub [3, 4, 1, 0, 5] [(0, .ref (ad G (11, 0, 0, 0))), (1, .int l1), (2, .int l5), (3, .long r18), (5, .int l5)] rfl ?_
          refine T_X11_choice_b123 hG hlv  C (fun l1_26 l2_27 l3_28 l5_29 D30 h => ?_) l1 l5 r18 l5 D19 h
          · exact ih l1_26 l2_27 l3_28 l5_29 D30 h
def F_X11_choice_b54 (a1 : Int32)  (s1 : Int32) (D : Dt) : Option (Int32 × Dt) := (grd (s1 = 0 ∨ s1 = 1) (bnd (setI D (11, 0, 0, 0) 43 s1) (fun D33 => (if (D33.1 (11, 0, 0, 0) 43) = 0 then (some ((-1 : Int32), D33)) else (some ((D33.1 (11, 0, 0, 0) 41), D33))))))
set_option maxRecDepth 100000 in
set_option maxHeartbeats 4000000 in
theorem T_X11_choice_b54 {r : Int32} {D' : Dt} {X : Ctx} {l : Launch} {G : Gt} {A : Nat → Prop} {lv : Nat} {a1 : Int32}   (hG : Gok G A) (hlv : 7 ≤ lv)   (C : Cx X cX11_choice RX11 G l A lv 8 (some .int) (some (.int r)) D')  : ∀ (s1 : Int32) (D : Dt), F_X11_choice_b54 a1 s1 D = some (r, D') → J X (Rep G D) 54 [(0, .ref (ad G (11, 0, 0, 0)))] [.int s1, .ref (ad G (11, 0, 0, 0))] := by
  intro s1 D h
  unfold F_X11_choice_b54 at h
  obtain ⟨g32, h⟩ := grd_x h
  obtain ⟨D33, eD33, h⟩ := bnd_x h
  refine j_putZ C fl_X11_366 dX11_choice_54 (by decide) ⟨rfl, rfl⟩ rfl rfl rfl g32 ?_
  refine j_rep eD33 ?_
  refine j_aload_n C 0 dX11_choice_57 rfl rfl ?_
  refine j_getI C fl_X11_366 dX11_choice_58 (by decide) ⟨rfl, rfl⟩ rfl ?_
  refine j_if_eq C 71 dX11_choice_61 (by decide) (fun c34 => ?_) (fun c34 => ?_)
  · have h := ite_t c34 h
    refine j_iconst C (-1 : Int32) (by decide) dX11_choice_71 ?_
    obtain ⟨rfl, rfl⟩ := pr_x h
    exact j_iret C dX11_choice_72
  · have h := ite_f c34 h
    refine j_aload_n C 0 dX11_choice_64 rfl rfl ?_
    refine j_getI C fl_X11_370 dX11_choice_65 (by decide) ⟨rfl, rfl⟩ rfl ?_
    refine j_goto C 72 dX11_choice_68 (by decide) ?_
    obtain ⟨rfl, rfl⟩ := pr_x h
    exact j_iret C dX11_choice_72
def F_X11_choice_b53 (a1 : Int32)   (D : Dt) : Option (Int32 × Dt) := (F_X11_choice_b54 a1 (0 : Int32) D)
set_option maxRecDepth 100000 in
set_option maxHeartbeats 4000000 in
theorem T_X11_choice_b53 {r : Int32} {D' : Dt} {X : Ctx} {l : Launch} {G : Gt} {A : Nat → Prop} {lv : Nat} {a1 : Int32}   (hG : Gok G A) (hlv : 7 ≤ lv)   (C : Cx X cX11_choice RX11 G l A lv 8 (some .int) (some (.int r)) D')  : ∀  (D : Dt), F_X11_choice_b53 a1  D = some (r, D') → J X (Rep G D) 53 [(0, .ref (ad G (11, 0, 0, 0)))] [.ref (ad G (11, 0, 0, 0))] := by
  intro D h
  unfold F_X11_choice_b53 at h
  refine j_iconst C (0 : Int32) (by decide) dX11_choice_53 ?_
  refine T_X11_choice_b54 hG hlv  C  (0 : Int32) D h
def F_X11_choice_b49 (a1 : Int32)   (D : Dt) : Option (Int32 × Dt) := (F_X11_choice_b54 a1 (1 : Int32) D)
set_option maxRecDepth 100000 in
set_option maxHeartbeats 4000000 in
theorem T_X11_choice_b49 {r : Int32} {D' : Dt} {X : Ctx} {l : Launch} {G : Gt} {A : Nat → Prop} {lv : Nat} {a1 : Int32}   (hG : Gok G A) (hlv : 7 ≤ lv)   (C : Cx X cX11_choice RX11 G l A lv 8 (some .int) (some (.int r)) D')  : ∀  (D : Dt), F_X11_choice_b49 a1  D = some (r, D') → J X (Rep G D) 49 [(0, .ref (ad G (11, 0, 0, 0)))] [.ref (ad G (11, 0, 0, 0))] := by
  intro D h
  unfold F_X11_choice_b49 at h
  refine j_iconst C (1 : Int32) (by decide) dX11_choice_49 ?_
  refine j_goto C 54 dX11_choice_50 (by decide) ?_
  refine T_X11_choice_b54 hG hlv  C  (1 : Int32) D h
def F_X11_choice (a1 : Int32) (D : Dt) : Option (Int32 × Dt) := (cbd (F_X11_has (D.1 (11, 0, 0, 0) 42) a1 D) (fun r2 D3 => (if r2 = 0 then (if a1 = (D3.1 (11, 0, 0, 0) 40) then (if (D3.1 (11, 0, 0, 0) 43) = 0 then (F_X11_choice_b53 a1  D3) else (if (D3.1 (11, 0, 0, 0) 41) = (-1 : Int32) then (F_X11_choice_b49 a1  D3) else (cbd (F_X11_canBuy a1 (D3.1 (11, 0, 0, 0) 41) D3) (fun r37 D38 => (if r37 = 0 then (F_X11_choice_b53 a1  D38) else (F_X11_choice_b49 a1  D38)))))) else (F_X11_choice_b80 a1 2000 a1 (-1 : Int32) (0 : Int64) (0 : Int32) D3)) else (some ((-1 : Int32), D3)))))
set_option maxRecDepth 100000 in
set_option maxHeartbeats 4000000 in
theorem M_X11_choice {l : Launch} {G : Gt} {A : Nat → Prop} {lv : Nat} {a1 : Int32} {D : Dt} {r : Int32} {D' : Dt} (hG : Gok G A) (hlv : 7 ≤ lv)  (h : F_X11_choice a1 D = some (r, D')) : MD l G A lv yX11_choice cX11_choice 8 (some .int) [.ref (ad G (11, 0, 0, 0)), .int a1] D (some (.int r)) D' := by
  unfold F_X11_choice at h
  refine md_start RX11 hG (by decide +kernel) rfl (Nat.le_of_ble_eq_true rfl) (L := [(0, .ref (ad G (11, 0, 0, 0))), (1, .int a1)]) rfl (fun X C => ?_)
  refine j_aload_n C 0 dX11_choice_0 rfl rfl ?_
  refine j_getI C fl_X11_363 dX11_choice_1 (by decide) ⟨rfl, rfl⟩ rfl ?_
  refine j_iload_n C 1 dX11_choice_4 rfl rfl ?_
  obtain ⟨r2, D3, h1, h⟩ := cbd_x h
  refine j_callS C [.int (D.1 (11, 0, 0, 0) 42), .int a1] [] cl_X11_334 (M_X11_has (lv := lv - 1) hG (by omega) h1) (by omega) dX11_choice_5 rfl rfl (Nat.le_of_ble_eq_true rfl) ?_
  refine j_st (st' := [.int r2]) rfl ?_
  refine j_if_eq C 13 dX11_choice_8 (by decide) (fun c4 => ?_) (fun c4 => ?_)
  · have h := ite_t c4 h
    refine j_iload_n C 1 dX11_choice_13 rfl rfl ?_
    refine j_aload_n C 0 dX11_choice_14 rfl rfl ?_
    refine j_getI C fl_X11_100 dX11_choice_15 (by decide) ⟨rfl, rfl⟩ rfl ?_
    refine j_icmp_ne C 73 dX11_choice_18 (by decide) (fun c5 => ?_) (fun c5 => ?_)
    · have h := ite_f c5 h
      refine j_iconst C (-1 : Int32) (by decide) dX11_choice_73 ?_
      refine j_istore_n C [(2, .int (-1 : Int32)), (0, .ref (ad G (11, 0, 0, 0))), (1, .int a1)] dX11_choice_74 rfl (Nat.le_of_ble_eq_true rfl) rfl rfl ?_
      refine j_lconst C (0 : Int64) (by decide) dX11_choice_75 ?_
      refine j_lstore_n C [(3, .long (0 : Int64)), (2, .int (-1 : Int32)), (0, .ref (ad G (11, 0, 0, 0))), (1, .int a1)] dX11_choice_76 rfl (Nat.le_of_ble_eq_true rfl) rfl rfl ?_
      refine j_iconst C (0 : Int32) (by decide) dX11_choice_77 ?_
      refine j_istore C [(5, .int (0 : Int32)), (3, .long (0 : Int64)), (2, .int (-1 : Int32)), (0, .ref (ad G (11, 0, 0, 0))), (1, .int a1)] dX11_choice_78 (Nat.le_of_ble_eq_true rfl) rfl rfl ?_
      refine j_sub [3, 4, 2, 1, 0] [(0, .ref (ad G (11, 0, 0, 0))), (1, .int a1), (2, .int (-1 : Int32)), (3, .long (0 : Int64)), (5, .int (0 : Int32))] rfl ?_
      refine T_X11_choice_b80 hG hlv  C  2000 a1 (-1 : Int32) (0 : Int64) (0 : Int32) D3 h
    · have h := ite_t c5 h
      refine j_aload_n C 0 dX11_choice_21 rfl rfl ?_
      refine j_aload_n C 0 dX11_choice_22 rfl rfl ?_
      refine j_getI C fl_X11_366 dX11_choice_23 (by decide) ⟨rfl, rfl⟩ rfl ?_
      refine j_if_eq C 53 dX11_choice_26 (by decide) (fun c31 => ?_) (fun c31 => ?_)
      · have h := ite_t c31 h
        refine j_sub [0] [(0, .ref (ad G (11, 0, 0, 0)))] rfl ?_
        refine T_X11_choice_b53 hG hlv  C   D3 h
      · have h := ite_f c31 h
        refine j_aload_n C 0 dX11_choice_29 rfl rfl ?_
        refine j_getI C fl_X11_370 dX11_choice_30 (by decide) ⟨rfl, rfl⟩ rfl ?_
        refine j_iconst C (-1 : Int32) (by decide) dX11_choice_33 ?_
        refine j_icmp_eq C 49 dX11_choice_34 (by decide) (fun c35 => ?_) (fun c35 => ?_)
        · have h := ite_t c35 h
          refine j_sub [0] [(0, .ref (ad G (11, 0, 0, 0)))] rfl ?_
          refine T_X11_choice_b49 hG hlv  C   D3 h
        · have h := ite_f c35 h
          refine j_aload_n C 0 dX11_choice_37 rfl rfl ?_
          refine j_iload_n C 1 dX11_choice_38 rfl rfl ?_
          refine j_aload_n C 0 dX11_choice_39 rfl rfl ?_
          refine j_getI C fl_X11_370 dX11_choice_40 (by decide) ⟨rfl, rfl⟩ rfl ?_
          obtain ⟨r37, D38, h36, h⟩ := cbd_x h
          refine j_callV C [.int a1, .int (D3.1 (11, 0, 0, 0) 41)] [.ref (ad G (11, 0, 0, 0))] cl_X11_337 (M_X11_canBuy (lv := lv - 1) hG (by omega) h36) (by omega) dX11_choice_43 (by decide) ⟨rfl, rfl⟩ rfl rfl (Nat.le_of_ble_eq_true rfl) ?_
          refine j_st (st' := [.int r37, .ref (ad G (11, 0, 0, 0))]) rfl ?_
          refine j_if_eq C 53 dX11_choice_46 (by decide) (fun c39 => ?_) (fun c39 => ?_)
          · have h := ite_t c39 h
            refine j_sub [0] [(0, .ref (ad G (11, 0, 0, 0)))] rfl ?_
            refine T_X11_choice_b53 hG hlv  C   D38 h
          · have h := ite_f c39 h
            refine j_sub [0] [(0, .ref (ad G (11, 0, 0, 0)))] rfl ?_
            refine T_X11_choice_b49 hG hlv  C   D38 h
  · have h := ite_f c4 h
    refine j_iconst C (-1 : Int32) (by decide) dX11_choice_11 ?_
    obtain ⟨rfl, rfl⟩ := pr_x h
    exact j_iret C dX11_choice_12
def F_X11_reaps_b60 (a1 : Int32)  (l1 : Int32) (s0 : Int32) (D : Dt) : Option Dt := (grd (inB l1 5 = true) (bnd (setI D (11, 0, 4, 0) (l1.toNatClampNeg) ((D.1 (11, 0, 4, 0) (l1.toNatClampNeg)) - (1 : Int32))) (fun D6 => (bnd (setI D6 (11, 0, 5, 0) (l1.toNatClampNeg) ((D6.1 (11, 0, 5, 0) (l1.toNatClampNeg)) - s0)) (fun D7 => (cbd (F_X11_upTo ((D7.1 (11, 0, 6, 0) (l1.toNatClampNeg)) + s0) (9999 : Int32) D7) (fun r9 D10 => (bnd (setI D10 (11, 0, 6, 0) (l1.toNatClampNeg) r9) (fun D11 => (some D11))))))))))
set_option maxRecDepth 100000 in
set_option maxHeartbeats 4000000 in
theorem T_X11_reaps_b60 {D' : Dt} {X : Ctx} {l : Launch} {G : Gt} {A : Nat → Prop} {lv : Nat} {a1 : Int32}   (hG : Gok G A) (hlv : 2 ≤ lv)   (C : Cx X cX11_reaps RX11 G l A lv 3 none none D')  : ∀ (l1 : Int32) (s0 : Int32) (D : Dt), F_X11_reaps_b60 a1 l1 s0 D = some D' → J X (Rep G D) 60 [(0, .ref (ad G (11, 0, 0, 0))), (1, .int l1)] [.int s0] := by
  intro l1 s0 D h
  unfold F_X11_reaps_b60 at h
  refine j_istore_n C [(2, .int s0), (0, .ref (ad G (11, 0, 0, 0))), (1, .int l1)] dX11_reaps_60 rfl (Nat.le_of_ble_eq_true rfl) rfl rfl ?_
  refine j_aload_n C 1 dX11_reaps_61 rfl rfl ?_
  refine j_getS C (11, 0, 4, 0) fl_X11_16 dX11_reaps_62 (by decide) ⟨rfl, rfl⟩ rfl rfl ?_
  refine j_iload_n C 2 dX11_reaps_65 rfl rfl ?_
  refine j_dup2 C rfl rfl dX11_reaps_66 ?_
  obtain ⟨g5, h⟩ := grd_x h
  refine j_ialdK C 5 (l1.toNatClampNeg) dX11_reaps_67 (V_f 3 (by decide) (by decide)) rfl g5 rfl ?_
  refine j_iconst C (1 : Int32) (by decide) dX11_reaps_68 ?_
  refine j_isub C dX11_reaps_69 ?_
  obtain ⟨D6, eD6, h⟩ := bnd_x h
  refine j_iastK C 5 (l1.toNatClampNeg) dX11_reaps_70 (V_f 3 (by decide) (by decide)) rfl g5 rfl ?_
  refine j_rep eD6 ?_
  refine j_aload_n C 1 dX11_reaps_71 rfl rfl ?_
  refine j_getS C (11, 0, 5, 0) fl_X11_19 dX11_reaps_72 (by decide) ⟨rfl, rfl⟩ rfl rfl ?_
  refine j_iload_n C 2 dX11_reaps_75 rfl rfl ?_
  refine j_dup2 C rfl rfl dX11_reaps_76 ?_
  refine j_ialdK C 5 (l1.toNatClampNeg) dX11_reaps_77 (V_f 4 (by decide) (by decide)) rfl g5 rfl ?_
  refine j_iload_n C 0 dX11_reaps_78 rfl rfl ?_
  refine j_isub C dX11_reaps_79 ?_
  obtain ⟨D7, eD7, h⟩ := bnd_x h
  refine j_iastK C 5 (l1.toNatClampNeg) dX11_reaps_80 (V_f 4 (by decide) (by decide)) rfl g5 rfl ?_
  refine j_rep eD7 ?_
  refine j_aload_n C 1 dX11_reaps_81 rfl rfl ?_
  refine j_getS C (11, 0, 6, 0) fl_X11_22 dX11_reaps_82 (by decide) ⟨rfl, rfl⟩ rfl rfl ?_
  refine j_iload_n C 2 dX11_reaps_85 rfl rfl ?_
  refine j_aload_n C 1 dX11_reaps_86 rfl rfl ?_
  refine j_getS C (11, 0, 6, 0) fl_X11_22 dX11_reaps_87 (by decide) ⟨rfl, rfl⟩ rfl rfl ?_
  refine j_iload_n C 2 dX11_reaps_90 rfl rfl ?_
  refine j_ialdK C 5 (l1.toNatClampNeg) dX11_reaps_91 (V_f 5 (by decide) (by decide)) rfl g5 rfl ?_
  refine j_iload_n C 0 dX11_reaps_92 rfl rfl ?_
  refine j_iadd C dX11_reaps_93 ?_
  refine j_sipush C (9999 : Int32) (by decide) dX11_reaps_94 ?_
  obtain ⟨r9, D10, h8, h⟩ := cbd_x h
  refine j_callS C [.int ((D7.1 (11, 0, 6, 0) (l1.toNatClampNeg)) + s0), .int (9999 : Int32)] [.int l1, .ref (ad G (11, 0, 6, 0))] cl_X11_349 (M_X11_upTo (lv := lv - 1) hG (by omega) h8) (by omega) dX11_reaps_97 rfl rfl (Nat.le_of_ble_eq_true rfl) ?_
  refine j_st (st' := [.int r9, .int l1, .ref (ad G (11, 0, 6, 0))]) rfl ?_
  obtain ⟨D11, eD11, h⟩ := bnd_x h
  refine j_iastK C 5 (l1.toNatClampNeg) dX11_reaps_100 (V_f 5 (by decide) (by decide)) rfl g5 rfl ?_
  refine j_rep eD11 ?_
  obtain rfl := Option.some.inj h
  exact j_vret C dX11_reaps_101
def F_X11_reaps (a1 : Int32) (D : Dt) : Option Dt := (grd (inB a1 5 = true) (if (D.1 (11, 0, 5, 0) (a1.toNatClampNeg)) = 0 then (some D) else (if (D.1 (11, 0, 4, 0) (a1.toNatClampNeg)) = 0 then (bnd (setI D (11, 0, 5, 0) (a1.toNatClampNeg) ((D.1 (11, 0, 5, 0) (a1.toNatClampNeg)) - (1 : Int32))) (fun D12 => (some D12))) else (if (D.1 (11, 0, 5, 0) (a1.toNatClampNeg)) ≤ (D.1 (11, 0, 3, 0) (a1.toNatClampNeg)) then (F_X11_reaps_b60 a1 a1 (D.1 (11, 0, 5, 0) (a1.toNatClampNeg)) D) else (F_X11_reaps_b60 a1 a1 (D.1 (11, 0, 3, 0) (a1.toNatClampNeg)) D)))))
set_option maxRecDepth 100000 in
set_option maxHeartbeats 4000000 in
theorem M_X11_reaps {l : Launch} {G : Gt} {A : Nat → Prop} {lv : Nat} {a1 : Int32} {D : Dt} {D' : Dt} (hG : Gok G A) (hlv : 2 ≤ lv)  (h : F_X11_reaps a1 D = some D') : MD l G A lv yX11_reaps cX11_reaps 3 none [.ref (ad G (11, 0, 0, 0)), .int a1] D none D' := by
  unfold F_X11_reaps at h
  refine md_start RX11 hG (by decide +kernel) rfl (Nat.le_of_ble_eq_true rfl) (L := [(0, .ref (ad G (11, 0, 0, 0))), (1, .int a1)]) rfl (fun X C => ?_)
  refine j_aload_n C 0 dX11_reaps_0 rfl rfl ?_
  refine j_getS C (11, 0, 5, 0) fl_X11_19 dX11_reaps_1 (by decide) ⟨rfl, rfl⟩ rfl rfl ?_
  refine j_iload_n C 1 dX11_reaps_4 rfl rfl ?_
  obtain ⟨g1, h⟩ := grd_x h
  refine j_ialdK C 5 (a1.toNatClampNeg) dX11_reaps_5 (V_f 4 (by decide) (by decide)) rfl g1 rfl ?_
  refine j_if_ne C 10 dX11_reaps_6 (by decide) (fun c2 => ?_) (fun c2 => ?_)
  · have h := ite_f c2 h
    refine j_aload_n C 0 dX11_reaps_10 rfl rfl ?_
    refine j_getS C (11, 0, 4, 0) fl_X11_16 dX11_reaps_11 (by decide) ⟨rfl, rfl⟩ rfl rfl ?_
    refine j_iload_n C 1 dX11_reaps_14 rfl rfl ?_
    refine j_ialdK C 5 (a1.toNatClampNeg) dX11_reaps_15 (V_f 3 (by decide) (by decide)) rfl g1 rfl ?_
    refine j_if_ne C 30 dX11_reaps_16 (by decide) (fun c3 => ?_) (fun c3 => ?_)
    · have h := ite_f c3 h
      refine j_aload_n C 0 dX11_reaps_30 rfl rfl ?_
      refine j_getS C (11, 0, 3, 0) fl_X11_13 dX11_reaps_31 (by decide) ⟨rfl, rfl⟩ rfl rfl ?_
      refine j_iload_n C 1 dX11_reaps_34 rfl rfl ?_
      refine j_ialdK C 5 (a1.toNatClampNeg) dX11_reaps_35 (V_f 2 (by decide) (by decide)) rfl g1 rfl ?_
      refine j_aload_n C 0 dX11_reaps_36 rfl rfl ?_
      refine j_getS C (11, 0, 5, 0) fl_X11_19 dX11_reaps_37 (by decide) ⟨rfl, rfl⟩ rfl rfl ?_
      refine j_iload_n C 1 dX11_reaps_40 rfl rfl ?_
      refine j_ialdK C 5 (a1.toNatClampNeg) dX11_reaps_41 (V_f 4 (by decide) (by decide)) rfl g1 rfl ?_
      refine j_icmp_ge C 54 dX11_reaps_42 (by decide) (fun c4 => ?_) (fun c4 => ?_)
      · have h := ite_t c4 h
        refine j_aload_n C 0 dX11_reaps_54 rfl rfl ?_
        refine j_getS C (11, 0, 5, 0) fl_X11_19 dX11_reaps_55 (by decide) ⟨rfl, rfl⟩ rfl rfl ?_
        refine j_iload_n C 1 dX11_reaps_58 rfl rfl ?_
        refine j_ialdK C 5 (a1.toNatClampNeg) dX11_reaps_59 (V_f 4 (by decide) (by decide)) rfl g1 rfl ?_
        refine T_X11_reaps_b60 hG hlv  C  a1 (D.1 (11, 0, 5, 0) (a1.toNatClampNeg)) D h
      · have h := ite_f c4 h
        refine j_aload_n C 0 dX11_reaps_45 rfl rfl ?_
        refine j_getS C (11, 0, 3, 0) fl_X11_13 dX11_reaps_46 (by decide) ⟨rfl, rfl⟩ rfl rfl ?_
        refine j_iload_n C 1 dX11_reaps_49 rfl rfl ?_
        refine j_ialdK C 5 (a1.toNatClampNeg) dX11_reaps_50 (V_f 2 (by decide) (by decide)) rfl g1 rfl ?_
        refine j_goto C 60 dX11_reaps_51 (by decide) ?_
        refine T_X11_reaps_b60 hG hlv  C  a1 (D.1 (11, 0, 3, 0) (a1.toNatClampNeg)) D h
    · have h := ite_t c3 h
      refine j_aload_n C 0 dX11_reaps_19 rfl rfl ?_
      refine j_getS C (11, 0, 5, 0) fl_X11_19 dX11_reaps_20 (by decide) ⟨rfl, rfl⟩ rfl rfl ?_
      refine j_iload_n C 1 dX11_reaps_23 rfl rfl ?_
      refine j_dup2 C rfl rfl dX11_reaps_24 ?_
      refine j_ialdK C 5 (a1.toNatClampNeg) dX11_reaps_25 (V_f 4 (by decide) (by decide)) rfl g1 rfl ?_
      refine j_iconst C (1 : Int32) (by decide) dX11_reaps_26 ?_
      refine j_isub C dX11_reaps_27 ?_
      obtain ⟨D12, eD12, h⟩ := bnd_x h
      refine j_iastK C 5 (a1.toNatClampNeg) dX11_reaps_28 (V_f 4 (by decide) (by decide)) rfl g1 rfl ?_
      refine j_rep eD12 ?_
      obtain rfl := Option.some.inj h
      exact j_vret C dX11_reaps_29
  · have h := ite_t c2 h
    obtain rfl := Option.some.inj h
    exact j_vret C dX11_reaps_9
def F_X11_goes_b2  (k63 : Dt → Option (Int32 × Dt)) : Nat → Int32 → Dt → Option (Int32 × Dt)
  | 0, _, _ => none
  | f + 1, l1, D => (if (D.1 (11, 0, 2, 0) 2) ≤ l1 then (k63  D) else (if (61 : Int32) ≤ (D.1 (11, 0, 2, 0) 4) then (k63  D) else (grd (inB l1 5 = true) (grd (inB (((61 : Int32) * l1) + (D.1 (11, 0, 2, 0) 4)) 305 = true) (cbd (F_X11_upTo ((D.1 (11, 0, 4, 0) (l1.toNatClampNeg)) + (D.1 (11, 0, 8, 0) ((((61 : Int32) * l1) + (D.1 (11, 0, 2, 0) 4)).toNatClampNeg))) (99 : Int32) D) (fun r6 D7 => (bnd (setI D7 (11, 0, 4, 0) (l1.toNatClampNeg) r6) (fun D8 => (bnd (l1 + (1 : Int32)) (fun v9 => (F_X11_goes_b2 k63 f v9 D8)))))))))))
set_option maxRecDepth 100000 in
set_option maxHeartbeats 4000000 in
theorem T_X11_goes_b2 {r : Int32} {D' : Dt} {X : Ctx} {l : Launch} {G : Gt} {A : Nat → Prop} {lv : Nat}   {k63 : Dt → Option (Int32 × Dt)} (hG : Gok G A) (hlv : 8 ≤ lv)   (C : Cx X cX11_goes RX11 G l A lv 3 (some .int) (some (.int r)) D') (hk63 : ∀  (D : Dt), k63  D = some (r, D') → J X (Rep G D) 63 [(0, .ref (ad G (11, 0, 0, 0)))] []) : ∀ (f : Nat) (l1 : Int32) (D : Dt), F_X11_goes_b2 k63 f l1 D = some (r, D') → J X (Rep G D) 2 [(0, .ref (ad G (11, 0, 0, 0))), (1, .int l1)] [] := by
  intro f
  induction f with
  | zero =>
    intro l1 D h
    exact nomatch h
  | succ f ih =>
    intro l1 D h
    rw [F_X11_goes_b2] at h
    refine j_iload_n C 1 dX11_goes_2 rfl rfl ?_
    refine j_aload_n C 0 dX11_goes_3 rfl rfl ?_
    refine j_getS C (11, 0, 2, 0) fl_X11_9 dX11_goes_4 (by decide) ⟨rfl, rfl⟩ rfl rfl ?_
    refine j_iconst C (2 : Int32) (by decide) dX11_goes_7 ?_
    refine j_ialdK C 9 2 dX11_goes_8 (V_f 1 (by decide) (by decide)) rfl (by decide) (by decide) ?_
    refine j_icmp_ge C 63 dX11_goes_9 (by decide) (fun c1 => ?_) (fun c1 => ?_)
    · have h := ite_t c1 h
      refine j_sub [0] [(0, .ref (ad G (11, 0, 0, 0)))] rfl ?_
      exact hk63  D h
    · have h := ite_f c1 h
      refine j_aload_n C 0 dX11_goes_12 rfl rfl ?_
      refine j_getS C (11, 0, 2, 0) fl_X11_9 dX11_goes_13 (by decide) ⟨rfl, rfl⟩ rfl rfl ?_
      refine j_iconst C (4 : Int32) (by decide) dX11_goes_16 ?_
      refine j_ialdK C 9 4 dX11_goes_17 (V_f 1 (by decide) (by decide)) rfl (by decide) (by decide) ?_
      refine j_bipush C (61 : Int32) (by decide) dX11_goes_18 ?_
      refine j_icmp_ge C 63 dX11_goes_20 (by decide) (fun c2 => ?_) (fun c2 => ?_)
      · have h := ite_t c2 h
        refine j_sub [0] [(0, .ref (ad G (11, 0, 0, 0)))] rfl ?_
        exact hk63  D h
      · have h := ite_f c2 h
        refine j_aload_n C 0 dX11_goes_23 rfl rfl ?_
        refine j_getS C (11, 0, 4, 0) fl_X11_16 dX11_goes_24 (by decide) ⟨rfl, rfl⟩ rfl rfl ?_
        refine j_iload_n C 1 dX11_goes_27 rfl rfl ?_
        refine j_aload_n C 0 dX11_goes_28 rfl rfl ?_
        refine j_getS C (11, 0, 4, 0) fl_X11_16 dX11_goes_29 (by decide) ⟨rfl, rfl⟩ rfl rfl ?_
        refine j_iload_n C 1 dX11_goes_32 rfl rfl ?_
        obtain ⟨g3, h⟩ := grd_x h
        refine j_ialdK C 5 (l1.toNatClampNeg) dX11_goes_33 (V_f 3 (by decide) (by decide)) rfl g3 rfl ?_
        refine j_aload_n C 0 dX11_goes_34 rfl rfl ?_
        refine j_getS C (11, 0, 8, 0) fl_X11_28 dX11_goes_35 (by decide) ⟨rfl, rfl⟩ rfl rfl ?_
        refine j_bipush C (61 : Int32) (by decide) dX11_goes_38 ?_
        refine j_iload_n C 1 dX11_goes_40 rfl rfl ?_
        refine j_imul C dX11_goes_41 ?_
        refine j_aload_n C 0 dX11_goes_42 rfl rfl ?_
        refine j_getS C (11, 0, 2, 0) fl_X11_9 dX11_goes_43 (by decide) ⟨rfl, rfl⟩ rfl rfl ?_
        refine j_iconst C (4 : Int32) (by decide) dX11_goes_46 ?_
        refine j_ialdK C 9 4 dX11_goes_47 (V_f 1 (by decide) (by decide)) rfl (by decide) (by decide) ?_
        refine j_iadd C dX11_goes_48 ?_
        obtain ⟨g4, h⟩ := grd_x h
        refine j_ialdK C 305 ((((61 : Int32) * l1) + (D.1 (11, 0, 2, 0) 4)).toNatClampNeg) dX11_goes_49 (V_f 7 (by decide) (by decide)) rfl g4 rfl ?_
        refine j_iadd C dX11_goes_50 ?_
        refine j_bipush C (99 : Int32) (by decide) dX11_goes_51 ?_
        obtain ⟨r6, D7, h5, h⟩ := cbd_x h
        refine j_callS C [.int ((D.1 (11, 0, 4, 0) (l1.toNatClampNeg)) + (D.1 (11, 0, 8, 0) ((((61 : Int32) * l1) + (D.1 (11, 0, 2, 0) 4)).toNatClampNeg))), .int (99 : Int32)] [.int l1, .ref (ad G (11, 0, 4, 0))] cl_X11_349 (M_X11_upTo (lv := lv - 1) hG (by omega) h5) (by omega) dX11_goes_53 rfl rfl (Nat.le_of_ble_eq_true rfl) ?_
        refine j_st (st' := [.int r6, .int l1, .ref (ad G (11, 0, 4, 0))]) rfl ?_
        obtain ⟨D8, eD8, h⟩ := bnd_x h
        refine j_iastK C 5 (l1.toNatClampNeg) dX11_goes_56 (V_f 3 (by decide) (by decide)) rfl g3 rfl ?_
        refine j_rep eD8 ?_
        obtain ⟨v9, ev9, h⟩ := bnd_x h
        refine j_iinc C 1 [(1, .int v9), (0, .ref (ad G (11, 0, 0, 0)))] dX11_goes_57 rfl (Nat.le_of_ble_eq_true rfl) (ev9.trans (congrArg (l1 + ·) (by decide))) rfl ?_
        refine j_goto C 2 dX11_goes_60 (by decide) ?_
        refine j_sub [1, 0] [(0, .ref (ad G (11, 0, 0, 0))), (1, .int v9)] rfl ?_
        exact ih v9 D8 h
def F_X11_goes_b112  (k67 : Int32 → Int32 → Dt → Option (Int32 × Dt)) (l1 : Int32) (l2 : Int32) (D : Dt) : Option (Int32 × Dt) := (bnd (l2 + (1 : Int32)) (fun v18 => (k67 l1 v18 D)))
set_option maxRecDepth 100000 in
set_option maxHeartbeats 4000000 in
theorem T_X11_goes_b112 {r : Int32} {D' : Dt} {X : Ctx} {l : Launch} {G : Gt} {A : Nat → Prop} {lv : Nat}   {k67 : Int32 → Int32 → Dt → Option (Int32 × Dt)} (hG : Gok G A) (hlv : 8 ≤ lv)   (C : Cx X cX11_goes RX11 G l A lv 3 (some .int) (some (.int r)) D') (hk67 : ∀ (l1 : Int32) (l2 : Int32) (D : Dt), k67 l1 l2 D = some (r, D') → J X (Rep G D) 67 [(0, .ref (ad G (11, 0, 0, 0))), (1, .int l1), (2, .int l2)] []) : ∀ (l1 : Int32) (l2 : Int32) (D : Dt), F_X11_goes_b112 k67 l1 l2 D = some (r, D') → J X (Rep G D) 112 [(0, .ref (ad G (11, 0, 0, 0))), (1, .int l1), (2, .int l2)] [] := by
  intro l1 l2 D h
  unfold F_X11_goes_b112 at h
  obtain ⟨v18, ev18, h⟩ := bnd_x h
  refine j_iinc C 2 [(2, .int v18), (0, .ref (ad G (11, 0, 0, 0))), (1, .int l1)] dX11_goes_112 rfl (Nat.le_of_ble_eq_true rfl) (ev18.trans (congrArg (l2 + ·) (by decide))) rfl ?_
  refine j_goto C 67 dX11_goes_115 (by decide) ?_
  refine j_sub [1, 2, 0] [(0, .ref (ad G (11, 0, 0, 0))), (1, .int l1), (2, .int v18)] rfl ?_
  exact hk67 l1 v18 D h
def F_X11_goes_b67  (k118 : Int32 → Dt → Option (Int32 × Dt)) : Nat → Int32 → Int32 → Dt → Option (Int32 × Dt)
  | 0, _, _, _ => none
  | f + 1, l1, l2, D => (if (D.1 (11, 0, 2, 0) 2) ≤ l2 then (k118 l1 D) else (cbd (F_X11_choice l2 D) (fun r13 D14 => (grd (inB l2 5 = true) (bnd (setI D14 (11, 0, 7, 0) (l2.toNatClampNeg) r13) (fun D16 => (if (D16.1 (11, 0, 7, 0) (l2.toNatClampNeg)) = (-1 : Int32) then (F_X11_goes_b112 (fun l1_19 l2_20 D21 => (F_X11_goes_b67 k118 f l1_19 l2_20 D21)) l1 l2 D16) else (vbd (F_X11_buys l2 (D16.1 (11, 0, 7, 0) (l2.toNatClampNeg)) D16) (fun D23 => (bnd (l1 + (1 : Int32)) (fun v24 => (F_X11_goes_b112 (fun l1_25 l2_26 D27 => (F_X11_goes_b67 k118 f l1_25 l2_26 D27)) v24 l2 D23))))))))))))
set_option maxRecDepth 100000 in
set_option maxHeartbeats 4000000 in
theorem T_X11_goes_b67 {r : Int32} {D' : Dt} {X : Ctx} {l : Launch} {G : Gt} {A : Nat → Prop} {lv : Nat}   {k118 : Int32 → Dt → Option (Int32 × Dt)} (hG : Gok G A) (hlv : 8 ≤ lv)   (C : Cx X cX11_goes RX11 G l A lv 3 (some .int) (some (.int r)) D') (hk118 : ∀ (l1 : Int32) (D : Dt), k118 l1 D = some (r, D') → J X (Rep G D) 118 [(0, .ref (ad G (11, 0, 0, 0))), (1, .int l1)] []) : ∀ (f : Nat) (l1 : Int32) (l2 : Int32) (D : Dt), F_X11_goes_b67 k118 f l1 l2 D = some (r, D') → J X (Rep G D) 67 [(0, .ref (ad G (11, 0, 0, 0))), (1, .int l1), (2, .int l2)] [] := by
  intro f
  induction f with
  | zero =>
    intro l1 l2 D h
    exact nomatch h
  | succ f ih =>
    intro l1 l2 D h
    rw [F_X11_goes_b67] at h
    refine j_iload_n C 2 dX11_goes_67 rfl rfl ?_
    refine j_aload_n C 0 dX11_goes_68 rfl rfl ?_
    refine j_getS C (11, 0, 2, 0) fl_X11_9 dX11_goes_69 (by decide) ⟨rfl, rfl⟩ rfl rfl ?_
    refine j_iconst C (2 : Int32) (by decide) dX11_goes_72 ?_
    refine j_ialdK C 9 2 dX11_goes_73 (V_f 1 (by decide) (by decide)) rfl (by decide) (by decide) ?_
    refine j_icmp_ge C 118 dX11_goes_74 (by decide) (fun c11 => ?_) (fun c11 => ?_)
    · have h := ite_t c11 h
      refine j_sub [0, 1] [(0, .ref (ad G (11, 0, 0, 0))), (1, .int l1)] rfl ?_
      exact hk118 l1 D h
    · have h := ite_f c11 h
      refine j_aload_n C 0 dX11_goes_77 rfl rfl ?_
      refine j_getS C (11, 0, 7, 0) fl_X11_25 dX11_goes_78 (by decide) ⟨rfl, rfl⟩ rfl rfl ?_
      refine j_iload_n C 2 dX11_goes_81 rfl rfl ?_
      refine j_aload_n C 0 dX11_goes_82 rfl rfl ?_
      refine j_iload_n C 2 dX11_goes_83 rfl rfl ?_
      obtain ⟨r13, D14, h12, h⟩ := cbd_x h
      refine j_callV C [.int l2] [.int l2, .ref (ad G (11, 0, 7, 0))] cl_X11_376 (M_X11_choice (lv := lv - 1) hG (by omega) h12) (by omega) dX11_goes_84 (by decide) ⟨rfl, rfl⟩ rfl rfl (Nat.le_of_ble_eq_true rfl) ?_
      refine j_st (st' := [.int r13, .int l2, .ref (ad G (11, 0, 7, 0))]) rfl ?_
      obtain ⟨g15, h⟩ := grd_x h
      obtain ⟨D16, eD16, h⟩ := bnd_x h
      refine j_iastK C 5 (l2.toNatClampNeg) dX11_goes_87 (V_f 6 (by decide) (by decide)) rfl g15 rfl ?_
      refine j_rep eD16 ?_
      refine j_aload_n C 0 dX11_goes_88 rfl rfl ?_
      refine j_getS C (11, 0, 7, 0) fl_X11_25 dX11_goes_89 (by decide) ⟨rfl, rfl⟩ rfl rfl ?_
      refine j_iload_n C 2 dX11_goes_92 rfl rfl ?_
      refine j_ialdK C 5 (l2.toNatClampNeg) dX11_goes_93 (V_f 6 (by decide) (by decide)) rfl g15 rfl ?_
      refine j_iconst C (-1 : Int32) (by decide) dX11_goes_94 ?_
      refine j_icmp_eq C 112 dX11_goes_95 (by decide) (fun c17 => ?_) (fun c17 => ?_)
      · have h := ite_t c17 h
        refine T_X11_goes_b112 hG hlv  C (fun l1_19 l2_20 D21 h => ?_) l1 l2 D16 h
        · exact ih l1_19 l2_20 D21 h
      · have h := ite_f c17 h
        refine j_aload_n C 0 dX11_goes_98 rfl rfl ?_
        refine j_iload_n C 2 dX11_goes_99 rfl rfl ?_
        refine j_aload_n C 0 dX11_goes_100 rfl rfl ?_
        refine j_getS C (11, 0, 7, 0) fl_X11_25 dX11_goes_101 (by decide) ⟨rfl, rfl⟩ rfl rfl ?_
        refine j_iload_n C 2 dX11_goes_104 rfl rfl ?_
        refine j_ialdK C 5 (l2.toNatClampNeg) dX11_goes_105 (V_f 6 (by decide) (by decide)) rfl g15 rfl ?_
        obtain ⟨D23, h22, h⟩ := vbd_x h
        refine j_callV C [.int l2, .int (D16.1 (11, 0, 7, 0) (l2.toNatClampNeg))] [] cl_X11_379 (M_X11_buys (lv := lv - 1) hG (by omega) h22) (by omega) dX11_goes_106 (by decide) ⟨rfl, rfl⟩ rfl rfl (Nat.le_of_ble_eq_true rfl) ?_
        refine j_st (st' := []) rfl ?_
        obtain ⟨v24, ev24, h⟩ := bnd_x h
        refine j_iinc C 1 [(1, .int v24), (0, .ref (ad G (11, 0, 0, 0))), (2, .int l2)] dX11_goes_109 rfl (Nat.le_of_ble_eq_true rfl) (ev24.trans (congrArg (l1 + ·) (by decide))) rfl ?_
        refine j_sub [1, 0, 2] [(0, .ref (ad G (11, 0, 0, 0))), (1, .int v24), (2, .int l2)] rfl ?_
        refine T_X11_goes_b112 hG hlv  C (fun l1_25 l2_26 D27 h => ?_) v24 l2 D23 h
        · exact ih l1_25 l2_26 D27 h
def F_X11_goes_b120  (k162 : Int32 → Dt → Option (Int32 × Dt)) : Nat → Int32 → Int32 → Dt → Option (Int32 × Dt)
  | 0, _, _, _ => none
  | f + 1, l1, l2, D => (if (D.1 (11, 0, 2, 0) 2) ≤ l2 then (k162 l1 D) else (vbd (F_X11_reaps l2 D) (fun D32 => (grd (inB l2 5 = true) (cbd (F_X11_upTo (D32.1 (11, 0, 4, 0) (l2.toNatClampNeg)) (D32.1 (11, 0, 2, 0) 1) D32) (fun r35 D36 => (bnd (setI D36 (11, 0, 4, 0) (l2.toNatClampNeg) r35) (fun D37 => (bnd (l2 + (1 : Int32)) (fun v38 => (F_X11_goes_b120 k162 f l1 v38 D37)))))))))))
set_option maxRecDepth 100000 in
set_option maxHeartbeats 4000000 in
theorem T_X11_goes_b120 {r : Int32} {D' : Dt} {X : Ctx} {l : Launch} {G : Gt} {A : Nat → Prop} {lv : Nat}   {k162 : Int32 → Dt → Option (Int32 × Dt)} (hG : Gok G A) (hlv : 8 ≤ lv)   (C : Cx X cX11_goes RX11 G l A lv 3 (some .int) (some (.int r)) D') (hk162 : ∀ (l1 : Int32) (D : Dt), k162 l1 D = some (r, D') → J X (Rep G D) 162 [(0, .ref (ad G (11, 0, 0, 0))), (1, .int l1)] []) : ∀ (f : Nat) (l1 : Int32) (l2 : Int32) (D : Dt), F_X11_goes_b120 k162 f l1 l2 D = some (r, D') → J X (Rep G D) 120 [(0, .ref (ad G (11, 0, 0, 0))), (1, .int l1), (2, .int l2)] [] := by
  intro f
  induction f with
  | zero =>
    intro l1 l2 D h
    exact nomatch h
  | succ f ih =>
    intro l1 l2 D h
    rw [F_X11_goes_b120] at h
    refine j_iload_n C 2 dX11_goes_120 rfl rfl ?_
    refine j_aload_n C 0 dX11_goes_121 rfl rfl ?_
    refine j_getS C (11, 0, 2, 0) fl_X11_9 dX11_goes_122 (by decide) ⟨rfl, rfl⟩ rfl rfl ?_
    refine j_iconst C (2 : Int32) (by decide) dX11_goes_125 ?_
    refine j_ialdK C 9 2 dX11_goes_126 (V_f 1 (by decide) (by decide)) rfl (by decide) (by decide) ?_
    refine j_icmp_ge C 162 dX11_goes_127 (by decide) (fun c30 => ?_) (fun c30 => ?_)
    · have h := ite_t c30 h
      refine j_sub [0, 1] [(0, .ref (ad G (11, 0, 0, 0))), (1, .int l1)] rfl ?_
      exact hk162 l1 D h
    · have h := ite_f c30 h
      refine j_aload_n C 0 dX11_goes_130 rfl rfl ?_
      refine j_iload_n C 2 dX11_goes_131 rfl rfl ?_
      obtain ⟨D32, h31, h⟩ := vbd_x h
      refine j_callV C [.int l2] [] cl_X11_382 (M_X11_reaps (lv := lv - 1) hG (by omega) h31) (by omega) dX11_goes_132 (by decide) ⟨rfl, rfl⟩ rfl rfl (Nat.le_of_ble_eq_true rfl) ?_
      refine j_st (st' := []) rfl ?_
      refine j_aload_n C 0 dX11_goes_135 rfl rfl ?_
      refine j_getS C (11, 0, 4, 0) fl_X11_16 dX11_goes_136 (by decide) ⟨rfl, rfl⟩ rfl rfl ?_
      refine j_iload_n C 2 dX11_goes_139 rfl rfl ?_
      refine j_aload_n C 0 dX11_goes_140 rfl rfl ?_
      refine j_getS C (11, 0, 4, 0) fl_X11_16 dX11_goes_141 (by decide) ⟨rfl, rfl⟩ rfl rfl ?_
      refine j_iload_n C 2 dX11_goes_144 rfl rfl ?_
      obtain ⟨g33, h⟩ := grd_x h
      refine j_ialdK C 5 (l2.toNatClampNeg) dX11_goes_145 (V_f 3 (by decide) (by decide)) rfl g33 rfl ?_
      refine j_aload_n C 0 dX11_goes_146 rfl rfl ?_
      refine j_getS C (11, 0, 2, 0) fl_X11_9 dX11_goes_147 (by decide) ⟨rfl, rfl⟩ rfl rfl ?_
      refine j_iconst C (1 : Int32) (by decide) dX11_goes_150 ?_
      refine j_ialdK C 9 1 dX11_goes_151 (V_f 1 (by decide) (by decide)) rfl (by decide) (by decide) ?_
      obtain ⟨r35, D36, h34, h⟩ := cbd_x h
      refine j_callS C [.int (D32.1 (11, 0, 4, 0) (l2.toNatClampNeg)), .int (D32.1 (11, 0, 2, 0) 1)] [.int l2, .ref (ad G (11, 0, 4, 0))] cl_X11_349 (M_X11_upTo (lv := lv - 1) hG (by omega) h34) (by omega) dX11_goes_152 rfl rfl (Nat.le_of_ble_eq_true rfl) ?_
      refine j_st (st' := [.int r35, .int l2, .ref (ad G (11, 0, 4, 0))]) rfl ?_
      obtain ⟨D37, eD37, h⟩ := bnd_x h
      refine j_iastK C 5 (l2.toNatClampNeg) dX11_goes_155 (V_f 3 (by decide) (by decide)) rfl g33 rfl ?_
      refine j_rep eD37 ?_
      obtain ⟨v38, ev38, h⟩ := bnd_x h
      refine j_iinc C 2 [(2, .int v38), (0, .ref (ad G (11, 0, 0, 0))), (1, .int l1)] dX11_goes_156 rfl (Nat.le_of_ble_eq_true rfl) (ev38.trans (congrArg (l2 + ·) (by decide))) rfl ?_
      refine j_goto C 120 dX11_goes_159 (by decide) ?_
      refine j_sub [1, 2, 0] [(0, .ref (ad G (11, 0, 0, 0))), (1, .int l1), (2, .int v38)] rfl ?_
      exact ih l1 v38 D37 h
def F_X11_goes  (D : Dt) : Option (Int32 × Dt) := (F_X11_goes_b2 (fun D10 => (F_X11_goes_b67 (fun l1_28 D29 => (F_X11_goes_b120 (fun l1_39 D40 => (bnd (setI D40 (11, 0, 2, 0) 4 ((D40.1 (11, 0, 2, 0) 4) + (1 : Int32))) (fun D41 => (some (l1_39, D41))))) 2000 l1_28 (0 : Int32) D29)) 2000 (0 : Int32) (0 : Int32) D10)) 2000 (0 : Int32) D)
set_option maxRecDepth 100000 in
set_option maxHeartbeats 4000000 in
theorem M_X11_goes {l : Launch} {G : Gt} {A : Nat → Prop} {lv : Nat}  {D : Dt} {r : Int32} {D' : Dt} (hG : Gok G A) (hlv : 8 ≤ lv)  (h : F_X11_goes  D = some (r, D')) : MD l G A lv yX11_goes cX11_goes 3 (some .int) [.ref (ad G (11, 0, 0, 0))] D (some (.int r)) D' := by
  unfold F_X11_goes at h
  refine md_start RX11 hG (by decide +kernel) rfl (Nat.le_of_ble_eq_true rfl) (L := [(0, .ref (ad G (11, 0, 0, 0)))]) rfl (fun X C => ?_)
  refine j_iconst C (0 : Int32) (by decide) dX11_goes_0 ?_
  refine j_istore_n C [(1, .int (0 : Int32)), (0, .ref (ad G (11, 0, 0, 0)))] dX11_goes_1 rfl (Nat.le_of_ble_eq_true rfl) rfl rfl ?_
  refine j_sub [1, 0] [(0, .ref (ad G (11, 0, 0, 0))), (1, .int (0 : Int32))] rfl ?_
  refine T_X11_goes_b2 hG hlv  C (fun D10 h => ?_) 2000 (0 : Int32) D h
  · refine j_iconst C (0 : Int32) (by decide) dX11_goes_63 ?_
    refine j_istore_n C [(1, .int (0 : Int32)), (0, .ref (ad G (11, 0, 0, 0)))] dX11_goes_64 rfl (Nat.le_of_ble_eq_true rfl) rfl rfl ?_
    refine j_iconst C (0 : Int32) (by decide) dX11_goes_65 ?_
    refine j_istore_n C [(2, .int (0 : Int32)), (1, .int (0 : Int32)), (0, .ref (ad G (11, 0, 0, 0)))] dX11_goes_66 rfl (Nat.le_of_ble_eq_true rfl) rfl rfl ?_
    refine j_sub [2, 1, 0] [(0, .ref (ad G (11, 0, 0, 0))), (1, .int (0 : Int32)), (2, .int (0 : Int32))] rfl ?_
    refine T_X11_goes_b67 hG hlv  C (fun l1_28 D29 h => ?_) 2000 (0 : Int32) (0 : Int32) D10 h
    · refine j_iconst C (0 : Int32) (by decide) dX11_goes_118 ?_
      refine j_istore_n C [(2, .int (0 : Int32)), (0, .ref (ad G (11, 0, 0, 0))), (1, .int l1_28)] dX11_goes_119 rfl (Nat.le_of_ble_eq_true rfl) rfl rfl ?_
      refine j_sub [1, 2, 0] [(0, .ref (ad G (11, 0, 0, 0))), (1, .int l1_28), (2, .int (0 : Int32))] rfl ?_
      refine T_X11_goes_b120 hG hlv  C (fun l1_39 D40 h => ?_) 2000 l1_28 (0 : Int32) D29 h
      · refine j_aload_n C 0 dX11_goes_162 rfl rfl ?_
        refine j_getS C (11, 0, 2, 0) fl_X11_9 dX11_goes_163 (by decide) ⟨rfl, rfl⟩ rfl rfl ?_
        refine j_iconst C (4 : Int32) (by decide) dX11_goes_166 ?_
        refine j_dup2 C rfl rfl dX11_goes_167 ?_
        refine j_ialdK C 9 4 dX11_goes_168 (V_f 1 (by decide) (by decide)) rfl (by decide) (by decide) ?_
        refine j_iconst C (1 : Int32) (by decide) dX11_goes_169 ?_
        refine j_iadd C dX11_goes_170 ?_
        obtain ⟨D41, eD41, h⟩ := bnd_x h
        refine j_iastK C 9 4 dX11_goes_171 (V_f 1 (by decide) (by decide)) rfl (by decide) (by decide) ?_
        refine j_rep eD41 ?_
        refine j_iload_n C 1 dX11_goes_172 rfl rfl ?_
        obtain ⟨rfl, rfl⟩ := pr_x h
        exact j_iret C dX11_goes_173
def F_X11_goFor_b2 (a1 : Int32)  : Nat → Int32 → Int32 → Dt → Option Dt
  | 0, _, _, _ => none
  | f + 1, l1, l2, D => (if l1 ≤ l2 then (some D) else (cbd (F_X11_goes  D) (fun r3 D4 => (bnd (l2 + (1 : Int32)) (fun v5 => (F_X11_goFor_b2 a1 f l1 v5 D4))))))
set_option maxRecDepth 100000 in
set_option maxHeartbeats 4000000 in
theorem T_X11_goFor_b2 {D' : Dt} {X : Ctx} {l : Launch} {G : Gt} {A : Nat → Prop} {lv : Nat} {a1 : Int32}   (hG : Gok G A) (hlv : 9 ≤ lv)   (C : Cx X cX11_goFor RX11 G l A lv 3 none none D')  : ∀ (f : Nat) (l1 : Int32) (l2 : Int32) (D : Dt), F_X11_goFor_b2 a1 f l1 l2 D = some D' → J X (Rep G D) 2 [(0, .ref (ad G (11, 0, 0, 0))), (1, .int l1), (2, .int l2)] [] := by
  intro f
  induction f with
  | zero =>
    intro l1 l2 D h
    exact nomatch h
  | succ f ih =>
    intro l1 l2 D h
    rw [F_X11_goFor_b2] at h
    refine j_iload_n C 2 dX11_goFor_2 rfl rfl ?_
    refine j_iload_n C 1 dX11_goFor_3 rfl rfl ?_
    refine j_icmp_ge C 18 dX11_goFor_4 (by decide) (fun c1 => ?_) (fun c1 => ?_)
    · have h := ite_t c1 h
      obtain rfl := Option.some.inj h
      exact j_vret C dX11_goFor_18
    · have h := ite_f c1 h
      refine j_aload_n C 0 dX11_goFor_7 rfl rfl ?_
      obtain ⟨r3, D4, h2, h⟩ := cbd_x h
      refine j_callV C [] [] cl_X11_385 (M_X11_goes (lv := lv - 1) hG (by omega) h2) (by omega) dX11_goFor_8 (by decide) ⟨rfl, rfl⟩ rfl rfl (Nat.le_of_ble_eq_true rfl) ?_
      refine j_st (st' := [.int r3]) rfl ?_
      refine j_pop C rfl dX11_goFor_11 ?_
      obtain ⟨v5, ev5, h⟩ := bnd_x h
      refine j_iinc C 2 [(2, .int v5), (0, .ref (ad G (11, 0, 0, 0))), (1, .int l1)] dX11_goFor_12 rfl (Nat.le_of_ble_eq_true rfl) (ev5.trans (congrArg (l2 + ·) (by decide))) rfl ?_
      refine j_goto C 2 dX11_goFor_15 (by decide) ?_
      refine j_sub [1, 2, 0] [(0, .ref (ad G (11, 0, 0, 0))), (1, .int l1), (2, .int v5)] rfl ?_
      exact ih l1 v5 D4 h
def F_X11_goFor (a1 : Int32) (D : Dt) : Option Dt := (F_X11_goFor_b2 a1 2000 a1 (0 : Int32) D)
set_option maxRecDepth 100000 in
set_option maxHeartbeats 4000000 in
theorem M_X11_goFor {l : Launch} {G : Gt} {A : Nat → Prop} {lv : Nat} {a1 : Int32} {D : Dt} {D' : Dt} (hG : Gok G A) (hlv : 9 ≤ lv)  (h : F_X11_goFor a1 D = some D') : MD l G A lv yX11_goFor cX11_goFor 3 none [.ref (ad G (11, 0, 0, 0)), .int a1] D none D' := by
  unfold F_X11_goFor at h
  refine md_start RX11 hG (by decide +kernel) rfl (Nat.le_of_ble_eq_true rfl) (L := [(0, .ref (ad G (11, 0, 0, 0))), (1, .int a1)]) rfl (fun X C => ?_)
  refine j_iconst C (0 : Int32) (by decide) dX11_goFor_0 ?_
  refine j_istore_n C [(2, .int (0 : Int32)), (0, .ref (ad G (11, 0, 0, 0))), (1, .int a1)] dX11_goFor_1 rfl (Nat.le_of_ble_eq_true rfl) rfl rfl ?_
  refine j_sub [1, 2, 0] [(0, .ref (ad G (11, 0, 0, 0))), (1, .int a1), (2, .int (0 : Int32))] rfl ?_
  refine T_X11_goFor_b2 hG hlv  C  2000 a1 (0 : Int32) D h
def F_X11_moves_b20 (a1 : Int32)  (s0 : Int32) (D : Dt) : Option (Int32 × Dt) := (grd (inB (D.1 (11, 0, 0, 0) 47) 560 = true) (bnd (setI D (11, 0, 45, 0) ((D.1 (11, 0, 0, 0) 47).toNatClampNeg) s0) (fun D3 => (bnd (setI D3 (11, 0, 0, 0) 47 ((D3.1 (11, 0, 0, 0) 47) + (1 : Int32))) (fun D4 => (some (s0, D4)))))))
set_option maxRecDepth 100000 in
set_option maxHeartbeats 4000000 in
theorem T_X11_moves_b20 {r : Int32} {D' : Dt} {X : Ctx} {l : Launch} {G : Gt} {A : Nat → Prop} {lv : Nat} {a1 : Int32}   (hG : Gok G A) (hlv : 1 ≤ lv)   (C : Cx X cX11_moves RX11 G l A lv 3 (some .int) (some (.int r)) D')  : ∀ (s0 : Int32) (D : Dt), F_X11_moves_b20 a1 s0 D = some (r, D') → J X (Rep G D) 20 [(0, .ref (ad G (11, 0, 0, 0)))] [.int s0] := by
  intro s0 D h
  unfold F_X11_moves_b20 at h
  refine j_istore_n C [(2, .int s0), (0, .ref (ad G (11, 0, 0, 0)))] dX11_moves_20 rfl (Nat.le_of_ble_eq_true rfl) rfl rfl ?_
  refine j_aload_n C 1 dX11_moves_21 rfl rfl ?_
  refine j_getS C (11, 0, 45, 0) fl_X11_103 dX11_moves_22 (by decide) ⟨rfl, rfl⟩ rfl rfl ?_
  refine j_aload_n C 1 dX11_moves_25 rfl rfl ?_
  refine j_getI C fl_X11_391 dX11_moves_26 (by decide) ⟨rfl, rfl⟩ rfl ?_
  refine j_iload_n C 0 dX11_moves_29 rfl rfl ?_
  obtain ⟨g2, h⟩ := grd_x h
  obtain ⟨D3, eD3, h⟩ := bnd_x h
  refine j_iastK C 560 ((D.1 (11, 0, 0, 0) 47).toNatClampNeg) dX11_moves_30 (V_f 44 (by decide) (by decide)) rfl g2 rfl ?_
  refine j_rep eD3 ?_
  refine j_aload_n C 1 dX11_moves_31 rfl rfl ?_
  refine j_dup C rfl dX11_moves_32 ?_
  refine j_getI C fl_X11_391 dX11_moves_33 (by decide) ⟨rfl, rfl⟩ rfl ?_
  refine j_iconst C (1 : Int32) (by decide) dX11_moves_36 ?_
  refine j_iadd C dX11_moves_37 ?_
  obtain ⟨D4, eD4, h⟩ := bnd_x h
  refine j_putI C fl_X11_391 dX11_moves_38 (by decide) ⟨rfl, rfl⟩ rfl rfl rfl ?_
  refine j_rep eD4 ?_
  refine j_iload_n C 0 dX11_moves_41 rfl rfl ?_
  obtain ⟨rfl, rfl⟩ := pr_x h
  exact j_iret C dX11_moves_42
def F_X11_moves (a1 : Int32) (D : Dt) : Option (Int32 × Dt) := (if (D.1 (11, 0, 0, 0) 48) = 0 then (F_X11_moves_b20 a1 a1 D) else (grd (inB (D.1 (11, 0, 0, 0) 47) 560 = true) (F_X11_moves_b20 a1 (D.1 (11, 0, 45, 0) ((D.1 (11, 0, 0, 0) 47).toNatClampNeg)) D)))
set_option maxRecDepth 100000 in
set_option maxHeartbeats 4000000 in
theorem M_X11_moves {l : Launch} {G : Gt} {A : Nat → Prop} {lv : Nat} {a1 : Int32} {D : Dt} {r : Int32} {D' : Dt} (hG : Gok G A) (hlv : 1 ≤ lv)  (h : F_X11_moves a1 D = some (r, D')) : MD l G A lv yX11_moves cX11_moves 3 (some .int) [.ref (ad G (11, 0, 0, 0)), .int a1] D (some (.int r)) D' := by
  unfold F_X11_moves at h
  refine md_start RX11 hG (by decide +kernel) rfl (Nat.le_of_ble_eq_true rfl) (L := [(0, .ref (ad G (11, 0, 0, 0))), (1, .int a1)]) rfl (fun X C => ?_)
  refine j_aload_n C 0 dX11_moves_0 rfl rfl ?_
  refine j_getI C fl_X11_388 dX11_moves_1 (by decide) ⟨rfl, rfl⟩ rfl ?_
  refine j_if_eq C 19 dX11_moves_4 (by decide) (fun c1 => ?_) (fun c1 => ?_)
  · have h := ite_t c1 h
    refine j_iload_n C 1 dX11_moves_19 rfl rfl ?_
    refine j_sub [0] [(0, .ref (ad G (11, 0, 0, 0)))] rfl ?_
    refine T_X11_moves_b20 hG hlv  C  a1 D h
  · have h := ite_f c1 h
    refine j_aload_n C 0 dX11_moves_7 rfl rfl ?_
    refine j_getS C (11, 0, 45, 0) fl_X11_103 dX11_moves_8 (by decide) ⟨rfl, rfl⟩ rfl rfl ?_
    refine j_aload_n C 0 dX11_moves_11 rfl rfl ?_
    refine j_getI C fl_X11_391 dX11_moves_12 (by decide) ⟨rfl, rfl⟩ rfl ?_
    obtain ⟨g5, h⟩ := grd_x h
    refine j_ialdK C 560 ((D.1 (11, 0, 0, 0) 47).toNatClampNeg) dX11_moves_15 (V_f 44 (by decide) (by decide)) rfl g5 rfl ?_
    refine j_goto C 20 dX11_moves_16 (by decide) ?_
    refine j_sub [0] [(0, .ref (ad G (11, 0, 0, 0)))] rfl ?_
    refine T_X11_moves_b20 hG hlv  C  (D.1 (11, 0, 45, 0) ((D.1 (11, 0, 0, 0) 47).toNatClampNeg)) D h
def F_X11_movesRow_b2 (a1 : LA)  : Nat → Int32 → Dt → Option Dt
  | 0, _, _ => none
  | f + 1, l2, D => (if (Int32.ofNat (lenOf a1)) ≤ l2 then (some D) else (grd (inB l2 (lenOf a1) = true) (cbd (F_X11_moves (D.1 a1 (l2.toNatClampNeg)) D) (fun r4 D5 => (bnd (setI D5 a1 (l2.toNatClampNeg) r4) (fun D6 => (bnd (l2 + (1 : Int32)) (fun v7 => (F_X11_movesRow_b2 a1 f v7 D6)))))))))
set_option maxRecDepth 100000 in
set_option maxHeartbeats 4000000 in
theorem T_X11_movesRow_b2 {D' : Dt} {X : Ctx} {l : Launch} {G : Gt} {A : Nat → Prop} {lv : Nat} {a1 : LA}   (hG : Gok G A) (hlv : 2 ≤ lv) (hv1 : V a1 = true ∧ sh a1 = .inr (0, lenOf a1))  (C : Cx X cX11_movesRow RX11 G l A lv 3 none none D')  : ∀ (f : Nat) (l2 : Int32) (D : Dt), F_X11_movesRow_b2 a1 f l2 D = some D' → J X (Rep G D) 2 [(0, .ref (ad G (11, 0, 0, 0))), (1, .ref (ad G a1)), (2, .int l2)] [] := by
  intro f
  induction f with
  | zero =>
    intro l2 D h
    exact nomatch h
  | succ f ih =>
    intro l2 D h
    rw [F_X11_movesRow_b2] at h
    refine j_iload_n C 2 dX11_movesRow_2 rfl rfl ?_
    refine j_aload_n C 1 dX11_movesRow_3 rfl rfl ?_
    refine j_alen C (Int32.ofNat (lenOf a1)) dX11_movesRow_4 hv1.1 hv1.2 (by decide) rfl ?_
    refine j_icmp_ge C 24 dX11_movesRow_5 (by decide) (fun c1 => ?_) (fun c1 => ?_)
    · have h := ite_t c1 h
      obtain rfl := Option.some.inj h
      exact j_vret C dX11_movesRow_24
    · have h := ite_f c1 h
      refine j_aload_n C 1 dX11_movesRow_8 rfl rfl ?_
      refine j_iload_n C 2 dX11_movesRow_9 rfl rfl ?_
      refine j_aload_n C 0 dX11_movesRow_10 rfl rfl ?_
      refine j_aload_n C 1 dX11_movesRow_11 rfl rfl ?_
      refine j_iload_n C 2 dX11_movesRow_12 rfl rfl ?_
      obtain ⟨g2, h⟩ := grd_x h
      refine j_ialdK C (lenOf a1) (l2.toNatClampNeg) dX11_movesRow_13 hv1.1 hv1.2 g2 rfl ?_
      obtain ⟨r4, D5, h3, h⟩ := cbd_x h
      refine j_callV C [.int (D.1 a1 (l2.toNatClampNeg))] [.int l2, .ref (ad G a1)] cl_X11_394 (M_X11_moves (lv := lv - 1) hG (by omega) h3) (by omega) dX11_movesRow_14 (by decide) ⟨rfl, rfl⟩ rfl rfl (Nat.le_of_ble_eq_true rfl) ?_
      refine j_st (st' := [.int r4, .int l2, .ref (ad G a1)]) rfl ?_
      obtain ⟨D6, eD6, h⟩ := bnd_x h
      refine j_iastK C (lenOf a1) (l2.toNatClampNeg) dX11_movesRow_17 hv1.1 hv1.2 g2 rfl ?_
      refine j_rep eD6 ?_
      obtain ⟨v7, ev7, h⟩ := bnd_x h
      refine j_iinc C 2 [(2, .int v7), (0, .ref (ad G (11, 0, 0, 0))), (1, .ref (ad G a1))] dX11_movesRow_18 rfl (Nat.le_of_ble_eq_true rfl) (ev7.trans (congrArg (l2 + ·) (by decide))) rfl ?_
      refine j_goto C 2 dX11_movesRow_21 (by decide) ?_
      refine j_sub [1, 2, 0] [(0, .ref (ad G (11, 0, 0, 0))), (1, .ref (ad G a1)), (2, .int v7)] rfl ?_
      exact ih v7 D6 h
def F_X11_movesRow (a1 : LA) (D : Dt) : Option Dt := (grd (V a1 = true ∧ sh a1 = .inr (0, lenOf a1)) (F_X11_movesRow_b2 a1 2000 (0 : Int32) D))
set_option maxRecDepth 100000 in
set_option maxHeartbeats 4000000 in
theorem M_X11_movesRow {l : Launch} {G : Gt} {A : Nat → Prop} {lv : Nat} {a1 : LA} {D : Dt} {D' : Dt} (hG : Gok G A) (hlv : 2 ≤ lv)  (h : F_X11_movesRow a1 D = some D') : MD l G A lv yX11_movesRow cX11_movesRow 3 none [.ref (ad G (11, 0, 0, 0)), .ref (ad G a1)] D none D' := by
  unfold F_X11_movesRow at h
  obtain ⟨hv1, h⟩ := grd_x h
  refine md_start RX11 hG (by decide +kernel) rfl (Nat.le_of_ble_eq_true rfl) (L := [(0, .ref (ad G (11, 0, 0, 0))), (1, .ref (ad G a1))]) rfl (fun X C => ?_)
  refine j_iconst C (0 : Int32) (by decide) dX11_movesRow_0 ?_
  refine j_istore_n C [(2, .int (0 : Int32)), (0, .ref (ad G (11, 0, 0, 0))), (1, .ref (ad G a1))] dX11_movesRow_1 rfl (Nat.le_of_ble_eq_true rfl) rfl rfl ?_
  refine j_sub [1, 2, 0] [(0, .ref (ad G (11, 0, 0, 0))), (1, .ref (ad G a1)), (2, .int (0 : Int32))] rfl ?_
  refine T_X11_movesRow_b2 hG hlv hv1 C  2000 (0 : Int32) D h
def F_X11_movesAll_b15 (a1 : Int32) (a2 : Int32) (k43 : Dt → Option Dt) : Nat → Int32 → Dt → Option Dt
  | 0, _, _ => none
  | f + 1, l3, D => (if (6 : Int32) ≤ l3 then (k43  D) else (grd (inB l3 9 = true) (cbd (F_X11_moves (D.1 (11, 0, 2, 0) (l3.toNatClampNeg)) D) (fun r7 D8 => (bnd (setI D8 (11, 0, 2, 0) (l3.toNatClampNeg) r7) (fun D9 => (bnd (l3 + (1 : Int32)) (fun v10 => (F_X11_movesAll_b15 a1 a2 k43 f v10 D9)))))))))
set_option maxRecDepth 100000 in
set_option maxHeartbeats 4000000 in
theorem T_X11_movesAll_b15 {D' : Dt} {X : Ctx} {l : Launch} {G : Gt} {A : Nat → Prop} {lv : Nat} {a1 : Int32} {a2 : Int32}  {k43 : Dt → Option Dt} (hG : Gok G A) (hlv : 3 ≤ lv)   (C : Cx X cX11_movesAll RX11 G l A lv 4 none none D') (hk43 : ∀  (D : Dt), k43  D = some D' → J X (Rep G D) 43 [(0, .ref (ad G (11, 0, 0, 0)))] []) : ∀ (f : Nat) (l3 : Int32) (D : Dt), F_X11_movesAll_b15 a1 a2 k43 f l3 D = some D' → J X (Rep G D) 15 [(0, .ref (ad G (11, 0, 0, 0))), (3, .int l3)] [] := by
  intro f
  induction f with
  | zero =>
    intro l3 D h
    exact nomatch h
  | succ f ih =>
    intro l3 D h
    rw [F_X11_movesAll_b15] at h
    refine j_iload_n C 1 dX11_movesAll_15 rfl rfl ?_
    refine j_bipush C (6 : Int32) (by decide) dX11_movesAll_16 ?_
    refine j_icmp_ge C 43 dX11_movesAll_18 (by decide) (fun c4 => ?_) (fun c4 => ?_)
    · have h := ite_t c4 h
      refine j_sub [0] [(0, .ref (ad G (11, 0, 0, 0)))] rfl ?_
      exact hk43  D h
    · have h := ite_f c4 h
      refine j_aload_n C 0 dX11_movesAll_21 rfl rfl ?_
      refine j_getS C (11, 0, 2, 0) fl_X11_9 dX11_movesAll_22 (by decide) ⟨rfl, rfl⟩ rfl rfl ?_
      refine j_iload_n C 1 dX11_movesAll_25 rfl rfl ?_
      refine j_aload_n C 0 dX11_movesAll_26 rfl rfl ?_
      refine j_aload_n C 0 dX11_movesAll_27 rfl rfl ?_
      refine j_getS C (11, 0, 2, 0) fl_X11_9 dX11_movesAll_28 (by decide) ⟨rfl, rfl⟩ rfl rfl ?_
      refine j_iload_n C 1 dX11_movesAll_31 rfl rfl ?_
      obtain ⟨g5, h⟩ := grd_x h
      refine j_ialdK C 9 (l3.toNatClampNeg) dX11_movesAll_32 (V_f 1 (by decide) (by decide)) rfl g5 rfl ?_
      obtain ⟨r7, D8, h6, h⟩ := cbd_x h
      refine j_callV C [.int (D.1 (11, 0, 2, 0) (l3.toNatClampNeg))] [.int l3, .ref (ad G (11, 0, 2, 0))] cl_X11_394 (M_X11_moves (lv := lv - 1) hG (by omega) h6) (by omega) dX11_movesAll_33 (by decide) ⟨rfl, rfl⟩ rfl rfl (Nat.le_of_ble_eq_true rfl) ?_
      refine j_st (st' := [.int r7, .int l3, .ref (ad G (11, 0, 2, 0))]) rfl ?_
      obtain ⟨D9, eD9, h⟩ := bnd_x h
      refine j_iastK C 9 (l3.toNatClampNeg) dX11_movesAll_36 (V_f 1 (by decide) (by decide)) rfl g5 rfl ?_
      refine j_rep eD9 ?_
      obtain ⟨v10, ev10, h⟩ := bnd_x h
      refine j_iinc C 1 [(3, .int v10), (0, .ref (ad G (11, 0, 0, 0)))] dX11_movesAll_37 rfl (Nat.le_of_ble_eq_true rfl) (ev10.trans (congrArg (l3 + ·) (by decide))) rfl ?_
      refine j_goto C 15 dX11_movesAll_40 (by decide) ?_
      refine j_sub [1, 0] [(0, .ref (ad G (11, 0, 0, 0))), (3, .int v10)] rfl ?_
      exact ih v10 D9 h
def F_X11_movesAll (a1 : Int32) (a2 : Int32) (D : Dt) : Option Dt := (bnd (setI D (11, 0, 0, 0) 47 ((28 : Int32) * a1)) (fun D1 => (grd (a2 = 0 ∨ a2 = 1) (bnd (setI D1 (11, 0, 0, 0) 48 a2) (fun D3 => (F_X11_movesAll_b15 a1 a2 (fun D11 => (vbd (F_X11_movesRow (11, 0, 3, 0) D11) (fun D13 => (vbd (F_X11_movesRow (11, 0, 4, 0) D13) (fun D15 => (vbd (F_X11_movesRow (11, 0, 5, 0) D15) (fun D17 => (vbd (F_X11_movesRow (11, 0, 6, 0) D17) (fun D19 => (vbd (F_X11_movesRow (11, 0, 7, 0) D19) (fun D21 => (some D21)))))))))))) 2000 (3 : Int32) D3))))))
set_option maxRecDepth 100000 in
set_option maxHeartbeats 4000000 in
theorem M_X11_movesAll {l : Launch} {G : Gt} {A : Nat → Prop} {lv : Nat} {a1 : Int32} {a2 : Int32} {D : Dt} {D' : Dt} (hG : Gok G A) (hlv : 3 ≤ lv)  (h : F_X11_movesAll a1 a2 D = some D') : MD l G A lv yX11_movesAll cX11_movesAll 4 none [.ref (ad G (11, 0, 0, 0)), .int a1, .int a2] D none D' := by
  unfold F_X11_movesAll at h
  refine md_start RX11 hG (by decide +kernel) rfl (Nat.le_of_ble_eq_true rfl) (L := [(0, .ref (ad G (11, 0, 0, 0))), (1, .int a1), (2, .int a2)]) rfl (fun X C => ?_)
  refine j_aload_n C 0 dX11_movesAll_0 rfl rfl ?_
  refine j_bipush C (28 : Int32) (by decide) dX11_movesAll_1 ?_
  refine j_iload_n C 1 dX11_movesAll_3 rfl rfl ?_
  refine j_imul C dX11_movesAll_4 ?_
  obtain ⟨D1, eD1, h⟩ := bnd_x h
  refine j_putI C fl_X11_391 dX11_movesAll_5 (by decide) ⟨rfl, rfl⟩ rfl rfl rfl ?_
  refine j_rep eD1 ?_
  refine j_aload_n C 0 dX11_movesAll_8 rfl rfl ?_
  refine j_iload_n C 2 dX11_movesAll_9 rfl rfl ?_
  obtain ⟨g2, h⟩ := grd_x h
  obtain ⟨D3, eD3, h⟩ := bnd_x h
  refine j_putZ C fl_X11_388 dX11_movesAll_10 (by decide) ⟨rfl, rfl⟩ rfl rfl rfl g2 ?_
  refine j_rep eD3 ?_
  refine j_iconst C (3 : Int32) (by decide) dX11_movesAll_13 ?_
  refine j_istore_n C [(3, .int (3 : Int32)), (0, .ref (ad G (11, 0, 0, 0))), (1, .int a1), (2, .int a2)] dX11_movesAll_14 rfl (Nat.le_of_ble_eq_true rfl) rfl rfl ?_
  refine j_sub [1, 0] [(0, .ref (ad G (11, 0, 0, 0))), (3, .int (3 : Int32))] rfl ?_
  refine T_X11_movesAll_b15 hG hlv  C (fun D11 h => ?_) 2000 (3 : Int32) D3 h
  · refine j_aload_n C 0 dX11_movesAll_43 rfl rfl ?_
    refine j_aload_n C 0 dX11_movesAll_44 rfl rfl ?_
    refine j_getS C (11, 0, 3, 0) fl_X11_13 dX11_movesAll_45 (by decide) ⟨rfl, rfl⟩ rfl rfl ?_
    obtain ⟨D13, h12, h⟩ := vbd_x h
    refine j_callV C [.ref (ad G (11, 0, 3, 0))] [] cl_X11_397 (M_X11_movesRow (lv := lv - 1) hG (by omega) h12) (by omega) dX11_movesAll_48 (by decide) ⟨rfl, rfl⟩ rfl rfl (Nat.le_of_ble_eq_true rfl) ?_
    refine j_st (st' := []) rfl ?_
    refine j_aload_n C 0 dX11_movesAll_51 rfl rfl ?_
    refine j_aload_n C 0 dX11_movesAll_52 rfl rfl ?_
    refine j_getS C (11, 0, 4, 0) fl_X11_16 dX11_movesAll_53 (by decide) ⟨rfl, rfl⟩ rfl rfl ?_
    obtain ⟨D15, h14, h⟩ := vbd_x h
    refine j_callV C [.ref (ad G (11, 0, 4, 0))] [] cl_X11_397 (M_X11_movesRow (lv := lv - 1) hG (by omega) h14) (by omega) dX11_movesAll_56 (by decide) ⟨rfl, rfl⟩ rfl rfl (Nat.le_of_ble_eq_true rfl) ?_
    refine j_st (st' := []) rfl ?_
    refine j_aload_n C 0 dX11_movesAll_59 rfl rfl ?_
    refine j_aload_n C 0 dX11_movesAll_60 rfl rfl ?_
    refine j_getS C (11, 0, 5, 0) fl_X11_19 dX11_movesAll_61 (by decide) ⟨rfl, rfl⟩ rfl rfl ?_
    obtain ⟨D17, h16, h⟩ := vbd_x h
    refine j_callV C [.ref (ad G (11, 0, 5, 0))] [] cl_X11_397 (M_X11_movesRow (lv := lv - 1) hG (by omega) h16) (by omega) dX11_movesAll_64 (by decide) ⟨rfl, rfl⟩ rfl rfl (Nat.le_of_ble_eq_true rfl) ?_
    refine j_st (st' := []) rfl ?_
    refine j_aload_n C 0 dX11_movesAll_67 rfl rfl ?_
    refine j_aload_n C 0 dX11_movesAll_68 rfl rfl ?_
    refine j_getS C (11, 0, 6, 0) fl_X11_22 dX11_movesAll_69 (by decide) ⟨rfl, rfl⟩ rfl rfl ?_
    obtain ⟨D19, h18, h⟩ := vbd_x h
    refine j_callV C [.ref (ad G (11, 0, 6, 0))] [] cl_X11_397 (M_X11_movesRow (lv := lv - 1) hG (by omega) h18) (by omega) dX11_movesAll_72 (by decide) ⟨rfl, rfl⟩ rfl rfl (Nat.le_of_ble_eq_true rfl) ?_
    refine j_st (st' := []) rfl ?_
    refine j_aload_n C 0 dX11_movesAll_75 rfl rfl ?_
    refine j_aload_n C 0 dX11_movesAll_76 rfl rfl ?_
    refine j_getS C (11, 0, 7, 0) fl_X11_25 dX11_movesAll_77 (by decide) ⟨rfl, rfl⟩ rfl rfl ?_
    obtain ⟨D21, h20, h⟩ := vbd_x h
    refine j_callV C [.ref (ad G (11, 0, 7, 0))] [] cl_X11_397 (M_X11_movesRow (lv := lv - 1) hG (by omega) h20) (by omega) dX11_movesAll_80 (by decide) ⟨rfl, rfl⟩ rfl rfl (Nat.le_of_ble_eq_true rfl) ?_
    refine j_st (st' := []) rfl ?_
    obtain rfl := Option.some.inj h
    exact j_vret C dX11_movesAll_83
def F_X11_keepsAct_b50    (D : Dt) : Option Dt := (vbd (F_X11_movesAll (D.1 (11, 0, 0, 0) 46) (0 : Int32) D) (fun D3 => (bnd (setI D3 (11, 0, 0, 0) 46 ((D3.1 (11, 0, 0, 0) 46) + (1 : Int32))) (fun D4 => (some D4)))))
set_option maxRecDepth 100000 in
set_option maxHeartbeats 4000000 in
theorem T_X11_keepsAct_b50 {D' : Dt} {X : Ctx} {l : Launch} {G : Gt} {A : Nat → Prop} {lv : Nat}    (hG : Gok G A) (hlv : 4 ≤ lv)   (C : Cx X cX11_keepsAct RX11 G l A lv 2 none none D')  : ∀  (D : Dt), F_X11_keepsAct_b50   D = some D' → J X (Rep G D) 50 [(0, .ref (ad G (11, 0, 0, 0)))] [] := by
  intro D h
  unfold F_X11_keepsAct_b50 at h
  refine j_aload_n C 0 dX11_keepsAct_50 rfl rfl ?_
  refine j_aload_n C 0 dX11_keepsAct_51 rfl rfl ?_
  refine j_getI C fl_X11_298 dX11_keepsAct_52 (by decide) ⟨rfl, rfl⟩ rfl ?_
  refine j_iconst C (0 : Int32) (by decide) dX11_keepsAct_55 ?_
  obtain ⟨D3, h2, h⟩ := vbd_x h
  refine j_callV C [.int (D.1 (11, 0, 0, 0) 46), .int (0 : Int32)] [] cl_X11_401 (M_X11_movesAll (lv := lv - 1) hG (by omega) h2) (by omega) dX11_keepsAct_56 (by decide) ⟨rfl, rfl⟩ rfl rfl (Nat.le_of_ble_eq_true rfl) ?_
  refine j_st (st' := []) rfl ?_
  refine j_aload_n C 0 dX11_keepsAct_59 rfl rfl ?_
  refine j_dup C rfl dX11_keepsAct_60 ?_
  refine j_getI C fl_X11_298 dX11_keepsAct_61 (by decide) ⟨rfl, rfl⟩ rfl ?_
  refine j_iconst C (1 : Int32) (by decide) dX11_keepsAct_64 ?_
  refine j_iadd C dX11_keepsAct_65 ?_
  obtain ⟨D4, eD4, h⟩ := bnd_x h
  refine j_putI C fl_X11_298 dX11_keepsAct_66 (by decide) ⟨rfl, rfl⟩ rfl rfl rfl ?_
  refine j_rep eD4 ?_
  obtain rfl := Option.some.inj h
  exact j_vret C dX11_keepsAct_69
def F_X11_keepsAct_b12  (k40 : Dt → Option Dt) : Nat → Int32 → Dt → Option Dt
  | 0, _, _ => none
  | f + 1, l1, D => (if (560 : Int32) ≤ l1 then (k40  D) else (grd (inB l1 560 = true) (grd (inB (l1 - (28 : Int32)) 560 = true) (bnd (setI D (11, 0, 45, 0) ((l1 - (28 : Int32)).toNatClampNeg) (D.1 (11, 0, 45, 0) (l1.toNatClampNeg))) (fun D8 => (bnd (l1 + (1 : Int32)) (fun v9 => (F_X11_keepsAct_b12 k40 f v9 D8))))))))
set_option maxRecDepth 100000 in
set_option maxHeartbeats 4000000 in
theorem T_X11_keepsAct_b12 {D' : Dt} {X : Ctx} {l : Launch} {G : Gt} {A : Nat → Prop} {lv : Nat}   {k40 : Dt → Option Dt} (hG : Gok G A) (hlv : 4 ≤ lv)   (C : Cx X cX11_keepsAct RX11 G l A lv 2 none none D') (hk40 : ∀  (D : Dt), k40  D = some D' → J X (Rep G D) 40 [(0, .ref (ad G (11, 0, 0, 0)))] []) : ∀ (f : Nat) (l1 : Int32) (D : Dt), F_X11_keepsAct_b12 k40 f l1 D = some D' → J X (Rep G D) 12 [(0, .ref (ad G (11, 0, 0, 0))), (1, .int l1)] [] := by
  intro f
  induction f with
  | zero =>
    intro l1 D h
    exact nomatch h
  | succ f ih =>
    intro l1 D h
    rw [F_X11_keepsAct_b12] at h
    refine j_iload_n C 1 dX11_keepsAct_12 rfl rfl ?_
    refine j_sipush C (560 : Int32) (by decide) dX11_keepsAct_13 ?_
    refine j_icmp_ge C 40 dX11_keepsAct_16 (by decide) (fun c5 => ?_) (fun c5 => ?_)
    · have h := ite_t c5 h
      refine j_sub [0] [(0, .ref (ad G (11, 0, 0, 0)))] rfl ?_
      exact hk40  D h
    · have h := ite_f c5 h
      refine j_aload_n C 0 dX11_keepsAct_19 rfl rfl ?_
      refine j_getS C (11, 0, 45, 0) fl_X11_103 dX11_keepsAct_20 (by decide) ⟨rfl, rfl⟩ rfl rfl ?_
      refine j_iload_n C 1 dX11_keepsAct_23 rfl rfl ?_
      refine j_bipush C (28 : Int32) (by decide) dX11_keepsAct_24 ?_
      refine j_isub C dX11_keepsAct_26 ?_
      refine j_aload_n C 0 dX11_keepsAct_27 rfl rfl ?_
      refine j_getS C (11, 0, 45, 0) fl_X11_103 dX11_keepsAct_28 (by decide) ⟨rfl, rfl⟩ rfl rfl ?_
      refine j_iload_n C 1 dX11_keepsAct_31 rfl rfl ?_
      obtain ⟨g6, h⟩ := grd_x h
      refine j_ialdK C 560 (l1.toNatClampNeg) dX11_keepsAct_32 (V_f 44 (by decide) (by decide)) rfl g6 rfl ?_
      obtain ⟨g7, h⟩ := grd_x h
      obtain ⟨D8, eD8, h⟩ := bnd_x h
      refine j_iastK C 560 ((l1 - (28 : Int32)).toNatClampNeg) dX11_keepsAct_33 (V_f 44 (by decide) (by decide)) rfl g7 rfl ?_
      refine j_rep eD8 ?_
      obtain ⟨v9, ev9, h⟩ := bnd_x h
      refine j_iinc C 1 [(1, .int v9), (0, .ref (ad G (11, 0, 0, 0)))] dX11_keepsAct_34 rfl (Nat.le_of_ble_eq_true rfl) (ev9.trans (congrArg (l1 + ·) (by decide))) rfl ?_
      refine j_goto C 12 dX11_keepsAct_37 (by decide) ?_
      refine j_sub [1, 0] [(0, .ref (ad G (11, 0, 0, 0))), (1, .int v9)] rfl ?_
      exact ih v9 D8 h
def F_X11_keepsAct  (D : Dt) : Option Dt := (if (D.1 (11, 0, 0, 0) 46) = (20 : Int32) then (F_X11_keepsAct_b12 (fun D10 => (bnd (setI D10 (11, 0, 0, 0) 46 ((D10.1 (11, 0, 0, 0) 46) - (1 : Int32))) (fun D11 => (F_X11_keepsAct_b50   D11)))) 2000 (28 : Int32) D) else (F_X11_keepsAct_b50   D))
set_option maxRecDepth 100000 in
set_option maxHeartbeats 4000000 in
theorem M_X11_keepsAct {l : Launch} {G : Gt} {A : Nat → Prop} {lv : Nat}  {D : Dt} {D' : Dt} (hG : Gok G A) (hlv : 4 ≤ lv)  (h : F_X11_keepsAct  D = some D') : MD l G A lv yX11_keepsAct cX11_keepsAct 2 none [.ref (ad G (11, 0, 0, 0))] D none D' := by
  unfold F_X11_keepsAct at h
  refine md_start RX11 hG (by decide +kernel) rfl (Nat.le_of_ble_eq_true rfl) (L := [(0, .ref (ad G (11, 0, 0, 0)))]) rfl (fun X C => ?_)
  refine j_aload_n C 0 dX11_keepsAct_0 rfl rfl ?_
  refine j_getI C fl_X11_298 dX11_keepsAct_1 (by decide) ⟨rfl, rfl⟩ rfl ?_
  refine j_bipush C (20 : Int32) (by decide) dX11_keepsAct_4 ?_
  refine j_icmp_ne C 50 dX11_keepsAct_6 (by decide) (fun c1 => ?_) (fun c1 => ?_)
  · have h := ite_f c1 h
    refine T_X11_keepsAct_b50 hG hlv  C   D h
  · have h := ite_t c1 h
    refine j_bipush C (28 : Int32) (by decide) dX11_keepsAct_9 ?_
    refine j_istore_n C [(1, .int (28 : Int32)), (0, .ref (ad G (11, 0, 0, 0)))] dX11_keepsAct_11 rfl (Nat.le_of_ble_eq_true rfl) rfl rfl ?_
    refine j_sub [1, 0] [(0, .ref (ad G (11, 0, 0, 0))), (1, .int (28 : Int32))] rfl ?_
    refine T_X11_keepsAct_b12 hG hlv  C (fun D10 h => ?_) 2000 (28 : Int32) D h
    · refine j_aload_n C 0 dX11_keepsAct_40 rfl rfl ?_
      refine j_dup C rfl dX11_keepsAct_41 ?_
      refine j_getI C fl_X11_298 dX11_keepsAct_42 (by decide) ⟨rfl, rfl⟩ rfl ?_
      refine j_iconst C (1 : Int32) (by decide) dX11_keepsAct_45 ?_
      refine j_isub C dX11_keepsAct_46 ?_
      obtain ⟨D11, eD11, h⟩ := bnd_x h
      refine j_putI C fl_X11_298 dX11_keepsAct_47 (by decide) ⟨rfl, rfl⟩ rfl rfl rfl ?_
      refine j_rep eD11 ?_
      refine T_X11_keepsAct_b50 hG hlv  C   D11 h
def F_X11_undo  (D : Dt) : Option (Int32 × Dt) := (if (D.1 (11, 0, 0, 0) 46) = 0 then (some ((-2 : Int32), D)) else (bnd (setI D (11, 0, 0, 0) 46 ((D.1 (11, 0, 0, 0) 46) - (1 : Int32))) (fun D2 => (vbd (F_X11_movesAll (D2.1 (11, 0, 0, 0) 46) (1 : Int32) D2) (fun D4 => (some ((D4.1 (11, 0, 0, 0) 46), D4)))))))
set_option maxRecDepth 100000 in
set_option maxHeartbeats 4000000 in
theorem M_X11_undo {l : Launch} {G : Gt} {A : Nat → Prop} {lv : Nat}  {D : Dt} {r : Int32} {D' : Dt} (hG : Gok G A) (hlv : 4 ≤ lv)  (h : F_X11_undo  D = some (r, D')) : MD l G A lv yX11_undo cX11_undo 1 (some .int) [.ref (ad G (11, 0, 0, 0))] D (some (.int r)) D' := by
  unfold F_X11_undo at h
  refine md_start RX11 hG (by decide +kernel) rfl (Nat.le_of_ble_eq_true rfl) (L := [(0, .ref (ad G (11, 0, 0, 0)))]) rfl (fun X C => ?_)
  refine j_aload_n C 0 dX11_undo_0 rfl rfl ?_
  refine j_getI C fl_X11_298 dX11_undo_1 (by decide) ⟨rfl, rfl⟩ rfl ?_
  refine j_if_ne C 10 dX11_undo_4 (by decide) (fun c1 => ?_) (fun c1 => ?_)
  · have h := ite_f c1 h
    refine j_aload_n C 0 dX11_undo_10 rfl rfl ?_
    refine j_dup C rfl dX11_undo_11 ?_
    refine j_getI C fl_X11_298 dX11_undo_12 (by decide) ⟨rfl, rfl⟩ rfl ?_
    refine j_iconst C (1 : Int32) (by decide) dX11_undo_15 ?_
    refine j_isub C dX11_undo_16 ?_
    obtain ⟨D2, eD2, h⟩ := bnd_x h
    refine j_putI C fl_X11_298 dX11_undo_17 (by decide) ⟨rfl, rfl⟩ rfl rfl rfl ?_
    refine j_rep eD2 ?_
    refine j_aload_n C 0 dX11_undo_20 rfl rfl ?_
    refine j_aload_n C 0 dX11_undo_21 rfl rfl ?_
    refine j_getI C fl_X11_298 dX11_undo_22 (by decide) ⟨rfl, rfl⟩ rfl ?_
    refine j_iconst C (1 : Int32) (by decide) dX11_undo_25 ?_
    obtain ⟨D4, h3, h⟩ := vbd_x h
    refine j_callV C [.int (D2.1 (11, 0, 0, 0) 46), .int (1 : Int32)] [] cl_X11_401 (M_X11_movesAll (lv := lv - 1) hG (by omega) h3) (by omega) dX11_undo_26 (by decide) ⟨rfl, rfl⟩ rfl rfl (Nat.le_of_ble_eq_true rfl) ?_
    refine j_st (st' := []) rfl ?_
    refine j_aload_n C 0 dX11_undo_29 rfl rfl ?_
    refine j_getI C fl_X11_298 dX11_undo_30 (by decide) ⟨rfl, rfl⟩ rfl ?_
    obtain ⟨rfl, rfl⟩ := pr_x h
    exact j_iret C dX11_undo_33
  · have h := ite_t c1 h
    refine j_bipush C (-2 : Int32) (by decide) dX11_undo_7 ?_
    obtain ⟨rfl, rfl⟩ := pr_x h
    exact j_iret C dX11_undo_9
def F_X11_week  (D : Dt) : Option (Int32 × Dt) := (cbd (F_X11_isTable  D) (fun r2 D3 => (if r2 = 0 then (some ((-1 : Int32), D3)) else (if (D3.1 (11, 0, 2, 0) 4) = (999 : Int32) then (some ((-1 : Int32), D3)) else (vbd (F_X11_keepsAct  D3) (fun D7 => (cbd (F_X11_goes  D7) (fun r9 D10 => (some (r9, D10))))))))))
set_option maxRecDepth 100000 in
set_option maxHeartbeats 4000000 in
theorem M_X11_week {l : Launch} {G : Gt} {A : Nat → Prop} {lv : Nat}  {D : Dt} {r : Int32} {D' : Dt} (hG : Gok G A) (hlv : 9 ≤ lv)  (h : F_X11_week  D = some (r, D')) : MD l G A lv yX11_week cX11_week 1 (some .int) [.ref (ad G (11, 0, 0, 0))] D (some (.int r)) D' := by
  unfold F_X11_week at h
  refine md_start RX11 hG (by decide +kernel) rfl (Nat.le_of_ble_eq_true rfl) (L := [(0, .ref (ad G (11, 0, 0, 0)))]) rfl (fun X C => ?_)
  refine j_aload_n C 0 dX11_week_0 rfl rfl ?_
  obtain ⟨r2, D3, h1, h⟩ := cbd_x h
  refine j_callV C [] [] cl_X11_405 (M_X11_isTable (lv := lv - 1) hG (by omega) h1) (by omega) dX11_week_1 (by decide) ⟨rfl, rfl⟩ rfl rfl (Nat.le_of_ble_eq_true rfl) ?_
  refine j_st (st' := [.int r2]) rfl ?_
  refine j_if_eq C 19 dX11_week_4 (by decide) (fun c4 => ?_) (fun c4 => ?_)
  · have h := ite_t c4 h
    refine j_iconst C (-1 : Int32) (by decide) dX11_week_19 ?_
    obtain ⟨rfl, rfl⟩ := pr_x h
    exact j_iret C dX11_week_20
  · have h := ite_f c4 h
    refine j_aload_n C 0 dX11_week_7 rfl rfl ?_
    refine j_getS C (11, 0, 2, 0) fl_X11_9 dX11_week_8 (by decide) ⟨rfl, rfl⟩ rfl rfl ?_
    refine j_iconst C (4 : Int32) (by decide) dX11_week_11 ?_
    refine j_ialdK C 9 4 dX11_week_12 (V_f 1 (by decide) (by decide)) rfl (by decide) (by decide) ?_
    refine j_sipush C (999 : Int32) (by decide) dX11_week_13 ?_
    refine j_icmp_ne C 21 dX11_week_16 (by decide) (fun c5 => ?_) (fun c5 => ?_)
    · have h := ite_f c5 h
      refine j_aload_n C 0 dX11_week_21 rfl rfl ?_
      obtain ⟨D7, h6, h⟩ := vbd_x h
      refine j_callV C [] [] cl_X11_408 (M_X11_keepsAct (lv := lv - 1) hG (by omega) h6) (by omega) dX11_week_22 (by decide) ⟨rfl, rfl⟩ rfl rfl (Nat.le_of_ble_eq_true rfl) ?_
      refine j_st (st' := []) rfl ?_
      refine j_aload_n C 0 dX11_week_25 rfl rfl ?_
      obtain ⟨r9, D10, h8, h⟩ := cbd_x h
      refine j_callV C [] [] cl_X11_385 (M_X11_goes (lv := lv - 1) hG (by omega) h8) (by omega) dX11_week_26 (by decide) ⟨rfl, rfl⟩ rfl rfl (Nat.le_of_ble_eq_true rfl) ?_
      refine j_st (st' := [.int r9]) rfl ?_
      obtain ⟨rfl, rfl⟩ := pr_x h
      exact j_iret C dX11_week_29
    · have h := ite_t c5 h
      refine j_iconst C (-1 : Int32) (by decide) dX11_week_19 ?_
      obtain ⟨rfl, rfl⟩ := pr_x h
      exact j_iret C dX11_week_20
def F_X11_swap (a1 : Int32) (a2 : Int32) (D : Dt) : Option (Int32 × Dt) := (cbd (F_X11_isLand a1 D) (fun r2 D3 => (if r2 = 0 then (some ((-1 : Int32), D3)) else (cbd (F_X11_isLand a2 D3) (fun r6 D7 => (if r6 = 0 then (some ((-1 : Int32), D7)) else (cbd (F_X11_canBuy a1 a2 D7) (fun r10 D11 => (if r10 = 0 then (some ((-1 : Int32), D11)) else (vbd (F_X11_keepsAct  D11) (fun D14 => (vbd (F_X11_buys a1 a2 D14) (fun D16 => (grd (inB a1 5 = true) (some ((D16.1 (11, 0, 3, 0) (a1.toNatClampNeg)), D16))))))))))))))))
set_option maxRecDepth 100000 in
set_option maxHeartbeats 4000000 in
theorem M_X11_swap {l : Launch} {G : Gt} {A : Nat → Prop} {lv : Nat} {a1 : Int32} {a2 : Int32} {D : Dt} {r : Int32} {D' : Dt} (hG : Gok G A) (hlv : 5 ≤ lv)  (h : F_X11_swap a1 a2 D = some (r, D')) : MD l G A lv yX11_swap cX11_swap 3 (some .int) [.ref (ad G (11, 0, 0, 0)), .int a1, .int a2] D (some (.int r)) D' := by
  unfold F_X11_swap at h
  refine md_start RX11 hG (by decide +kernel) rfl (Nat.le_of_ble_eq_true rfl) (L := [(0, .ref (ad G (11, 0, 0, 0))), (1, .int a1), (2, .int a2)]) rfl (fun X C => ?_)
  refine j_aload_n C 0 dX11_swap_0 rfl rfl ?_
  refine j_iload_n C 1 dX11_swap_1 rfl rfl ?_
  obtain ⟨r2, D3, h1, h⟩ := cbd_x h
  refine j_callV C [.int a1] [] cl_X11_340 (M_X11_isLand (lv := lv - 1) hG (by omega) h1) (by omega) dX11_swap_2 (by decide) ⟨rfl, rfl⟩ rfl rfl (Nat.le_of_ble_eq_true rfl) ?_
  refine j_st (st' := [.int r2]) rfl ?_
  refine j_if_eq C 25 dX11_swap_5 (by decide) (fun c4 => ?_) (fun c4 => ?_)
  · have h := ite_t c4 h
    refine j_iconst C (-1 : Int32) (by decide) dX11_swap_25 ?_
    obtain ⟨rfl, rfl⟩ := pr_x h
    exact j_iret C dX11_swap_26
  · have h := ite_f c4 h
    refine j_aload_n C 0 dX11_swap_8 rfl rfl ?_
    refine j_iload_n C 2 dX11_swap_9 rfl rfl ?_
    obtain ⟨r6, D7, h5, h⟩ := cbd_x h
    refine j_callV C [.int a2] [] cl_X11_340 (M_X11_isLand (lv := lv - 1) hG (by omega) h5) (by omega) dX11_swap_10 (by decide) ⟨rfl, rfl⟩ rfl rfl (Nat.le_of_ble_eq_true rfl) ?_
    refine j_st (st' := [.int r6]) rfl ?_
    refine j_if_eq C 25 dX11_swap_13 (by decide) (fun c8 => ?_) (fun c8 => ?_)
    · have h := ite_t c8 h
      refine j_iconst C (-1 : Int32) (by decide) dX11_swap_25 ?_
      obtain ⟨rfl, rfl⟩ := pr_x h
      exact j_iret C dX11_swap_26
    · have h := ite_f c8 h
      refine j_aload_n C 0 dX11_swap_16 rfl rfl ?_
      refine j_iload_n C 1 dX11_swap_17 rfl rfl ?_
      refine j_iload_n C 2 dX11_swap_18 rfl rfl ?_
      obtain ⟨r10, D11, h9, h⟩ := cbd_x h
      refine j_callV C [.int a1, .int a2] [] cl_X11_337 (M_X11_canBuy (lv := lv - 1) hG (by omega) h9) (by omega) dX11_swap_19 (by decide) ⟨rfl, rfl⟩ rfl rfl (Nat.le_of_ble_eq_true rfl) ?_
      refine j_st (st' := [.int r10]) rfl ?_
      refine j_if_ne C 27 dX11_swap_22 (by decide) (fun c12 => ?_) (fun c12 => ?_)
      · have h := ite_f c12 h
        refine j_aload_n C 0 dX11_swap_27 rfl rfl ?_
        obtain ⟨D14, h13, h⟩ := vbd_x h
        refine j_callV C [] [] cl_X11_408 (M_X11_keepsAct (lv := lv - 1) hG (by omega) h13) (by omega) dX11_swap_28 (by decide) ⟨rfl, rfl⟩ rfl rfl (Nat.le_of_ble_eq_true rfl) ?_
        refine j_st (st' := []) rfl ?_
        refine j_aload_n C 0 dX11_swap_31 rfl rfl ?_
        refine j_iload_n C 1 dX11_swap_32 rfl rfl ?_
        refine j_iload_n C 2 dX11_swap_33 rfl rfl ?_
        obtain ⟨D16, h15, h⟩ := vbd_x h
        refine j_callV C [.int a1, .int a2] [] cl_X11_379 (M_X11_buys (lv := lv - 1) hG (by omega) h15) (by omega) dX11_swap_34 (by decide) ⟨rfl, rfl⟩ rfl rfl (Nat.le_of_ble_eq_true rfl) ?_
        refine j_st (st' := []) rfl ?_
        refine j_aload_n C 0 dX11_swap_37 rfl rfl ?_
        refine j_getS C (11, 0, 3, 0) fl_X11_13 dX11_swap_38 (by decide) ⟨rfl, rfl⟩ rfl rfl ?_
        refine j_iload_n C 1 dX11_swap_41 rfl rfl ?_
        obtain ⟨g17, h⟩ := grd_x h
        refine j_ialdK C 5 (a1.toNatClampNeg) dX11_swap_42 (V_f 2 (by decide) (by decide)) rfl g17 rfl ?_
        obtain ⟨rfl, rfl⟩ := pr_x h
        exact j_iret C dX11_swap_43
      · have h := ite_t c12 h
        refine j_iconst C (-1 : Int32) (by decide) dX11_swap_25 ?_
        obtain ⟨rfl, rfl⟩ := pr_x h
        exact j_iret C dX11_swap_26
def F_X11_give (a1 : Int32) (a2 : Int32) (a3 : Int32) (D : Dt) : Option (Int32 × Dt) := (cbd (F_X11_isLand a1 D) (fun r2 D3 => (if r2 = 0 then (some ((-1 : Int32), D3)) else (cbd (F_X11_isLand a2 D3) (fun r6 D7 => (if r6 = 0 then (some ((-1 : Int32), D7)) else (if a1 = a2 then (some ((-1 : Int32), D7)) else (cbd (F_X11_in a3.toInt64 (1 : Int64) (99 : Int64) D7) (fun r11 D12 => (if r11 = 0 then (some ((-1 : Int32), D12)) else (grd (inB a1 5 = true) (if a3 ≤ (D12.1 (11, 0, 3, 0) (a1.toNatClampNeg)) then (vbd (F_X11_keepsAct  D12) (fun D17 => (bnd (setI D17 (11, 0, 3, 0) (a1.toNatClampNeg) ((D17.1 (11, 0, 3, 0) (a1.toNatClampNeg)) - a3)) (fun D18 => (grd (inB a2 5 = true) (cbd (F_X11_upTo ((D18.1 (11, 0, 3, 0) (a2.toNatClampNeg)) + a3) (999 : Int32) D18) (fun r21 D22 => (bnd (setI D22 (11, 0, 3, 0) (a2.toNatClampNeg) r21) (fun D23 => (some ((D23.1 (11, 0, 3, 0) (a1.toNatClampNeg)), D23))))))))))) else (some ((-1 : Int32), D12))))))))))))))
set_option maxRecDepth 100000 in
set_option maxHeartbeats 4000000 in
theorem M_X11_give {l : Launch} {G : Gt} {A : Nat → Prop} {lv : Nat} {a1 : Int32} {a2 : Int32} {a3 : Int32} {D : Dt} {r : Int32} {D' : Dt} (hG : Gok G A) (hlv : 5 ≤ lv)  (h : F_X11_give a1 a2 a3 D = some (r, D')) : MD l G A lv yX11_give cX11_give 4 (some .int) [.ref (ad G (11, 0, 0, 0)), .int a1, .int a2, .int a3] D (some (.int r)) D' := by
  unfold F_X11_give at h
  refine md_start RX11 hG (by decide +kernel) rfl (Nat.le_of_ble_eq_true rfl) (L := [(0, .ref (ad G (11, 0, 0, 0))), (1, .int a1), (2, .int a2), (3, .int a3)]) rfl (fun X C => ?_)
  refine j_aload_n C 0 dX11_give_0 rfl rfl ?_
  refine j_iload_n C 1 dX11_give_1 rfl rfl ?_
  obtain ⟨r2, D3, h1, h⟩ := cbd_x h
  refine j_callV C [.int a1] [] cl_X11_340 (M_X11_isLand (lv := lv - 1) hG (by omega) h1) (by omega) dX11_give_2 (by decide) ⟨rfl, rfl⟩ rfl rfl (Nat.le_of_ble_eq_true rfl) ?_
  refine j_st (st' := [.int r2]) rfl ?_
  refine j_if_eq C 43 dX11_give_5 (by decide) (fun c4 => ?_) (fun c4 => ?_)
  · have h := ite_t c4 h
    refine j_iconst C (-1 : Int32) (by decide) dX11_give_43 ?_
    obtain ⟨rfl, rfl⟩ := pr_x h
    exact j_iret C dX11_give_44
  · have h := ite_f c4 h
    refine j_aload_n C 0 dX11_give_8 rfl rfl ?_
    refine j_iload_n C 2 dX11_give_9 rfl rfl ?_
    obtain ⟨r6, D7, h5, h⟩ := cbd_x h
    refine j_callV C [.int a2] [] cl_X11_340 (M_X11_isLand (lv := lv - 1) hG (by omega) h5) (by omega) dX11_give_10 (by decide) ⟨rfl, rfl⟩ rfl rfl (Nat.le_of_ble_eq_true rfl) ?_
    refine j_st (st' := [.int r6]) rfl ?_
    refine j_if_eq C 43 dX11_give_13 (by decide) (fun c8 => ?_) (fun c8 => ?_)
    · have h := ite_t c8 h
      refine j_iconst C (-1 : Int32) (by decide) dX11_give_43 ?_
      obtain ⟨rfl, rfl⟩ := pr_x h
      exact j_iret C dX11_give_44
    · have h := ite_f c8 h
      refine j_iload_n C 1 dX11_give_16 rfl rfl ?_
      refine j_iload_n C 2 dX11_give_17 rfl rfl ?_
      refine j_icmp_eq C 43 dX11_give_18 (by decide) (fun c9 => ?_) (fun c9 => ?_)
      · have h := ite_t c9 h
        refine j_iconst C (-1 : Int32) (by decide) dX11_give_43 ?_
        obtain ⟨rfl, rfl⟩ := pr_x h
        exact j_iret C dX11_give_44
      · have h := ite_f c9 h
        refine j_iload_n C 3 dX11_give_21 rfl rfl ?_
        refine j_i2l C dX11_give_22 ?_
        refine j_lconst C (1 : Int64) (by decide) dX11_give_23 ?_
        refine j_ldc2 C (99 : Int64) kc_X11_411 dX11_give_24 ?_
        obtain ⟨r11, D12, h10, h⟩ := cbd_x h
        refine j_callS C [.long a3.toInt64, .long (1 : Int64), .long (99 : Int64)] [] cl_X11_134 (M_X11_in (lv := lv - 1) hG (by omega) h10) (by omega) dX11_give_27 rfl rfl (Nat.le_of_ble_eq_true rfl) ?_
        refine j_st (st' := [.int r11]) rfl ?_
        refine j_if_eq C 43 dX11_give_30 (by decide) (fun c13 => ?_) (fun c13 => ?_)
        · have h := ite_t c13 h
          refine j_iconst C (-1 : Int32) (by decide) dX11_give_43 ?_
          obtain ⟨rfl, rfl⟩ := pr_x h
          exact j_iret C dX11_give_44
        · have h := ite_f c13 h
          refine j_aload_n C 0 dX11_give_33 rfl rfl ?_
          refine j_getS C (11, 0, 3, 0) fl_X11_13 dX11_give_34 (by decide) ⟨rfl, rfl⟩ rfl rfl ?_
          refine j_iload_n C 1 dX11_give_37 rfl rfl ?_
          obtain ⟨g14, h⟩ := grd_x h
          refine j_ialdK C 5 (a1.toNatClampNeg) dX11_give_38 (V_f 2 (by decide) (by decide)) rfl g14 rfl ?_
          refine j_iload_n C 3 dX11_give_39 rfl rfl ?_
          refine j_icmp_ge C 45 dX11_give_40 (by decide) (fun c15 => ?_) (fun c15 => ?_)
          · have h := ite_t c15 h
            refine j_aload_n C 0 dX11_give_45 rfl rfl ?_
            obtain ⟨D17, h16, h⟩ := vbd_x h
            refine j_callV C [] [] cl_X11_408 (M_X11_keepsAct (lv := lv - 1) hG (by omega) h16) (by omega) dX11_give_46 (by decide) ⟨rfl, rfl⟩ rfl rfl (Nat.le_of_ble_eq_true rfl) ?_
            refine j_st (st' := []) rfl ?_
            refine j_aload_n C 0 dX11_give_49 rfl rfl ?_
            refine j_getS C (11, 0, 3, 0) fl_X11_13 dX11_give_50 (by decide) ⟨rfl, rfl⟩ rfl rfl ?_
            refine j_iload_n C 1 dX11_give_53 rfl rfl ?_
            refine j_dup2 C rfl rfl dX11_give_54 ?_
            refine j_ialdK C 5 (a1.toNatClampNeg) dX11_give_55 (V_f 2 (by decide) (by decide)) rfl g14 rfl ?_
            refine j_iload_n C 3 dX11_give_56 rfl rfl ?_
            refine j_isub C dX11_give_57 ?_
            obtain ⟨D18, eD18, h⟩ := bnd_x h
            refine j_iastK C 5 (a1.toNatClampNeg) dX11_give_58 (V_f 2 (by decide) (by decide)) rfl g14 rfl ?_
            refine j_rep eD18 ?_
            refine j_aload_n C 0 dX11_give_59 rfl rfl ?_
            refine j_getS C (11, 0, 3, 0) fl_X11_13 dX11_give_60 (by decide) ⟨rfl, rfl⟩ rfl rfl ?_
            refine j_iload_n C 2 dX11_give_63 rfl rfl ?_
            refine j_aload_n C 0 dX11_give_64 rfl rfl ?_
            refine j_getS C (11, 0, 3, 0) fl_X11_13 dX11_give_65 (by decide) ⟨rfl, rfl⟩ rfl rfl ?_
            refine j_iload_n C 2 dX11_give_68 rfl rfl ?_
            obtain ⟨g19, h⟩ := grd_x h
            refine j_ialdK C 5 (a2.toNatClampNeg) dX11_give_69 (V_f 2 (by decide) (by decide)) rfl g19 rfl ?_
            refine j_iload_n C 3 dX11_give_70 rfl rfl ?_
            refine j_iadd C dX11_give_71 ?_
            refine j_sipush C (999 : Int32) (by decide) dX11_give_72 ?_
            obtain ⟨r21, D22, h20, h⟩ := cbd_x h
            refine j_callS C [.int ((D18.1 (11, 0, 3, 0) (a2.toNatClampNeg)) + a3), .int (999 : Int32)] [.int a2, .ref (ad G (11, 0, 3, 0))] cl_X11_349 (M_X11_upTo (lv := lv - 1) hG (by omega) h20) (by omega) dX11_give_75 rfl rfl (Nat.le_of_ble_eq_true rfl) ?_
            refine j_st (st' := [.int r21, .int a2, .ref (ad G (11, 0, 3, 0))]) rfl ?_
            obtain ⟨D23, eD23, h⟩ := bnd_x h
            refine j_iastK C 5 (a2.toNatClampNeg) dX11_give_78 (V_f 2 (by decide) (by decide)) rfl g19 rfl ?_
            refine j_rep eD23 ?_
            refine j_aload_n C 0 dX11_give_79 rfl rfl ?_
            refine j_getS C (11, 0, 3, 0) fl_X11_13 dX11_give_80 (by decide) ⟨rfl, rfl⟩ rfl rfl ?_
            refine j_iload_n C 1 dX11_give_83 rfl rfl ?_
            refine j_ialdK C 5 (a1.toNatClampNeg) dX11_give_84 (V_f 2 (by decide) (by decide)) rfl g14 rfl ?_
            obtain ⟨rfl, rfl⟩ := pr_x h
            exact j_iret C dX11_give_85
          · have h := ite_f c15 h
            refine j_iconst C (-1 : Int32) (by decide) dX11_give_43 ?_
            obtain ⟨rfl, rfl⟩ := pr_x h
            exact j_iret C dX11_give_44
def F_X11_fight_b75 (a1 : Int32) (a2 : Int32)  (l1 : Int32) (l2 : Int32) (s0 : Int32) (D : Dt) : Option (Int32 × Dt) := (bnd ((s0 + (1 : Int32)) / (2 : Int32)) (fun v17 => (grd (inB l1 5 = true) (bnd (setI D (11, 0, 3, 0) (l1.toNatClampNeg) ((D.1 (11, 0, 3, 0) (l1.toNatClampNeg)) - v17)) (fun D19 => (grd (inB l2 5 = true) (bnd (setI D19 (11, 0, 3, 0) (l2.toNatClampNeg) ((D19.1 (11, 0, 3, 0) (l2.toNatClampNeg)) - v17)) (fun D21 => (some (v17, D21))))))))))
set_option maxRecDepth 100000 in
set_option maxHeartbeats 4000000 in
theorem T_X11_fight_b75 {r : Int32} {D' : Dt} {X : Ctx} {l : Launch} {G : Gt} {A : Nat → Prop} {lv : Nat} {a1 : Int32} {a2 : Int32}   (hG : Gok G A) (hlv : 5 ≤ lv)   (C : Cx X cX11_fight RX11 G l A lv 4 (some .int) (some (.int r)) D')  : ∀ (l1 : Int32) (l2 : Int32) (s0 : Int32) (D : Dt), F_X11_fight_b75 a1 a2 l1 l2 s0 D = some (r, D') → J X (Rep G D) 75 [(0, .ref (ad G (11, 0, 0, 0))), (1, .int l1), (2, .int l2)] [.int s0] := by
  intro l1 l2 s0 D h
  unfold F_X11_fight_b75 at h
  refine j_iconst C (1 : Int32) (by decide) dX11_fight_75 ?_
  refine j_iadd C dX11_fight_76 ?_
  refine j_iconst C (2 : Int32) (by decide) dX11_fight_77 ?_
  refine j_idiv C (by decide) dX11_fight_78 ?_
  obtain ⟨v17, ev17, h⟩ := bnd_x h
  refine j_istore_n C [(3, .int v17), (0, .ref (ad G (11, 0, 0, 0))), (1, .int l1), (2, .int l2)] dX11_fight_79 rfl (Nat.le_of_ble_eq_true rfl) ev17 rfl ?_
  refine j_aload_n C 1 dX11_fight_80 rfl rfl ?_
  refine j_getS C (11, 0, 3, 0) fl_X11_13 dX11_fight_81 (by decide) ⟨rfl, rfl⟩ rfl rfl ?_
  refine j_iload_n C 2 dX11_fight_84 rfl rfl ?_
  refine j_dup2 C rfl rfl dX11_fight_85 ?_
  obtain ⟨g18, h⟩ := grd_x h
  refine j_ialdK C 5 (l1.toNatClampNeg) dX11_fight_86 (V_f 2 (by decide) (by decide)) rfl g18 rfl ?_
  refine j_iload_n C 0 dX11_fight_87 rfl rfl ?_
  refine j_isub C dX11_fight_88 ?_
  obtain ⟨D19, eD19, h⟩ := bnd_x h
  refine j_iastK C 5 (l1.toNatClampNeg) dX11_fight_89 (V_f 2 (by decide) (by decide)) rfl g18 rfl ?_
  refine j_rep eD19 ?_
  refine j_aload_n C 1 dX11_fight_90 rfl rfl ?_
  refine j_getS C (11, 0, 3, 0) fl_X11_13 dX11_fight_91 (by decide) ⟨rfl, rfl⟩ rfl rfl ?_
  refine j_iload_n C 3 dX11_fight_94 rfl rfl ?_
  refine j_dup2 C rfl rfl dX11_fight_95 ?_
  obtain ⟨g20, h⟩ := grd_x h
  refine j_ialdK C 5 (l2.toNatClampNeg) dX11_fight_96 (V_f 2 (by decide) (by decide)) rfl g20 rfl ?_
  refine j_iload_n C 0 dX11_fight_97 rfl rfl ?_
  refine j_isub C dX11_fight_98 ?_
  obtain ⟨D21, eD21, h⟩ := bnd_x h
  refine j_iastK C 5 (l2.toNatClampNeg) dX11_fight_99 (V_f 2 (by decide) (by decide)) rfl g20 rfl ?_
  refine j_rep eD21 ?_
  refine j_iload_n C 0 dX11_fight_100 rfl rfl ?_
  obtain ⟨rfl, rfl⟩ := pr_x h
  exact j_iret C dX11_fight_101
def F_X11_fight (a1 : Int32) (a2 : Int32) (D : Dt) : Option (Int32 × Dt) := (cbd (F_X11_isLand a1 D) (fun r2 D3 => (if r2 = 0 then (some ((-1 : Int32), D3)) else (cbd (F_X11_isLand a2 D3) (fun r6 D7 => (if r6 = 0 then (some ((-1 : Int32), D7)) else (if a1 = a2 then (some ((-1 : Int32), D7)) else (grd (inB a1 5 = true) (if (D7.1 (11, 0, 3, 0) (a1.toNatClampNeg)) = 0 then (some ((-1 : Int32), D7)) else (grd (inB a2 5 = true) (if (D7.1 (11, 0, 3, 0) (a2.toNatClampNeg)) = 0 then (some ((-1 : Int32), D7)) else (vbd (F_X11_keepsAct  D7) (fun D15 => (if (D15.1 (11, 0, 3, 0) (a2.toNatClampNeg)) ≤ (D15.1 (11, 0, 3, 0) (a1.toNatClampNeg)) then (F_X11_fight_b75 a1 a2 a1 a2 (D15.1 (11, 0, 3, 0) (a2.toNatClampNeg)) D15) else (F_X11_fight_b75 a1 a2 a1 a2 (D15.1 (11, 0, 3, 0) (a1.toNatClampNeg)) D15)))))))))))))))
set_option maxRecDepth 100000 in
set_option maxHeartbeats 4000000 in
theorem M_X11_fight {l : Launch} {G : Gt} {A : Nat → Prop} {lv : Nat} {a1 : Int32} {a2 : Int32} {D : Dt} {r : Int32} {D' : Dt} (hG : Gok G A) (hlv : 5 ≤ lv)  (h : F_X11_fight a1 a2 D = some (r, D')) : MD l G A lv yX11_fight cX11_fight 4 (some .int) [.ref (ad G (11, 0, 0, 0)), .int a1, .int a2] D (some (.int r)) D' := by
  unfold F_X11_fight at h
  refine md_start RX11 hG (by decide +kernel) rfl (Nat.le_of_ble_eq_true rfl) (L := [(0, .ref (ad G (11, 0, 0, 0))), (1, .int a1), (2, .int a2)]) rfl (fun X C => ?_)
  refine j_aload_n C 0 dX11_fight_0 rfl rfl ?_
  refine j_iload_n C 1 dX11_fight_1 rfl rfl ?_
  obtain ⟨r2, D3, h1, h⟩ := cbd_x h
  refine j_callV C [.int a1] [] cl_X11_340 (M_X11_isLand (lv := lv - 1) hG (by omega) h1) (by omega) dX11_fight_2 (by decide) ⟨rfl, rfl⟩ rfl rfl (Nat.le_of_ble_eq_true rfl) ?_
  refine j_st (st' := [.int r2]) rfl ?_
  refine j_if_eq C 39 dX11_fight_5 (by decide) (fun c4 => ?_) (fun c4 => ?_)
  · have h := ite_t c4 h
    refine j_iconst C (-1 : Int32) (by decide) dX11_fight_39 ?_
    obtain ⟨rfl, rfl⟩ := pr_x h
    exact j_iret C dX11_fight_40
  · have h := ite_f c4 h
    refine j_aload_n C 0 dX11_fight_8 rfl rfl ?_
    refine j_iload_n C 2 dX11_fight_9 rfl rfl ?_
    obtain ⟨r6, D7, h5, h⟩ := cbd_x h
    refine j_callV C [.int a2] [] cl_X11_340 (M_X11_isLand (lv := lv - 1) hG (by omega) h5) (by omega) dX11_fight_10 (by decide) ⟨rfl, rfl⟩ rfl rfl (Nat.le_of_ble_eq_true rfl) ?_
    refine j_st (st' := [.int r6]) rfl ?_
    refine j_if_eq C 39 dX11_fight_13 (by decide) (fun c8 => ?_) (fun c8 => ?_)
    · have h := ite_t c8 h
      refine j_iconst C (-1 : Int32) (by decide) dX11_fight_39 ?_
      obtain ⟨rfl, rfl⟩ := pr_x h
      exact j_iret C dX11_fight_40
    · have h := ite_f c8 h
      refine j_iload_n C 1 dX11_fight_16 rfl rfl ?_
      refine j_iload_n C 2 dX11_fight_17 rfl rfl ?_
      refine j_icmp_eq C 39 dX11_fight_18 (by decide) (fun c9 => ?_) (fun c9 => ?_)
      · have h := ite_t c9 h
        refine j_iconst C (-1 : Int32) (by decide) dX11_fight_39 ?_
        obtain ⟨rfl, rfl⟩ := pr_x h
        exact j_iret C dX11_fight_40
      · have h := ite_f c9 h
        refine j_aload_n C 0 dX11_fight_21 rfl rfl ?_
        refine j_getS C (11, 0, 3, 0) fl_X11_13 dX11_fight_22 (by decide) ⟨rfl, rfl⟩ rfl rfl ?_
        refine j_iload_n C 1 dX11_fight_25 rfl rfl ?_
        obtain ⟨g10, h⟩ := grd_x h
        refine j_ialdK C 5 (a1.toNatClampNeg) dX11_fight_26 (V_f 2 (by decide) (by decide)) rfl g10 rfl ?_
        refine j_if_eq C 39 dX11_fight_27 (by decide) (fun c11 => ?_) (fun c11 => ?_)
        · have h := ite_t c11 h
          refine j_iconst C (-1 : Int32) (by decide) dX11_fight_39 ?_
          obtain ⟨rfl, rfl⟩ := pr_x h
          exact j_iret C dX11_fight_40
        · have h := ite_f c11 h
          refine j_aload_n C 0 dX11_fight_30 rfl rfl ?_
          refine j_getS C (11, 0, 3, 0) fl_X11_13 dX11_fight_31 (by decide) ⟨rfl, rfl⟩ rfl rfl ?_
          refine j_iload_n C 2 dX11_fight_34 rfl rfl ?_
          obtain ⟨g12, h⟩ := grd_x h
          refine j_ialdK C 5 (a2.toNatClampNeg) dX11_fight_35 (V_f 2 (by decide) (by decide)) rfl g12 rfl ?_
          refine j_if_ne C 41 dX11_fight_36 (by decide) (fun c13 => ?_) (fun c13 => ?_)
          · have h := ite_f c13 h
            refine j_aload_n C 0 dX11_fight_41 rfl rfl ?_
            obtain ⟨D15, h14, h⟩ := vbd_x h
            refine j_callV C [] [] cl_X11_408 (M_X11_keepsAct (lv := lv - 1) hG (by omega) h14) (by omega) dX11_fight_42 (by decide) ⟨rfl, rfl⟩ rfl rfl (Nat.le_of_ble_eq_true rfl) ?_
            refine j_st (st' := []) rfl ?_
            refine j_aload_n C 0 dX11_fight_45 rfl rfl ?_
            refine j_getS C (11, 0, 3, 0) fl_X11_13 dX11_fight_46 (by decide) ⟨rfl, rfl⟩ rfl rfl ?_
            refine j_iload_n C 1 dX11_fight_49 rfl rfl ?_
            refine j_ialdK C 5 (a1.toNatClampNeg) dX11_fight_50 (V_f 2 (by decide) (by decide)) rfl g10 rfl ?_
            refine j_aload_n C 0 dX11_fight_51 rfl rfl ?_
            refine j_getS C (11, 0, 3, 0) fl_X11_13 dX11_fight_52 (by decide) ⟨rfl, rfl⟩ rfl rfl ?_
            refine j_iload_n C 2 dX11_fight_55 rfl rfl ?_
            refine j_ialdK C 5 (a2.toNatClampNeg) dX11_fight_56 (V_f 2 (by decide) (by decide)) rfl g12 rfl ?_
            refine j_icmp_ge C 69 dX11_fight_57 (by decide) (fun c16 => ?_) (fun c16 => ?_)
            · have h := ite_t c16 h
              refine j_aload_n C 0 dX11_fight_69 rfl rfl ?_
              refine j_getS C (11, 0, 3, 0) fl_X11_13 dX11_fight_70 (by decide) ⟨rfl, rfl⟩ rfl rfl ?_
              refine j_iload_n C 2 dX11_fight_73 rfl rfl ?_
              refine j_ialdK C 5 (a2.toNatClampNeg) dX11_fight_74 (V_f 2 (by decide) (by decide)) rfl g12 rfl ?_
              refine T_X11_fight_b75 hG hlv  C  a1 a2 (D15.1 (11, 0, 3, 0) (a2.toNatClampNeg)) D15 h
            · have h := ite_f c16 h
              refine j_aload_n C 0 dX11_fight_60 rfl rfl ?_
              refine j_getS C (11, 0, 3, 0) fl_X11_13 dX11_fight_61 (by decide) ⟨rfl, rfl⟩ rfl rfl ?_
              refine j_iload_n C 1 dX11_fight_64 rfl rfl ?_
              refine j_ialdK C 5 (a1.toNatClampNeg) dX11_fight_65 (V_f 2 (by decide) (by decide)) rfl g10 rfl ?_
              refine j_goto C 75 dX11_fight_66 (by decide) ?_
              refine T_X11_fight_b75 hG hlv  C  a1 a2 (D15.1 (11, 0, 3, 0) (a1.toNatClampNeg)) D15 h
          · have h := ite_t c13 h
            refine j_iconst C (-1 : Int32) (by decide) dX11_fight_39 ?_
            obtain ⟨rfl, rfl⟩ := pr_x h
            exact j_iret C dX11_fight_40
def F_X11_set (a1 : Int32) (D : Dt) : Option (Int32 × Dt) := (cbd (F_X11_isTable  D) (fun r2 D3 => (if r2 = 0 then (some ((-1 : Int32), D3)) else (cbd (F_X11_in a1.toInt64 (1 : Int64) (9 : Int64) D3) (fun r6 D7 => (if r6 = 0 then (some ((-1 : Int32), D7)) else (if (D7.1 (11, 0, 2, 0) 3) = a1 then (some ((-1 : Int32), D7)) else (vbd (F_X11_keepsAct  D7) (fun D11 => (bnd (D11.1 (11, 0, 2, 0) 3) (fun v12 => (bnd (setI D11 (11, 0, 2, 0) 3 a1) (fun D13 => (some (v12, D13)))))))))))))))
set_option maxRecDepth 100000 in
set_option maxHeartbeats 4000000 in
theorem M_X11_set {l : Launch} {G : Gt} {A : Nat → Prop} {lv : Nat} {a1 : Int32} {D : Dt} {r : Int32} {D' : Dt} (hG : Gok G A) (hlv : 5 ≤ lv)  (h : F_X11_set a1 D = some (r, D')) : MD l G A lv yX11_set cX11_set 3 (some .int) [.ref (ad G (11, 0, 0, 0)), .int a1] D (some (.int r)) D' := by
  unfold F_X11_set at h
  refine md_start RX11 hG (by decide +kernel) rfl (Nat.le_of_ble_eq_true rfl) (L := [(0, .ref (ad G (11, 0, 0, 0))), (1, .int a1)]) rfl (fun X C => ?_)
  refine j_aload_n C 0 dX11_set_0 rfl rfl ?_
  obtain ⟨r2, D3, h1, h⟩ := cbd_x h
  refine j_callV C [] [] cl_X11_405 (M_X11_isTable (lv := lv - 1) hG (by omega) h1) (by omega) dX11_set_1 (by decide) ⟨rfl, rfl⟩ rfl rfl (Nat.le_of_ble_eq_true rfl) ?_
  refine j_st (st' := [.int r2]) rfl ?_
  refine j_if_eq C 29 dX11_set_4 (by decide) (fun c4 => ?_) (fun c4 => ?_)
  · have h := ite_t c4 h
    refine j_iconst C (-1 : Int32) (by decide) dX11_set_29 ?_
    obtain ⟨rfl, rfl⟩ := pr_x h
    exact j_iret C dX11_set_30
  · have h := ite_f c4 h
    refine j_iload_n C 1 dX11_set_7 rfl rfl ?_
    refine j_i2l C dX11_set_8 ?_
    refine j_lconst C (1 : Int64) (by decide) dX11_set_9 ?_
    refine j_ldc2 C (9 : Int64) kc_X11_413 dX11_set_10 ?_
    obtain ⟨r6, D7, h5, h⟩ := cbd_x h
    refine j_callS C [.long a1.toInt64, .long (1 : Int64), .long (9 : Int64)] [] cl_X11_134 (M_X11_in (lv := lv - 1) hG (by omega) h5) (by omega) dX11_set_13 rfl rfl (Nat.le_of_ble_eq_true rfl) ?_
    refine j_st (st' := [.int r6]) rfl ?_
    refine j_if_eq C 29 dX11_set_16 (by decide) (fun c8 => ?_) (fun c8 => ?_)
    · have h := ite_t c8 h
      refine j_iconst C (-1 : Int32) (by decide) dX11_set_29 ?_
      obtain ⟨rfl, rfl⟩ := pr_x h
      exact j_iret C dX11_set_30
    · have h := ite_f c8 h
      refine j_aload_n C 0 dX11_set_19 rfl rfl ?_
      refine j_getS C (11, 0, 2, 0) fl_X11_9 dX11_set_20 (by decide) ⟨rfl, rfl⟩ rfl rfl ?_
      refine j_iconst C (3 : Int32) (by decide) dX11_set_23 ?_
      refine j_ialdK C 9 3 dX11_set_24 (V_f 1 (by decide) (by decide)) rfl (by decide) (by decide) ?_
      refine j_iload_n C 1 dX11_set_25 rfl rfl ?_
      refine j_icmp_ne C 31 dX11_set_26 (by decide) (fun c9 => ?_) (fun c9 => ?_)
      · have h := ite_f c9 h
        refine j_aload_n C 0 dX11_set_31 rfl rfl ?_
        obtain ⟨D11, h10, h⟩ := vbd_x h
        refine j_callV C [] [] cl_X11_408 (M_X11_keepsAct (lv := lv - 1) hG (by omega) h10) (by omega) dX11_set_32 (by decide) ⟨rfl, rfl⟩ rfl rfl (Nat.le_of_ble_eq_true rfl) ?_
        refine j_st (st' := []) rfl ?_
        refine j_aload_n C 0 dX11_set_35 rfl rfl ?_
        refine j_getS C (11, 0, 2, 0) fl_X11_9 dX11_set_36 (by decide) ⟨rfl, rfl⟩ rfl rfl ?_
        refine j_iconst C (3 : Int32) (by decide) dX11_set_39 ?_
        refine j_ialdK C 9 3 dX11_set_40 (V_f 1 (by decide) (by decide)) rfl (by decide) (by decide) ?_
        obtain ⟨v12, ev12, h⟩ := bnd_x h
        refine j_istore_n C [(2, .int v12), (0, .ref (ad G (11, 0, 0, 0))), (1, .int a1)] dX11_set_41 rfl (Nat.le_of_ble_eq_true rfl) ev12 rfl ?_
        refine j_aload_n C 1 dX11_set_42 rfl rfl ?_
        refine j_getS C (11, 0, 2, 0) fl_X11_9 dX11_set_43 (by decide) ⟨rfl, rfl⟩ rfl rfl ?_
        refine j_iconst C (3 : Int32) (by decide) dX11_set_46 ?_
        refine j_iload_n C 2 dX11_set_47 rfl rfl ?_
        obtain ⟨D13, eD13, h⟩ := bnd_x h
        refine j_iastK C 9 3 dX11_set_48 (V_f 1 (by decide) (by decide)) rfl (by decide) (by decide) ?_
        refine j_rep eD13 ?_
        refine j_iload_n C 0 dX11_set_49 rfl rfl ?_
        obtain ⟨rfl, rfl⟩ := pr_x h
        exact j_iret C dX11_set_50
      · have h := ite_t c9 h
        refine j_iconst C (-1 : Int32) (by decide) dX11_set_29 ?_
        obtain ⟨rfl, rfl⟩ := pr_x h
        exact j_iret C dX11_set_30
def F_X11_carryRow_b42 (a1 : LA) (k2 : Int32 → Dt → Option Dt) (l2 : Int32) (D : Dt) : Option Dt := (bnd (setI D (11, 0, 0, 0) 56 ((D.1 (11, 0, 0, 0) 56) + (1 : Int32))) (fun D6 => (bnd (l2 + (1 : Int32)) (fun v7 => (k2 v7 D6)))))
set_option maxRecDepth 100000 in
set_option maxHeartbeats 4000000 in
theorem T_X11_carryRow_b42 {D' : Dt} {X : Ctx} {l : Launch} {G : Gt} {A : Nat → Prop} {lv : Nat} {a1 : LA}  {k2 : Int32 → Dt → Option Dt} (hG : Gok G A) (hlv : 1 ≤ lv) (hv1 : V a1 = true ∧ sh a1 = .inr (0, lenOf a1))  (C : Cx X cX11_carryRow RX11 G l A lv 3 none none D') (hk2 : ∀ (l2 : Int32) (D : Dt), k2 l2 D = some D' → J X (Rep G D) 2 [(0, .ref (ad G (11, 0, 0, 0))), (1, .ref (ad G a1)), (2, .int l2)] []) : ∀ (l2 : Int32) (D : Dt), F_X11_carryRow_b42 a1 k2 l2 D = some D' → J X (Rep G D) 42 [(0, .ref (ad G (11, 0, 0, 0))), (1, .ref (ad G a1)), (2, .int l2)] [] := by
  intro l2 D h
  unfold F_X11_carryRow_b42 at h
  refine j_aload_n C 0 dX11_carryRow_42 rfl rfl ?_
  refine j_dup C rfl dX11_carryRow_43 ?_
  refine j_getI C fl_X11_486 dX11_carryRow_44 (by decide) ⟨rfl, rfl⟩ rfl ?_
  refine j_iconst C (1 : Int32) (by decide) dX11_carryRow_47 ?_
  refine j_iadd C dX11_carryRow_48 ?_
  obtain ⟨D6, eD6, h⟩ := bnd_x h
  refine j_putI C fl_X11_486 dX11_carryRow_49 (by decide) ⟨rfl, rfl⟩ rfl rfl rfl ?_
  refine j_rep eD6 ?_
  obtain ⟨v7, ev7, h⟩ := bnd_x h
  refine j_iinc C 2 [(2, .int v7), (0, .ref (ad G (11, 0, 0, 0))), (1, .ref (ad G a1))] dX11_carryRow_52 rfl (Nat.le_of_ble_eq_true rfl) (ev7.trans (congrArg (l2 + ·) (by decide))) rfl ?_
  refine j_goto C 2 dX11_carryRow_55 (by decide) ?_
  refine j_sub [1, 2, 0] [(0, .ref (ad G (11, 0, 0, 0))), (1, .ref (ad G a1)), (2, .int v7)] rfl ?_
  exact hk2 v7 D6 h
def F_X11_carryRow_b2 (a1 : LA)  : Nat → Int32 → Dt → Option Dt
  | 0, _, _ => none
  | f + 1, l2, D => (if (Int32.ofNat (lenOf a1)) ≤ l2 then (some D) else (if (D.1 (11, 0, 0, 0) 57) = 0 then (grd (inB l2 (lenOf a1) = true) (grd (inB (D.1 (11, 0, 0, 0) 56) 5000 = true) (bnd (setI D (11, 0, 55, 0) ((D.1 (11, 0, 0, 0) 56).toNatClampNeg) (D.1 a1 (l2.toNatClampNeg))) (fun D5 => (F_X11_carryRow_b42 a1 (fun l2_8 D9 => (F_X11_carryRow_b2 a1 f l2_8 D9)) l2 D5))))) else (grd (inB (D.1 (11, 0, 0, 0) 56) 5000 = true) (grd (inB l2 (lenOf a1) = true) (bnd (setI D a1 (l2.toNatClampNeg) (D.1 (11, 0, 55, 0) ((D.1 (11, 0, 0, 0) 56).toNatClampNeg))) (fun D12 => (F_X11_carryRow_b42 a1 (fun l2_13 D14 => (F_X11_carryRow_b2 a1 f l2_13 D14)) l2 D12)))))))
set_option maxRecDepth 100000 in
set_option maxHeartbeats 4000000 in
theorem T_X11_carryRow_b2 {D' : Dt} {X : Ctx} {l : Launch} {G : Gt} {A : Nat → Prop} {lv : Nat} {a1 : LA}   (hG : Gok G A) (hlv : 1 ≤ lv) (hv1 : V a1 = true ∧ sh a1 = .inr (0, lenOf a1))  (C : Cx X cX11_carryRow RX11 G l A lv 3 none none D')  : ∀ (f : Nat) (l2 : Int32) (D : Dt), F_X11_carryRow_b2 a1 f l2 D = some D' → J X (Rep G D) 2 [(0, .ref (ad G (11, 0, 0, 0))), (1, .ref (ad G a1)), (2, .int l2)] [] := by
  intro f
  induction f with
  | zero =>
    intro l2 D h
    exact nomatch h
  | succ f ih =>
    intro l2 D h
    rw [F_X11_carryRow_b2] at h
    refine j_iload_n C 2 dX11_carryRow_2 rfl rfl ?_
    refine j_aload_n C 1 dX11_carryRow_3 rfl rfl ?_
    refine j_alen C (Int32.ofNat (lenOf a1)) dX11_carryRow_4 hv1.1 hv1.2 (by decide) rfl ?_
    refine j_icmp_ge C 58 dX11_carryRow_5 (by decide) (fun c1 => ?_) (fun c1 => ?_)
    · have h := ite_t c1 h
      obtain rfl := Option.some.inj h
      exact j_vret C dX11_carryRow_58
    · have h := ite_f c1 h
      refine j_aload_n C 0 dX11_carryRow_8 rfl rfl ?_
      refine j_getI C fl_X11_483 dX11_carryRow_9 (by decide) ⟨rfl, rfl⟩ rfl ?_
      refine j_if_eq C 30 dX11_carryRow_12 (by decide) (fun c2 => ?_) (fun c2 => ?_)
      · have h := ite_t c2 h
        refine j_aload_n C 0 dX11_carryRow_30 rfl rfl ?_
        refine j_getS C (11, 0, 55, 0) fl_X11_124 dX11_carryRow_31 (by decide) ⟨rfl, rfl⟩ rfl rfl ?_
        refine j_aload_n C 0 dX11_carryRow_34 rfl rfl ?_
        refine j_getI C fl_X11_486 dX11_carryRow_35 (by decide) ⟨rfl, rfl⟩ rfl ?_
        refine j_aload_n C 1 dX11_carryRow_38 rfl rfl ?_
        refine j_iload_n C 2 dX11_carryRow_39 rfl rfl ?_
        obtain ⟨g3, h⟩ := grd_x h
        refine j_ialdK C (lenOf a1) (l2.toNatClampNeg) dX11_carryRow_40 hv1.1 hv1.2 g3 rfl ?_
        obtain ⟨g4, h⟩ := grd_x h
        obtain ⟨D5, eD5, h⟩ := bnd_x h
        refine j_iastK C 5000 ((D.1 (11, 0, 0, 0) 56).toNatClampNeg) dX11_carryRow_41 (V_f 54 (by decide) (by decide)) rfl g4 rfl ?_
        refine j_rep eD5 ?_
        refine T_X11_carryRow_b42 hG hlv hv1 C (fun l2_8 D9 h => ?_) l2 D5 h
        · exact ih l2_8 D9 h
      · have h := ite_f c2 h
        refine j_aload_n C 1 dX11_carryRow_15 rfl rfl ?_
        refine j_iload_n C 2 dX11_carryRow_16 rfl rfl ?_
        refine j_aload_n C 0 dX11_carryRow_17 rfl rfl ?_
        refine j_getS C (11, 0, 55, 0) fl_X11_124 dX11_carryRow_18 (by decide) ⟨rfl, rfl⟩ rfl rfl ?_
        refine j_aload_n C 0 dX11_carryRow_21 rfl rfl ?_
        refine j_getI C fl_X11_486 dX11_carryRow_22 (by decide) ⟨rfl, rfl⟩ rfl ?_
        obtain ⟨g10, h⟩ := grd_x h
        refine j_ialdK C 5000 ((D.1 (11, 0, 0, 0) 56).toNatClampNeg) dX11_carryRow_25 (V_f 54 (by decide) (by decide)) rfl g10 rfl ?_
        obtain ⟨g11, h⟩ := grd_x h
        obtain ⟨D12, eD12, h⟩ := bnd_x h
        refine j_iastK C (lenOf a1) (l2.toNatClampNeg) dX11_carryRow_26 hv1.1 hv1.2 g11 rfl ?_
        refine j_rep eD12 ?_
        refine j_goto C 42 dX11_carryRow_27 (by decide) ?_
        refine T_X11_carryRow_b42 hG hlv hv1 C (fun l2_13 D14 h => ?_) l2 D12 h
        · exact ih l2_13 D14 h
def F_X11_carryRow (a1 : LA) (D : Dt) : Option Dt := (grd (V a1 = true ∧ sh a1 = .inr (0, lenOf a1)) (F_X11_carryRow_b2 a1 2000 (0 : Int32) D))
set_option maxRecDepth 100000 in
set_option maxHeartbeats 4000000 in
theorem M_X11_carryRow {l : Launch} {G : Gt} {A : Nat → Prop} {lv : Nat} {a1 : LA} {D : Dt} {D' : Dt} (hG : Gok G A) (hlv : 1 ≤ lv)  (h : F_X11_carryRow a1 D = some D') : MD l G A lv yX11_carryRow cX11_carryRow 3 none [.ref (ad G (11, 0, 0, 0)), .ref (ad G a1)] D none D' := by
  unfold F_X11_carryRow at h
  obtain ⟨hv1, h⟩ := grd_x h
  refine md_start RX11 hG (by decide +kernel) rfl (Nat.le_of_ble_eq_true rfl) (L := [(0, .ref (ad G (11, 0, 0, 0))), (1, .ref (ad G a1))]) rfl (fun X C => ?_)
  refine j_iconst C (0 : Int32) (by decide) dX11_carryRow_0 ?_
  refine j_istore_n C [(2, .int (0 : Int32)), (0, .ref (ad G (11, 0, 0, 0))), (1, .ref (ad G a1))] dX11_carryRow_1 rfl (Nat.le_of_ble_eq_true rfl) rfl rfl ?_
  refine j_sub [1, 2, 0] [(0, .ref (ad G (11, 0, 0, 0))), (1, .ref (ad G a1)), (2, .int (0 : Int32))] rfl ?_
  refine T_X11_carryRow_b2 hG hlv hv1 C  2000 (0 : Int32) D h
def F_X11_carriesAll (a1 : Int32) (a2 : Int32) (D : Dt) : Option Dt := (bnd (setI D (11, 0, 0, 0) 56 ((1000 : Int32) * a1)) (fun D1 => (grd (a2 = 0 ∨ a2 = 1) (bnd (setI D1 (11, 0, 0, 0) 57 a2) (fun D3 => (vbd (F_X11_carryRow (11, 0, 2, 0) D3) (fun D5 => (vbd (F_X11_carryRow (11, 0, 3, 0) D5) (fun D7 => (vbd (F_X11_carryRow (11, 0, 4, 0) D7) (fun D9 => (vbd (F_X11_carryRow (11, 0, 5, 0) D9) (fun D11 => (vbd (F_X11_carryRow (11, 0, 6, 0) D11) (fun D13 => (vbd (F_X11_carryRow (11, 0, 7, 0) D13) (fun D15 => (if a1 = (4 : Int32) then (some D15) else (bnd (setI D15 (11, 0, 46, 0) 0 (D15.1 (11, 0, 0, 0) 46)) (fun D17 => (vbd (F_X11_carryRow (11, 0, 46, 0) D17) (fun D19 => (bnd (setI D19 (11, 0, 0, 0) 46 (D19.1 (11, 0, 46, 0) 0)) (fun D20 => (vbd (F_X11_carryRow (11, 0, 8, 0) D20) (fun D22 => (vbd (F_X11_carryRow (11, 0, 9, 0) D22) (fun D24 => (vbd (F_X11_carryRow (11, 0, 10, 0) D24) (fun D26 => (vbd (F_X11_carryRow (11, 0, 11, 0) D26) (fun D28 => (vbd (F_X11_carryRow (11, 0, 12, 0) D28) (fun D30 => (vbd (F_X11_carryRow (11, 0, 13, 0) D30) (fun D32 => (vbd (F_X11_carryRow (11, 0, 14, 0) D32) (fun D34 => (vbd (F_X11_carryRow (11, 0, 45, 0) D34) (fun D36 => (some D36)))))))))))))))))))))))))))))))))))))))))
set_option maxRecDepth 100000 in
set_option maxHeartbeats 4000000 in
theorem M_X11_carriesAll {l : Launch} {G : Gt} {A : Nat → Prop} {lv : Nat} {a1 : Int32} {a2 : Int32} {D : Dt} {D' : Dt} (hG : Gok G A) (hlv : 2 ≤ lv)  (h : F_X11_carriesAll a1 a2 D = some D') : MD l G A lv yX11_carriesAll cX11_carriesAll 3 none [.ref (ad G (11, 0, 0, 0)), .int a1, .int a2] D none D' := by
  unfold F_X11_carriesAll at h
  refine md_start RX11 hG (by decide +kernel) rfl (Nat.le_of_ble_eq_true rfl) (L := [(0, .ref (ad G (11, 0, 0, 0))), (1, .int a1), (2, .int a2)]) rfl (fun X C => ?_)
  refine j_aload_n C 0 dX11_carriesAll_0 rfl rfl ?_
  refine j_sipush C (1000 : Int32) (by decide) dX11_carriesAll_1 ?_
  refine j_iload_n C 1 dX11_carriesAll_4 rfl rfl ?_
  refine j_imul C dX11_carriesAll_5 ?_
  obtain ⟨D1, eD1, h⟩ := bnd_x h
  refine j_putI C fl_X11_486 dX11_carriesAll_6 (by decide) ⟨rfl, rfl⟩ rfl rfl rfl ?_
  refine j_rep eD1 ?_
  refine j_aload_n C 0 dX11_carriesAll_9 rfl rfl ?_
  refine j_iload_n C 2 dX11_carriesAll_10 rfl rfl ?_
  obtain ⟨g2, h⟩ := grd_x h
  obtain ⟨D3, eD3, h⟩ := bnd_x h
  refine j_putZ C fl_X11_483 dX11_carriesAll_11 (by decide) ⟨rfl, rfl⟩ rfl rfl rfl g2 ?_
  refine j_rep eD3 ?_
  refine j_aload_n C 0 dX11_carriesAll_14 rfl rfl ?_
  refine j_aload_n C 0 dX11_carriesAll_15 rfl rfl ?_
  refine j_getS C (11, 0, 2, 0) fl_X11_9 dX11_carriesAll_16 (by decide) ⟨rfl, rfl⟩ rfl rfl ?_
  obtain ⟨D5, h4, h⟩ := vbd_x h
  refine j_callV C [.ref (ad G (11, 0, 2, 0))] [] cl_X11_489 (M_X11_carryRow (lv := lv - 1) hG (by omega) h4) (by omega) dX11_carriesAll_19 (by decide) ⟨rfl, rfl⟩ rfl rfl (Nat.le_of_ble_eq_true rfl) ?_
  refine j_st (st' := []) rfl ?_
  refine j_aload_n C 0 dX11_carriesAll_22 rfl rfl ?_
  refine j_aload_n C 0 dX11_carriesAll_23 rfl rfl ?_
  refine j_getS C (11, 0, 3, 0) fl_X11_13 dX11_carriesAll_24 (by decide) ⟨rfl, rfl⟩ rfl rfl ?_
  obtain ⟨D7, h6, h⟩ := vbd_x h
  refine j_callV C [.ref (ad G (11, 0, 3, 0))] [] cl_X11_489 (M_X11_carryRow (lv := lv - 1) hG (by omega) h6) (by omega) dX11_carriesAll_27 (by decide) ⟨rfl, rfl⟩ rfl rfl (Nat.le_of_ble_eq_true rfl) ?_
  refine j_st (st' := []) rfl ?_
  refine j_aload_n C 0 dX11_carriesAll_30 rfl rfl ?_
  refine j_aload_n C 0 dX11_carriesAll_31 rfl rfl ?_
  refine j_getS C (11, 0, 4, 0) fl_X11_16 dX11_carriesAll_32 (by decide) ⟨rfl, rfl⟩ rfl rfl ?_
  obtain ⟨D9, h8, h⟩ := vbd_x h
  refine j_callV C [.ref (ad G (11, 0, 4, 0))] [] cl_X11_489 (M_X11_carryRow (lv := lv - 1) hG (by omega) h8) (by omega) dX11_carriesAll_35 (by decide) ⟨rfl, rfl⟩ rfl rfl (Nat.le_of_ble_eq_true rfl) ?_
  refine j_st (st' := []) rfl ?_
  refine j_aload_n C 0 dX11_carriesAll_38 rfl rfl ?_
  refine j_aload_n C 0 dX11_carriesAll_39 rfl rfl ?_
  refine j_getS C (11, 0, 5, 0) fl_X11_19 dX11_carriesAll_40 (by decide) ⟨rfl, rfl⟩ rfl rfl ?_
  obtain ⟨D11, h10, h⟩ := vbd_x h
  refine j_callV C [.ref (ad G (11, 0, 5, 0))] [] cl_X11_489 (M_X11_carryRow (lv := lv - 1) hG (by omega) h10) (by omega) dX11_carriesAll_43 (by decide) ⟨rfl, rfl⟩ rfl rfl (Nat.le_of_ble_eq_true rfl) ?_
  refine j_st (st' := []) rfl ?_
  refine j_aload_n C 0 dX11_carriesAll_46 rfl rfl ?_
  refine j_aload_n C 0 dX11_carriesAll_47 rfl rfl ?_
  refine j_getS C (11, 0, 6, 0) fl_X11_22 dX11_carriesAll_48 (by decide) ⟨rfl, rfl⟩ rfl rfl ?_
  obtain ⟨D13, h12, h⟩ := vbd_x h
  refine j_callV C [.ref (ad G (11, 0, 6, 0))] [] cl_X11_489 (M_X11_carryRow (lv := lv - 1) hG (by omega) h12) (by omega) dX11_carriesAll_51 (by decide) ⟨rfl, rfl⟩ rfl rfl (Nat.le_of_ble_eq_true rfl) ?_
  refine j_st (st' := []) rfl ?_
  refine j_aload_n C 0 dX11_carriesAll_54 rfl rfl ?_
  refine j_aload_n C 0 dX11_carriesAll_55 rfl rfl ?_
  refine j_getS C (11, 0, 7, 0) fl_X11_25 dX11_carriesAll_56 (by decide) ⟨rfl, rfl⟩ rfl rfl ?_
  obtain ⟨D15, h14, h⟩ := vbd_x h
  refine j_callV C [.ref (ad G (11, 0, 7, 0))] [] cl_X11_489 (M_X11_carryRow (lv := lv - 1) hG (by omega) h14) (by omega) dX11_carriesAll_59 (by decide) ⟨rfl, rfl⟩ rfl rfl (Nat.le_of_ble_eq_true rfl) ?_
  refine j_st (st' := []) rfl ?_
  refine j_iload_n C 1 dX11_carriesAll_62 rfl rfl ?_
  refine j_iconst C (4 : Int32) (by decide) dX11_carriesAll_63 ?_
  refine j_icmp_ne C 68 dX11_carriesAll_64 (by decide) (fun c16 => ?_) (fun c16 => ?_)
  · have h := ite_f c16 h
    refine j_aload_n C 0 dX11_carriesAll_68 rfl rfl ?_
    refine j_getS C (11, 0, 46, 0) fl_X11_106 dX11_carriesAll_69 (by decide) ⟨rfl, rfl⟩ rfl rfl ?_
    refine j_iconst C (0 : Int32) (by decide) dX11_carriesAll_72 ?_
    refine j_aload_n C 0 dX11_carriesAll_73 rfl rfl ?_
    refine j_getI C fl_X11_298 dX11_carriesAll_74 (by decide) ⟨rfl, rfl⟩ rfl ?_
    obtain ⟨D17, eD17, h⟩ := bnd_x h
    refine j_iastK C 1 0 dX11_carriesAll_77 (V_f 45 (by decide) (by decide)) rfl (by decide) (by decide) ?_
    refine j_rep eD17 ?_
    refine j_aload_n C 0 dX11_carriesAll_78 rfl rfl ?_
    refine j_aload_n C 0 dX11_carriesAll_79 rfl rfl ?_
    refine j_getS C (11, 0, 46, 0) fl_X11_106 dX11_carriesAll_80 (by decide) ⟨rfl, rfl⟩ rfl rfl ?_
    obtain ⟨D19, h18, h⟩ := vbd_x h
    refine j_callV C [.ref (ad G (11, 0, 46, 0))] [] cl_X11_489 (M_X11_carryRow (lv := lv - 1) hG (by omega) h18) (by omega) dX11_carriesAll_83 (by decide) ⟨rfl, rfl⟩ rfl rfl (Nat.le_of_ble_eq_true rfl) ?_
    refine j_st (st' := []) rfl ?_
    refine j_aload_n C 0 dX11_carriesAll_86 rfl rfl ?_
    refine j_aload_n C 0 dX11_carriesAll_87 rfl rfl ?_
    refine j_getS C (11, 0, 46, 0) fl_X11_106 dX11_carriesAll_88 (by decide) ⟨rfl, rfl⟩ rfl rfl ?_
    refine j_iconst C (0 : Int32) (by decide) dX11_carriesAll_91 ?_
    refine j_ialdK C 1 0 dX11_carriesAll_92 (V_f 45 (by decide) (by decide)) rfl (by decide) (by decide) ?_
    obtain ⟨D20, eD20, h⟩ := bnd_x h
    refine j_putI C fl_X11_298 dX11_carriesAll_93 (by decide) ⟨rfl, rfl⟩ rfl rfl rfl ?_
    refine j_rep eD20 ?_
    refine j_aload_n C 0 dX11_carriesAll_96 rfl rfl ?_
    refine j_aload_n C 0 dX11_carriesAll_97 rfl rfl ?_
    refine j_getS C (11, 0, 8, 0) fl_X11_28 dX11_carriesAll_98 (by decide) ⟨rfl, rfl⟩ rfl rfl ?_
    obtain ⟨D22, h21, h⟩ := vbd_x h
    refine j_callV C [.ref (ad G (11, 0, 8, 0))] [] cl_X11_489 (M_X11_carryRow (lv := lv - 1) hG (by omega) h21) (by omega) dX11_carriesAll_101 (by decide) ⟨rfl, rfl⟩ rfl rfl (Nat.le_of_ble_eq_true rfl) ?_
    refine j_st (st' := []) rfl ?_
    refine j_aload_n C 0 dX11_carriesAll_104 rfl rfl ?_
    refine j_aload_n C 0 dX11_carriesAll_105 rfl rfl ?_
    refine j_getS C (11, 0, 9, 0) fl_X11_31 dX11_carriesAll_106 (by decide) ⟨rfl, rfl⟩ rfl rfl ?_
    obtain ⟨D24, h23, h⟩ := vbd_x h
    refine j_callV C [.ref (ad G (11, 0, 9, 0))] [] cl_X11_489 (M_X11_carryRow (lv := lv - 1) hG (by omega) h23) (by omega) dX11_carriesAll_109 (by decide) ⟨rfl, rfl⟩ rfl rfl (Nat.le_of_ble_eq_true rfl) ?_
    refine j_st (st' := []) rfl ?_
    refine j_aload_n C 0 dX11_carriesAll_112 rfl rfl ?_
    refine j_aload_n C 0 dX11_carriesAll_113 rfl rfl ?_
    refine j_getS C (11, 0, 10, 0) fl_X11_34 dX11_carriesAll_114 (by decide) ⟨rfl, rfl⟩ rfl rfl ?_
    obtain ⟨D26, h25, h⟩ := vbd_x h
    refine j_callV C [.ref (ad G (11, 0, 10, 0))] [] cl_X11_489 (M_X11_carryRow (lv := lv - 1) hG (by omega) h25) (by omega) dX11_carriesAll_117 (by decide) ⟨rfl, rfl⟩ rfl rfl (Nat.le_of_ble_eq_true rfl) ?_
    refine j_st (st' := []) rfl ?_
    refine j_aload_n C 0 dX11_carriesAll_120 rfl rfl ?_
    refine j_aload_n C 0 dX11_carriesAll_121 rfl rfl ?_
    refine j_getS C (11, 0, 11, 0) fl_X11_37 dX11_carriesAll_122 (by decide) ⟨rfl, rfl⟩ rfl rfl ?_
    obtain ⟨D28, h27, h⟩ := vbd_x h
    refine j_callV C [.ref (ad G (11, 0, 11, 0))] [] cl_X11_489 (M_X11_carryRow (lv := lv - 1) hG (by omega) h27) (by omega) dX11_carriesAll_125 (by decide) ⟨rfl, rfl⟩ rfl rfl (Nat.le_of_ble_eq_true rfl) ?_
    refine j_st (st' := []) rfl ?_
    refine j_aload_n C 0 dX11_carriesAll_128 rfl rfl ?_
    refine j_aload_n C 0 dX11_carriesAll_129 rfl rfl ?_
    refine j_getS C (11, 0, 12, 0) fl_X11_40 dX11_carriesAll_130 (by decide) ⟨rfl, rfl⟩ rfl rfl ?_
    obtain ⟨D30, h29, h⟩ := vbd_x h
    refine j_callV C [.ref (ad G (11, 0, 12, 0))] [] cl_X11_489 (M_X11_carryRow (lv := lv - 1) hG (by omega) h29) (by omega) dX11_carriesAll_133 (by decide) ⟨rfl, rfl⟩ rfl rfl (Nat.le_of_ble_eq_true rfl) ?_
    refine j_st (st' := []) rfl ?_
    refine j_aload_n C 0 dX11_carriesAll_136 rfl rfl ?_
    refine j_aload_n C 0 dX11_carriesAll_137 rfl rfl ?_
    refine j_getS C (11, 0, 13, 0) fl_X11_43 dX11_carriesAll_138 (by decide) ⟨rfl, rfl⟩ rfl rfl ?_
    obtain ⟨D32, h31, h⟩ := vbd_x h
    refine j_callV C [.ref (ad G (11, 0, 13, 0))] [] cl_X11_489 (M_X11_carryRow (lv := lv - 1) hG (by omega) h31) (by omega) dX11_carriesAll_141 (by decide) ⟨rfl, rfl⟩ rfl rfl (Nat.le_of_ble_eq_true rfl) ?_
    refine j_st (st' := []) rfl ?_
    refine j_aload_n C 0 dX11_carriesAll_144 rfl rfl ?_
    refine j_aload_n C 0 dX11_carriesAll_145 rfl rfl ?_
    refine j_getS C (11, 0, 14, 0) fl_X11_46 dX11_carriesAll_146 (by decide) ⟨rfl, rfl⟩ rfl rfl ?_
    obtain ⟨D34, h33, h⟩ := vbd_x h
    refine j_callV C [.ref (ad G (11, 0, 14, 0))] [] cl_X11_489 (M_X11_carryRow (lv := lv - 1) hG (by omega) h33) (by omega) dX11_carriesAll_149 (by decide) ⟨rfl, rfl⟩ rfl rfl (Nat.le_of_ble_eq_true rfl) ?_
    refine j_st (st' := []) rfl ?_
    refine j_aload_n C 0 dX11_carriesAll_152 rfl rfl ?_
    refine j_aload_n C 0 dX11_carriesAll_153 rfl rfl ?_
    refine j_getS C (11, 0, 45, 0) fl_X11_103 dX11_carriesAll_154 (by decide) ⟨rfl, rfl⟩ rfl rfl ?_
    obtain ⟨D36, h35, h⟩ := vbd_x h
    refine j_callV C [.ref (ad G (11, 0, 45, 0))] [] cl_X11_489 (M_X11_carryRow (lv := lv - 1) hG (by omega) h35) (by omega) dX11_carriesAll_157 (by decide) ⟨rfl, rfl⟩ rfl rfl (Nat.le_of_ble_eq_true rfl) ?_
    refine j_st (st' := []) rfl ?_
    obtain rfl := Option.some.inj h
    exact j_vret C dX11_carriesAll_160
  · have h := ite_t c16 h
    obtain rfl := Option.some.inj h
    exact j_vret C dX11_carriesAll_67
def F_X11_keepsAll  (D : Dt) : Option Dt := (vbd (F_X11_carriesAll (4 : Int32) (0 : Int32) D) (fun D2 => (some D2)))
set_option maxRecDepth 100000 in
set_option maxHeartbeats 4000000 in
theorem M_X11_keepsAll {l : Launch} {G : Gt} {A : Nat → Prop} {lv : Nat}  {D : Dt} {D' : Dt} (hG : Gok G A) (hlv : 3 ≤ lv)  (h : F_X11_keepsAll  D = some D') : MD l G A lv yX11_keepsAll cX11_keepsAll 1 none [.ref (ad G (11, 0, 0, 0))] D none D' := by
  unfold F_X11_keepsAll at h
  refine md_start RX11 hG (by decide +kernel) rfl (Nat.le_of_ble_eq_true rfl) (L := [(0, .ref (ad G (11, 0, 0, 0)))]) rfl (fun X C => ?_)
  refine j_aload_n C 0 dX11_keepsAll_0 rfl rfl ?_
  refine j_iconst C (4 : Int32) (by decide) dX11_keepsAll_1 ?_
  refine j_iconst C (0 : Int32) (by decide) dX11_keepsAll_2 ?_
  obtain ⟨D2, h1, h⟩ := vbd_x h
  refine j_callV C [.int (4 : Int32), .int (0 : Int32)] [] cl_X11_415 (M_X11_carriesAll (lv := lv - 1) hG (by omega) h1) (by omega) dX11_keepsAll_3 (by decide) ⟨rfl, rfl⟩ rfl rfl (Nat.le_of_ble_eq_true rfl) ?_
  refine j_st (st' := []) rfl ?_
  obtain rfl := Option.some.inj h
  exact j_vret C dX11_keepsAll_6
def F_X11_laysBack  (D : Dt) : Option Dt := (vbd (F_X11_carriesAll (4 : Int32) (1 : Int32) D) (fun D2 => (some D2)))
set_option maxRecDepth 100000 in
set_option maxHeartbeats 4000000 in
theorem M_X11_laysBack {l : Launch} {G : Gt} {A : Nat → Prop} {lv : Nat}  {D : Dt} {D' : Dt} (hG : Gok G A) (hlv : 3 ≤ lv)  (h : F_X11_laysBack  D = some D') : MD l G A lv yX11_laysBack cX11_laysBack 1 none [.ref (ad G (11, 0, 0, 0))] D none D' := by
  unfold F_X11_laysBack at h
  refine md_start RX11 hG (by decide +kernel) rfl (Nat.le_of_ble_eq_true rfl) (L := [(0, .ref (ad G (11, 0, 0, 0)))]) rfl (fun X C => ?_)
  refine j_aload_n C 0 dX11_laysBack_0 rfl rfl ?_
  refine j_iconst C (4 : Int32) (by decide) dX11_laysBack_1 ?_
  refine j_iconst C (1 : Int32) (by decide) dX11_laysBack_2 ?_
  obtain ⟨D2, h1, h⟩ := vbd_x h
  refine j_callV C [.int (4 : Int32), .int (1 : Int32)] [] cl_X11_415 (M_X11_carriesAll (lv := lv - 1) hG (by omega) h1) (by omega) dX11_laysBack_3 (by decide) ⟨rfl, rfl⟩ rfl rfl (Nat.le_of_ble_eq_true rfl) ?_
  refine j_st (st' := []) rfl ?_
  obtain rfl := Option.some.inj h
  exact j_vret C dX11_laysBack_6
def F_X11_allOf_b4 (a1 : LA)  : Nat → Int32 → Int32 → Dt → Option (Int32 × Dt)
  | 0, _, _, _ => none
  | f + 1, l2, l3, D => (if (D.1 (11, 0, 2, 0) 2) ≤ l3 then (some (l2, D)) else (grd (inB l3 (lenOf a1) = true) (bnd (l2 + (D.1 a1 (l3.toNatClampNeg))) (fun v3 => (bnd (l3 + (1 : Int32)) (fun v4 => (F_X11_allOf_b4 a1 f v3 v4 D)))))))
set_option maxRecDepth 100000 in
set_option maxHeartbeats 4000000 in
theorem T_X11_allOf_b4 {r : Int32} {D' : Dt} {X : Ctx} {l : Launch} {G : Gt} {A : Nat → Prop} {lv : Nat} {a1 : LA}   (hG : Gok G A) (hlv : 1 ≤ lv) (hv1 : V a1 = true ∧ sh a1 = .inr (0, lenOf a1))  (C : Cx X cX11_allOf RX11 G l A lv 4 (some .int) (some (.int r)) D')  : ∀ (f : Nat) (l2 : Int32) (l3 : Int32) (D : Dt), F_X11_allOf_b4 a1 f l2 l3 D = some (r, D') → J X (Rep G D) 4 [(0, .ref (ad G (11, 0, 0, 0))), (1, .ref (ad G a1)), (2, .int l2), (3, .int l3)] [] := by
  intro f
  induction f with
  | zero =>
    intro l2 l3 D h
    exact nomatch h
  | succ f ih =>
    intro l2 l3 D h
    rw [F_X11_allOf_b4] at h
    refine j_iload_n C 3 dX11_allOf_4 rfl rfl ?_
    refine j_aload_n C 0 dX11_allOf_5 rfl rfl ?_
    refine j_getS C (11, 0, 2, 0) fl_X11_9 dX11_allOf_6 (by decide) ⟨rfl, rfl⟩ rfl rfl ?_
    refine j_iconst C (2 : Int32) (by decide) dX11_allOf_9 ?_
    refine j_ialdK C 9 2 dX11_allOf_10 (V_f 1 (by decide) (by decide)) rfl (by decide) (by decide) ?_
    refine j_icmp_ge C 26 dX11_allOf_11 (by decide) (fun c1 => ?_) (fun c1 => ?_)
    · have h := ite_t c1 h
      refine j_iload_n C 2 dX11_allOf_26 rfl rfl ?_
      obtain ⟨rfl, rfl⟩ := pr_x h
      exact j_iret C dX11_allOf_27
    · have h := ite_f c1 h
      refine j_iload_n C 2 dX11_allOf_14 rfl rfl ?_
      refine j_aload_n C 1 dX11_allOf_15 rfl rfl ?_
      refine j_iload_n C 3 dX11_allOf_16 rfl rfl ?_
      obtain ⟨g2, h⟩ := grd_x h
      refine j_ialdK C (lenOf a1) (l3.toNatClampNeg) dX11_allOf_17 hv1.1 hv1.2 g2 rfl ?_
      refine j_iadd C dX11_allOf_18 ?_
      obtain ⟨v3, ev3, h⟩ := bnd_x h
      refine j_istore_n C [(2, .int v3), (0, .ref (ad G (11, 0, 0, 0))), (1, .ref (ad G a1)), (3, .int l3)] dX11_allOf_19 rfl (Nat.le_of_ble_eq_true rfl) ev3 rfl ?_
      obtain ⟨v4, ev4, h⟩ := bnd_x h
      refine j_iinc C 3 [(3, .int v4), (2, .int v3), (0, .ref (ad G (11, 0, 0, 0))), (1, .ref (ad G a1))] dX11_allOf_20 rfl (Nat.le_of_ble_eq_true rfl) (ev4.trans (congrArg (l3 + ·) (by decide))) rfl ?_
      refine j_goto C 4 dX11_allOf_23 (by decide) ?_
      refine j_sub [2, 3, 1, 0] [(0, .ref (ad G (11, 0, 0, 0))), (1, .ref (ad G a1)), (2, .int v3), (3, .int v4)] rfl ?_
      exact ih v3 v4 D h
def F_X11_allOf (a1 : LA) (D : Dt) : Option (Int32 × Dt) := (grd (V a1 = true ∧ sh a1 = .inr (0, lenOf a1)) (F_X11_allOf_b4 a1 2000 (0 : Int32) (0 : Int32) D))
set_option maxRecDepth 100000 in
set_option maxHeartbeats 4000000 in
theorem M_X11_allOf {l : Launch} {G : Gt} {A : Nat → Prop} {lv : Nat} {a1 : LA} {D : Dt} {r : Int32} {D' : Dt} (hG : Gok G A) (hlv : 1 ≤ lv)  (h : F_X11_allOf a1 D = some (r, D')) : MD l G A lv yX11_allOf cX11_allOf 4 (some .int) [.ref (ad G (11, 0, 0, 0)), .ref (ad G a1)] D (some (.int r)) D' := by
  unfold F_X11_allOf at h
  obtain ⟨hv1, h⟩ := grd_x h
  refine md_start RX11 hG (by decide +kernel) rfl (Nat.le_of_ble_eq_true rfl) (L := [(0, .ref (ad G (11, 0, 0, 0))), (1, .ref (ad G a1))]) rfl (fun X C => ?_)
  refine j_iconst C (0 : Int32) (by decide) dX11_allOf_0 ?_
  refine j_istore_n C [(2, .int (0 : Int32)), (0, .ref (ad G (11, 0, 0, 0))), (1, .ref (ad G a1))] dX11_allOf_1 rfl (Nat.le_of_ble_eq_true rfl) rfl rfl ?_
  refine j_iconst C (0 : Int32) (by decide) dX11_allOf_2 ?_
  refine j_istore_n C [(3, .int (0 : Int32)), (2, .int (0 : Int32)), (0, .ref (ad G (11, 0, 0, 0))), (1, .ref (ad G a1))] dX11_allOf_3 rfl (Nat.le_of_ble_eq_true rfl) rfl rfl ?_
  refine j_sub [2, 3, 1, 0] [(0, .ref (ad G (11, 0, 0, 0))), (1, .ref (ad G a1)), (2, .int (0 : Int32)), (3, .int (0 : Int32))] rfl ?_
  refine T_X11_allOf_b4 hG hlv hv1 C  2000 (0 : Int32) (0 : Int32) D h
def F_X11_barnsIn (a1 : Int32) (D : Dt) : Option (Int32 × Dt) := (vbd (F_X11_goFor a1 D) (fun D2 => (cbd (F_X11_allOf (11, 0, 6, 0) D2) (fun r4 D5 => (vbd (F_X11_laysBack  D5) (fun D7 => (some (r4, D7))))))))
set_option maxRecDepth 100000 in
set_option maxHeartbeats 4000000 in
theorem M_X11_barnsIn {l : Launch} {G : Gt} {A : Nat → Prop} {lv : Nat} {a1 : Int32} {D : Dt} {r : Int32} {D' : Dt} (hG : Gok G A) (hlv : 10 ≤ lv)  (h : F_X11_barnsIn a1 D = some (r, D')) : MD l G A lv yX11_barnsIn cX11_barnsIn 3 (some .int) [.ref (ad G (11, 0, 0, 0)), .int a1] D (some (.int r)) D' := by
  unfold F_X11_barnsIn at h
  refine md_start RX11 hG (by decide +kernel) rfl (Nat.le_of_ble_eq_true rfl) (L := [(0, .ref (ad G (11, 0, 0, 0))), (1, .int a1)]) rfl (fun X C => ?_)
  refine j_aload_n C 0 dX11_barnsIn_0 rfl rfl ?_
  refine j_iload_n C 1 dX11_barnsIn_1 rfl rfl ?_
  obtain ⟨D2, h1, h⟩ := vbd_x h
  refine j_callV C [.int a1] [] cl_X11_418 (M_X11_goFor (lv := lv - 1) hG (by omega) h1) (by omega) dX11_barnsIn_2 (by decide) ⟨rfl, rfl⟩ rfl rfl (Nat.le_of_ble_eq_true rfl) ?_
  refine j_st (st' := []) rfl ?_
  refine j_aload_n C 0 dX11_barnsIn_5 rfl rfl ?_
  refine j_aload_n C 0 dX11_barnsIn_6 rfl rfl ?_
  refine j_getS C (11, 0, 6, 0) fl_X11_22 dX11_barnsIn_7 (by decide) ⟨rfl, rfl⟩ rfl rfl ?_
  obtain ⟨r4, D5, h3, h⟩ := cbd_x h
  refine j_callV C [.ref (ad G (11, 0, 6, 0))] [] cl_X11_421 (M_X11_allOf (lv := lv - 1) hG (by omega) h3) (by omega) dX11_barnsIn_10 (by decide) ⟨rfl, rfl⟩ rfl rfl (Nat.le_of_ble_eq_true rfl) ?_
  refine j_st (st' := [.int r4]) rfl ?_
  refine j_istore_n C [(2, .int r4), (0, .ref (ad G (11, 0, 0, 0))), (1, .int a1)] dX11_barnsIn_13 rfl (Nat.le_of_ble_eq_true rfl) rfl rfl ?_
  refine j_aload_n C 1 dX11_barnsIn_14 rfl rfl ?_
  obtain ⟨D7, h6, h⟩ := vbd_x h
  refine j_callV C [] [] cl_X11_425 (M_X11_laysBack (lv := lv - 1) hG (by omega) h6) (by omega) dX11_barnsIn_15 (by decide) ⟨rfl, rfl⟩ rfl rfl (Nat.le_of_ble_eq_true rfl) ?_
  refine j_st (st' := []) rfl ?_
  refine j_iload_n C 0 dX11_barnsIn_18 rfl rfl ?_
  obtain ⟨rfl, rfl⟩ := pr_x h
  exact j_iret C dX11_barnsIn_19
def F_X11_barnOfIn (a1 : Int32) (a2 : Int32) (D : Dt) : Option (Int32 × Dt) := (vbd (F_X11_goFor a2 D) (fun D2 => (grd (inB a1 5 = true) (bnd (D2.1 (11, 0, 6, 0) (a1.toNatClampNeg)) (fun v4 => (vbd (F_X11_laysBack  D2) (fun D6 => (some (v4, D6)))))))))
set_option maxRecDepth 100000 in
set_option maxHeartbeats 4000000 in
theorem M_X11_barnOfIn {l : Launch} {G : Gt} {A : Nat → Prop} {lv : Nat} {a1 : Int32} {a2 : Int32} {D : Dt} {r : Int32} {D' : Dt} (hG : Gok G A) (hlv : 10 ≤ lv)  (h : F_X11_barnOfIn a1 a2 D = some (r, D')) : MD l G A lv yX11_barnOfIn cX11_barnOfIn 4 (some .int) [.ref (ad G (11, 0, 0, 0)), .int a1, .int a2] D (some (.int r)) D' := by
  unfold F_X11_barnOfIn at h
  refine md_start RX11 hG (by decide +kernel) rfl (Nat.le_of_ble_eq_true rfl) (L := [(0, .ref (ad G (11, 0, 0, 0))), (1, .int a1), (2, .int a2)]) rfl (fun X C => ?_)
  refine j_aload_n C 0 dX11_barnOfIn_0 rfl rfl ?_
  refine j_iload_n C 2 dX11_barnOfIn_1 rfl rfl ?_
  obtain ⟨D2, h1, h⟩ := vbd_x h
  refine j_callV C [.int a2] [] cl_X11_418 (M_X11_goFor (lv := lv - 1) hG (by omega) h1) (by omega) dX11_barnOfIn_2 (by decide) ⟨rfl, rfl⟩ rfl rfl (Nat.le_of_ble_eq_true rfl) ?_
  refine j_st (st' := []) rfl ?_
  refine j_aload_n C 0 dX11_barnOfIn_5 rfl rfl ?_
  refine j_getS C (11, 0, 6, 0) fl_X11_22 dX11_barnOfIn_6 (by decide) ⟨rfl, rfl⟩ rfl rfl ?_
  refine j_iload_n C 1 dX11_barnOfIn_9 rfl rfl ?_
  obtain ⟨g3, h⟩ := grd_x h
  refine j_ialdK C 5 (a1.toNatClampNeg) dX11_barnOfIn_10 (V_f 5 (by decide) (by decide)) rfl g3 rfl ?_
  obtain ⟨v4, ev4, h⟩ := bnd_x h
  refine j_istore_n C [(3, .int v4), (0, .ref (ad G (11, 0, 0, 0))), (1, .int a1), (2, .int a2)] dX11_barnOfIn_11 rfl (Nat.le_of_ble_eq_true rfl) ev4 rfl ?_
  refine j_aload_n C 1 dX11_barnOfIn_12 rfl rfl ?_
  obtain ⟨D6, h5, h⟩ := vbd_x h
  refine j_callV C [] [] cl_X11_425 (M_X11_laysBack (lv := lv - 1) hG (by omega) h5) (by omega) dX11_barnOfIn_13 (by decide) ⟨rfl, rfl⟩ rfl rfl (Nat.le_of_ble_eq_true rfl) ?_
  refine j_st (st' := []) rfl ?_
  refine j_iload_n C 0 dX11_barnOfIn_16 rfl rfl ?_
  obtain ⟨rfl, rfl⟩ := pr_x h
  exact j_iret C dX11_barnOfIn_17
def F_X11_ahead_b90 (a1 : Int32) (a2 : Int32) (a3 : Int32)  (s0 : Int32) (D : Dt) : Option (Int32 × Dt) := (vbd (F_X11_laysBack  D) (fun D22 => (some (s0, D22))))
set_option maxRecDepth 100000 in
set_option maxHeartbeats 4000000 in
theorem T_X11_ahead_b90 {r : Int32} {D' : Dt} {X : Ctx} {l : Launch} {G : Gt} {A : Nat → Prop} {lv : Nat} {a1 : Int32} {a2 : Int32} {a3 : Int32}   (hG : Gok G A) (hlv : 10 ≤ lv)   (C : Cx X cX11_ahead RX11 G l A lv 5 (some .int) (some (.int r)) D')  : ∀ (s0 : Int32) (D : Dt), F_X11_ahead_b90 a1 a2 a3 s0 D = some (r, D') → J X (Rep G D) 90 [(0, .ref (ad G (11, 0, 0, 0)))] [.int s0] := by
  intro s0 D h
  unfold F_X11_ahead_b90 at h
  refine j_istore C [(4, .int s0), (0, .ref (ad G (11, 0, 0, 0)))] dX11_ahead_90 (Nat.le_of_ble_eq_true rfl) rfl rfl ?_
  refine j_aload_n C 1 dX11_ahead_92 rfl rfl ?_
  obtain ⟨D22, h21, h⟩ := vbd_x h
  refine j_callV C [] [] cl_X11_425 (M_X11_laysBack (lv := lv - 1) hG (by omega) h21) (by omega) dX11_ahead_93 (by decide) ⟨rfl, rfl⟩ rfl rfl (Nat.le_of_ble_eq_true rfl) ?_
  refine j_st (st' := []) rfl ?_
  refine j_iload C 0 dX11_ahead_96 rfl ?_
  obtain ⟨rfl, rfl⟩ := pr_x h
  exact j_iret C dX11_ahead_98
def F_X11_ahead (a1 : Int32) (a2 : Int32) (a3 : Int32) (D : Dt) : Option (Int32 × Dt) := (cbd (F_X11_isLand a1 D) (fun r2 D3 => (if r2 = 0 then (some ((-1 : Int32), D3)) else (cbd (F_X11_in a2.toInt64 (0 : Int64) (100 : Int64) D3) (fun r6 D7 => (if r6 = 0 then (some ((-1 : Int32), D7)) else (cbd (F_X11_in a3.toInt64 (0 : Int64) (3 : Int64) D7) (fun r10 D11 => (if r10 = 0 then (some ((-1 : Int32), D11)) else (vbd (F_X11_keepsAll  D11) (fun D14 => (vbd (F_X11_goFor a2 D14) (fun D16 => (if a3 = 0 then (grd (inB a1 5 = true) (F_X11_ahead_b90 a1 a2 a3 (D16.1 (11, 0, 3, 0) (a1.toNatClampNeg)) D16)) else (if a3 = (1 : Int32) then (grd (inB a1 5 = true) (F_X11_ahead_b90 a1 a2 a3 (D16.1 (11, 0, 4, 0) (a1.toNatClampNeg)) D16)) else (if a3 = (2 : Int32) then (grd (inB a1 5 = true) (F_X11_ahead_b90 a1 a2 a3 (D16.1 (11, 0, 5, 0) (a1.toNatClampNeg)) D16)) else (grd (inB a1 5 = true) (F_X11_ahead_b90 a1 a2 a3 (D16.1 (11, 0, 6, 0) (a1.toNatClampNeg)) D16))))))))))))))))))
set_option maxRecDepth 100000 in
set_option maxHeartbeats 4000000 in
theorem M_X11_ahead {l : Launch} {G : Gt} {A : Nat → Prop} {lv : Nat} {a1 : Int32} {a2 : Int32} {a3 : Int32} {D : Dt} {r : Int32} {D' : Dt} (hG : Gok G A) (hlv : 10 ≤ lv)  (h : F_X11_ahead a1 a2 a3 D = some (r, D')) : MD l G A lv yX11_ahead cX11_ahead 5 (some .int) [.ref (ad G (11, 0, 0, 0)), .int a1, .int a2, .int a3] D (some (.int r)) D' := by
  unfold F_X11_ahead at h
  refine md_start RX11 hG (by decide +kernel) rfl (Nat.le_of_ble_eq_true rfl) (L := [(0, .ref (ad G (11, 0, 0, 0))), (1, .int a1), (2, .int a2), (3, .int a3)]) rfl (fun X C => ?_)
  refine j_aload_n C 0 dX11_ahead_0 rfl rfl ?_
  refine j_iload_n C 1 dX11_ahead_1 rfl rfl ?_
  obtain ⟨r2, D3, h1, h⟩ := cbd_x h
  refine j_callV C [.int a1] [] cl_X11_340 (M_X11_isLand (lv := lv - 1) hG (by omega) h1) (by omega) dX11_ahead_2 (by decide) ⟨rfl, rfl⟩ rfl rfl (Nat.le_of_ble_eq_true rfl) ?_
  refine j_st (st' := [.int r2]) rfl ?_
  refine j_if_eq C 32 dX11_ahead_5 (by decide) (fun c4 => ?_) (fun c4 => ?_)
  · have h := ite_t c4 h
    refine j_iconst C (-1 : Int32) (by decide) dX11_ahead_32 ?_
    obtain ⟨rfl, rfl⟩ := pr_x h
    exact j_iret C dX11_ahead_33
  · have h := ite_f c4 h
    refine j_iload_n C 2 dX11_ahead_8 rfl rfl ?_
    refine j_i2l C dX11_ahead_9 ?_
    refine j_lconst C (0 : Int64) (by decide) dX11_ahead_10 ?_
    refine j_ldc2 C (100 : Int64) kc_X11_428 dX11_ahead_11 ?_
    obtain ⟨r6, D7, h5, h⟩ := cbd_x h
    refine j_callS C [.long a2.toInt64, .long (0 : Int64), .long (100 : Int64)] [] cl_X11_134 (M_X11_in (lv := lv - 1) hG (by omega) h5) (by omega) dX11_ahead_14 rfl rfl (Nat.le_of_ble_eq_true rfl) ?_
    refine j_st (st' := [.int r6]) rfl ?_
    refine j_if_eq C 32 dX11_ahead_17 (by decide) (fun c8 => ?_) (fun c8 => ?_)
    · have h := ite_t c8 h
      refine j_iconst C (-1 : Int32) (by decide) dX11_ahead_32 ?_
      obtain ⟨rfl, rfl⟩ := pr_x h
      exact j_iret C dX11_ahead_33
    · have h := ite_f c8 h
      refine j_iload_n C 3 dX11_ahead_20 rfl rfl ?_
      refine j_i2l C dX11_ahead_21 ?_
      refine j_lconst C (0 : Int64) (by decide) dX11_ahead_22 ?_
      refine j_ldc2 C (3 : Int64) kc_X11_430 dX11_ahead_23 ?_
      obtain ⟨r10, D11, h9, h⟩ := cbd_x h
      refine j_callS C [.long a3.toInt64, .long (0 : Int64), .long (3 : Int64)] [] cl_X11_134 (M_X11_in (lv := lv - 1) hG (by omega) h9) (by omega) dX11_ahead_26 rfl rfl (Nat.le_of_ble_eq_true rfl) ?_
      refine j_st (st' := [.int r10]) rfl ?_
      refine j_if_ne C 34 dX11_ahead_29 (by decide) (fun c12 => ?_) (fun c12 => ?_)
      · have h := ite_f c12 h
        refine j_aload_n C 0 dX11_ahead_34 rfl rfl ?_
        obtain ⟨D14, h13, h⟩ := vbd_x h
        refine j_callV C [] [] cl_X11_432 (M_X11_keepsAll (lv := lv - 1) hG (by omega) h13) (by omega) dX11_ahead_35 (by decide) ⟨rfl, rfl⟩ rfl rfl (Nat.le_of_ble_eq_true rfl) ?_
        refine j_st (st' := []) rfl ?_
        refine j_aload_n C 0 dX11_ahead_38 rfl rfl ?_
        refine j_iload_n C 2 dX11_ahead_39 rfl rfl ?_
        obtain ⟨D16, h15, h⟩ := vbd_x h
        refine j_callV C [.int a2] [] cl_X11_418 (M_X11_goFor (lv := lv - 1) hG (by omega) h15) (by omega) dX11_ahead_40 (by decide) ⟨rfl, rfl⟩ rfl rfl (Nat.le_of_ble_eq_true rfl) ?_
        refine j_st (st' := []) rfl ?_
        refine j_iload_n C 3 dX11_ahead_43 rfl rfl ?_
        refine j_if_ne C 56 dX11_ahead_44 (by decide) (fun c17 => ?_) (fun c17 => ?_)
        · have h := ite_f c17 h
          refine j_iload_n C 3 dX11_ahead_56 rfl rfl ?_
          refine j_iconst C (1 : Int32) (by decide) dX11_ahead_57 ?_
          refine j_icmp_ne C 70 dX11_ahead_58 (by decide) (fun c18 => ?_) (fun c18 => ?_)
          · have h := ite_f c18 h
            refine j_iload_n C 3 dX11_ahead_70 rfl rfl ?_
            refine j_iconst C (2 : Int32) (by decide) dX11_ahead_71 ?_
            refine j_icmp_ne C 84 dX11_ahead_72 (by decide) (fun c19 => ?_) (fun c19 => ?_)
            · have h := ite_f c19 h
              refine j_aload_n C 0 dX11_ahead_84 rfl rfl ?_
              refine j_getS C (11, 0, 6, 0) fl_X11_22 dX11_ahead_85 (by decide) ⟨rfl, rfl⟩ rfl rfl ?_
              refine j_iload_n C 1 dX11_ahead_88 rfl rfl ?_
              obtain ⟨g20, h⟩ := grd_x h
              refine j_ialdK C 5 (a1.toNatClampNeg) dX11_ahead_89 (V_f 5 (by decide) (by decide)) rfl g20 rfl ?_
              refine j_sub [0] [(0, .ref (ad G (11, 0, 0, 0)))] rfl ?_
              refine T_X11_ahead_b90 hG hlv  C  (D16.1 (11, 0, 6, 0) (a1.toNatClampNeg)) D16 h
            · have h := ite_t c19 h
              refine j_aload_n C 0 dX11_ahead_75 rfl rfl ?_
              refine j_getS C (11, 0, 5, 0) fl_X11_19 dX11_ahead_76 (by decide) ⟨rfl, rfl⟩ rfl rfl ?_
              refine j_iload_n C 1 dX11_ahead_79 rfl rfl ?_
              obtain ⟨g23, h⟩ := grd_x h
              refine j_ialdK C 5 (a1.toNatClampNeg) dX11_ahead_80 (V_f 4 (by decide) (by decide)) rfl g23 rfl ?_
              refine j_goto C 90 dX11_ahead_81 (by decide) ?_
              refine j_sub [0] [(0, .ref (ad G (11, 0, 0, 0)))] rfl ?_
              refine T_X11_ahead_b90 hG hlv  C  (D16.1 (11, 0, 5, 0) (a1.toNatClampNeg)) D16 h
          · have h := ite_t c18 h
            refine j_aload_n C 0 dX11_ahead_61 rfl rfl ?_
            refine j_getS C (11, 0, 4, 0) fl_X11_16 dX11_ahead_62 (by decide) ⟨rfl, rfl⟩ rfl rfl ?_
            refine j_iload_n C 1 dX11_ahead_65 rfl rfl ?_
            obtain ⟨g24, h⟩ := grd_x h
            refine j_ialdK C 5 (a1.toNatClampNeg) dX11_ahead_66 (V_f 3 (by decide) (by decide)) rfl g24 rfl ?_
            refine j_goto C 90 dX11_ahead_67 (by decide) ?_
            refine j_sub [0] [(0, .ref (ad G (11, 0, 0, 0)))] rfl ?_
            refine T_X11_ahead_b90 hG hlv  C  (D16.1 (11, 0, 4, 0) (a1.toNatClampNeg)) D16 h
        · have h := ite_t c17 h
          refine j_aload_n C 0 dX11_ahead_47 rfl rfl ?_
          refine j_getS C (11, 0, 3, 0) fl_X11_13 dX11_ahead_48 (by decide) ⟨rfl, rfl⟩ rfl rfl ?_
          refine j_iload_n C 1 dX11_ahead_51 rfl rfl ?_
          obtain ⟨g25, h⟩ := grd_x h
          refine j_ialdK C 5 (a1.toNatClampNeg) dX11_ahead_52 (V_f 2 (by decide) (by decide)) rfl g25 rfl ?_
          refine j_goto C 90 dX11_ahead_53 (by decide) ?_
          refine j_sub [0] [(0, .ref (ad G (11, 0, 0, 0)))] rfl ?_
          refine T_X11_ahead_b90 hG hlv  C  (D16.1 (11, 0, 3, 0) (a1.toNatClampNeg)) D16 h
      · have h := ite_t c12 h
        refine j_iconst C (-1 : Int32) (by decide) dX11_ahead_32 ?_
        obtain ⟨rfl, rfl⟩ := pr_x h
        exact j_iret C dX11_ahead_33
def F_X11_bare_b51 (a1 : Int32) (k19 : Int32 → Int32 → Int32 → Dt → Option (Int32 × Dt)) (l1 : Int32) (l3 : Int32) (s0 : Int32) (D : Dt) : Option (Int32 × Dt) := (cbd (F_X11_goes  D) (fun r12 D13 => (bnd (l3 + (1 : Int32)) (fun v14 => (k19 l1 s0 v14 D13)))))
set_option maxRecDepth 100000 in
set_option maxHeartbeats 4000000 in
theorem T_X11_bare_b51 {r : Int32} {D' : Dt} {X : Ctx} {l : Launch} {G : Gt} {A : Nat → Prop} {lv : Nat} {a1 : Int32}  {k19 : Int32 → Int32 → Int32 → Dt → Option (Int32 × Dt)} (hG : Gok G A) (hlv : 9 ≤ lv)   (C : Cx X cX11_bare RX11 G l A lv 4 (some .int) (some (.int r)) D') (hk19 : ∀ (l1 : Int32) (l2 : Int32) (l3 : Int32) (D : Dt), k19 l1 l2 l3 D = some (r, D') → J X (Rep G D) 19 [(0, .ref (ad G (11, 0, 0, 0))), (1, .int l1), (2, .int l2), (3, .int l3)] []) : ∀ (l1 : Int32) (l3 : Int32) (s0 : Int32) (D : Dt), F_X11_bare_b51 a1 k19 l1 l3 s0 D = some (r, D') → J X (Rep G D) 51 [(0, .ref (ad G (11, 0, 0, 0))), (1, .int l1), (3, .int l3)] [.int s0] := by
  intro l1 l3 s0 D h
  unfold F_X11_bare_b51 at h
  refine j_istore_n C [(2, .int s0), (0, .ref (ad G (11, 0, 0, 0))), (1, .int l1), (3, .int l3)] dX11_bare_51 rfl (Nat.le_of_ble_eq_true rfl) rfl rfl ?_
  refine j_aload_n C 1 dX11_bare_52 rfl rfl ?_
  obtain ⟨r12, D13, h11, h⟩ := cbd_x h
  refine j_callV C [] [] cl_X11_385 (M_X11_goes (lv := lv - 1) hG (by omega) h11) (by omega) dX11_bare_53 (by decide) ⟨rfl, rfl⟩ rfl rfl (Nat.le_of_ble_eq_true rfl) ?_
  refine j_st (st' := [.int r12]) rfl ?_
  refine j_pop C rfl dX11_bare_56 ?_
  obtain ⟨v14, ev14, h⟩ := bnd_x h
  refine j_iinc C 3 [(3, .int v14), (2, .int s0), (0, .ref (ad G (11, 0, 0, 0))), (1, .int l1)] dX11_bare_57 rfl (Nat.le_of_ble_eq_true rfl) (ev14.trans (congrArg (l3 + ·) (by decide))) rfl ?_
  refine j_goto C 19 dX11_bare_60 (by decide) ?_
  refine j_sub [2, 3, 1, 0] [(0, .ref (ad G (11, 0, 0, 0))), (1, .int l1), (2, .int s0), (3, .int v14)] rfl ?_
  exact hk19 l1 s0 v14 D13 h
def F_X11_bare_b19 (a1 : Int32) (k63 : Int32 → Dt → Option (Int32 × Dt)) : Nat → Int32 → Int32 → Int32 → Dt → Option (Int32 × Dt)
  | 0, _, _, _, _ => none
  | f + 1, l1, l2, l3, D => (if (100 : Int32) ≤ l3 then (k63 l2 D) else (if l2 = (-2 : Int32) then (grd (inB l1 5 = true) (if (D.1 (11, 0, 5, 0) (l1.toNatClampNeg)) = 0 then (F_X11_bare_b51 a1 (fun l1_19 l2_20 l3_21 D22 => (F_X11_bare_b19 a1 k63 f l1_19 l2_20 l3_21 D22)) l1 l3 (D.1 (11, 0, 2, 0) 4) D) else (F_X11_bare_b51 a1 (fun l1_15 l2_16 l3_17 D18 => (F_X11_bare_b19 a1 k63 f l1_15 l2_16 l3_17 D18)) l1 l3 (-2 : Int32) D))) else (k63 l2 D)))
set_option maxRecDepth 100000 in
set_option maxHeartbeats 4000000 in
theorem T_X11_bare_b19 {r : Int32} {D' : Dt} {X : Ctx} {l : Launch} {G : Gt} {A : Nat → Prop} {lv : Nat} {a1 : Int32}  {k63 : Int32 → Dt → Option (Int32 × Dt)} (hG : Gok G A) (hlv : 9 ≤ lv)   (C : Cx X cX11_bare RX11 G l A lv 4 (some .int) (some (.int r)) D') (hk63 : ∀ (l2 : Int32) (D : Dt), k63 l2 D = some (r, D') → J X (Rep G D) 63 [(0, .ref (ad G (11, 0, 0, 0))), (2, .int l2)] []) : ∀ (f : Nat) (l1 : Int32) (l2 : Int32) (l3 : Int32) (D : Dt), F_X11_bare_b19 a1 k63 f l1 l2 l3 D = some (r, D') → J X (Rep G D) 19 [(0, .ref (ad G (11, 0, 0, 0))), (1, .int l1), (2, .int l2), (3, .int l3)] [] := by
  intro f
  induction f with
  | zero =>
    intro l1 l2 l3 D h
    exact nomatch h
  | succ f ih =>
    intro l1 l2 l3 D h
    rw [F_X11_bare_b19] at h
    refine j_iload_n C 3 dX11_bare_19 rfl rfl ?_
    refine j_bipush C (100 : Int32) (by decide) dX11_bare_20 ?_
    refine j_icmp_ge C 63 dX11_bare_22 (by decide) (fun c7 => ?_) (fun c7 => ?_)
    · have h := ite_t c7 h
      refine j_sub [0, 2] [(0, .ref (ad G (11, 0, 0, 0))), (2, .int l2)] rfl ?_
      exact hk63 l2 D h
    · have h := ite_f c7 h
      refine j_iload_n C 2 dX11_bare_25 rfl rfl ?_
      refine j_bipush C (-2 : Int32) (by decide) dX11_bare_26 ?_
      refine j_icmp_ne C 63 dX11_bare_28 (by decide) (fun c8 => ?_) (fun c8 => ?_)
      · have h := ite_f c8 h
        refine j_sub [0, 2] [(0, .ref (ad G (11, 0, 0, 0))), (2, .int l2)] rfl ?_
        exact hk63 l2 D h
      · have h := ite_t c8 h
        refine j_aload_n C 0 dX11_bare_31 rfl rfl ?_
        refine j_getS C (11, 0, 5, 0) fl_X11_19 dX11_bare_32 (by decide) ⟨rfl, rfl⟩ rfl rfl ?_
        refine j_iload_n C 1 dX11_bare_35 rfl rfl ?_
        obtain ⟨g9, h⟩ := grd_x h
        refine j_ialdK C 5 (l1.toNatClampNeg) dX11_bare_36 (V_f 4 (by decide) (by decide)) rfl g9 rfl ?_
        refine j_if_ne C 49 dX11_bare_37 (by decide) (fun c10 => ?_) (fun c10 => ?_)
        · have h := ite_f c10 h
          refine j_bipush C (-2 : Int32) (by decide) dX11_bare_49 ?_
          refine j_sub [0, 1, 3] [(0, .ref (ad G (11, 0, 0, 0))), (1, .int l1), (3, .int l3)] rfl ?_
          refine T_X11_bare_b51 hG hlv  C (fun l1_15 l2_16 l3_17 D18 h => ?_) l1 l3 (-2 : Int32) D h
          · exact ih l1_15 l2_16 l3_17 D18 h
        · have h := ite_t c10 h
          refine j_aload_n C 0 dX11_bare_40 rfl rfl ?_
          refine j_getS C (11, 0, 2, 0) fl_X11_9 dX11_bare_41 (by decide) ⟨rfl, rfl⟩ rfl rfl ?_
          refine j_iconst C (4 : Int32) (by decide) dX11_bare_44 ?_
          refine j_ialdK C 9 4 dX11_bare_45 (V_f 1 (by decide) (by decide)) rfl (by decide) (by decide) ?_
          refine j_goto C 51 dX11_bare_46 (by decide) ?_
          refine j_sub [0, 1, 3] [(0, .ref (ad G (11, 0, 0, 0))), (1, .int l1), (3, .int l3)] rfl ?_
          refine T_X11_bare_b51 hG hlv  C (fun l1_19 l2_20 l3_21 D22 h => ?_) l1 l3 (D.1 (11, 0, 2, 0) 4) D h
          · exact ih l1_19 l2_20 l3_21 D22 h
def F_X11_bare (a1 : Int32) (D : Dt) : Option (Int32 × Dt) := (cbd (F_X11_isLand a1 D) (fun r2 D3 => (if r2 = 0 then (some ((-1 : Int32), D3)) else (vbd (F_X11_keepsAll  D3) (fun D6 => (F_X11_bare_b19 a1 (fun l2_23 D24 => (vbd (F_X11_laysBack  D24) (fun D26 => (some (l2_23, D26))))) 2000 a1 (-2 : Int32) (0 : Int32) D6))))))
set_option maxRecDepth 100000 in
set_option maxHeartbeats 4000000 in
theorem M_X11_bare {l : Launch} {G : Gt} {A : Nat → Prop} {lv : Nat} {a1 : Int32} {D : Dt} {r : Int32} {D' : Dt} (hG : Gok G A) (hlv : 9 ≤ lv)  (h : F_X11_bare a1 D = some (r, D')) : MD l G A lv yX11_bare cX11_bare 4 (some .int) [.ref (ad G (11, 0, 0, 0)), .int a1] D (some (.int r)) D' := by
  unfold F_X11_bare at h
  refine md_start RX11 hG (by decide +kernel) rfl (Nat.le_of_ble_eq_true rfl) (L := [(0, .ref (ad G (11, 0, 0, 0))), (1, .int a1)]) rfl (fun X C => ?_)
  refine j_aload_n C 0 dX11_bare_0 rfl rfl ?_
  refine j_iload_n C 1 dX11_bare_1 rfl rfl ?_
  obtain ⟨r2, D3, h1, h⟩ := cbd_x h
  refine j_callV C [.int a1] [] cl_X11_340 (M_X11_isLand (lv := lv - 1) hG (by omega) h1) (by omega) dX11_bare_2 (by decide) ⟨rfl, rfl⟩ rfl rfl (Nat.le_of_ble_eq_true rfl) ?_
  refine j_st (st' := [.int r2]) rfl ?_
  refine j_if_ne C 10 dX11_bare_5 (by decide) (fun c4 => ?_) (fun c4 => ?_)
  · have h := ite_f c4 h
    refine j_aload_n C 0 dX11_bare_10 rfl rfl ?_
    obtain ⟨D6, h5, h⟩ := vbd_x h
    refine j_callV C [] [] cl_X11_432 (M_X11_keepsAll (lv := lv - 1) hG (by omega) h5) (by omega) dX11_bare_11 (by decide) ⟨rfl, rfl⟩ rfl rfl (Nat.le_of_ble_eq_true rfl) ?_
    refine j_st (st' := []) rfl ?_
    refine j_bipush C (-2 : Int32) (by decide) dX11_bare_14 ?_
    refine j_istore_n C [(2, .int (-2 : Int32)), (0, .ref (ad G (11, 0, 0, 0))), (1, .int a1)] dX11_bare_16 rfl (Nat.le_of_ble_eq_true rfl) rfl rfl ?_
    refine j_iconst C (0 : Int32) (by decide) dX11_bare_17 ?_
    refine j_istore_n C [(3, .int (0 : Int32)), (2, .int (-2 : Int32)), (0, .ref (ad G (11, 0, 0, 0))), (1, .int a1)] dX11_bare_18 rfl (Nat.le_of_ble_eq_true rfl) rfl rfl ?_
    refine j_sub [2, 3, 1, 0] [(0, .ref (ad G (11, 0, 0, 0))), (1, .int a1), (2, .int (-2 : Int32)), (3, .int (0 : Int32))] rfl ?_
    refine T_X11_bare_b19 hG hlv  C (fun l2_23 D24 h => ?_) 2000 a1 (-2 : Int32) (0 : Int32) D6 h
    · refine j_aload_n C 0 dX11_bare_63 rfl rfl ?_
      obtain ⟨D26, h25, h⟩ := vbd_x h
      refine j_callV C [] [] cl_X11_425 (M_X11_laysBack (lv := lv - 1) hG (by omega) h25) (by omega) dX11_bare_64 (by decide) ⟨rfl, rfl⟩ rfl rfl (Nat.le_of_ble_eq_true rfl) ?_
      refine j_st (st' := []) rfl ?_
      refine j_iload_n C 1 dX11_bare_67 rfl rfl ?_
      obtain ⟨rfl, rfl⟩ := pr_x h
      exact j_iret C dX11_bare_68
  · have h := ite_t c4 h
    refine j_iconst C (-1 : Int32) (by decide) dX11_bare_8 ?_
    obtain ⟨rfl, rfl⟩ := pr_x h
    exact j_iret C dX11_bare_9
def F_X11_barnByRow_b17 (a1 : Int32) (a2 : Int32) (a3 : Int32) (a4 : Int32) (k77 : Int32 → Dt → Option (Int32 × Dt)) : Nat → Int32 → Int32 → Int32 → Int32 → Int32 → Dt → Option (Int32 × Dt)
  | 0, _, _, _, _, _, _ => none
  | f + 1, l1, l2, l3, l5, l6, D => (if l2 ≤ l6 then (k77 l1 D) else (grd (¬ ((D.1 (11, 0, 2, 0) 2) + (1 : Int32)) = 0) (bnd (l5 / ((D.1 (11, 0, 2, 0) 2) + (1 : Int32))) (fun v5 => (grd (¬ v5 = 0) (bnd (setI D (11, 0, 0, 0) 41 (((l3 / v5) - (l3 / v5) / ((D.1 (11, 0, 2, 0) 2) + (1 : Int32)) * ((D.1 (11, 0, 2, 0) 2) + (1 : Int32))) - (1 : Int32))) (fun D7 => (grd (inB l6 4 = true) (bnd (setI D7 (11, 0, 50, 0) (l6.toNatClampNeg) (D7.1 (11, 0, 0, 0) 41)) (fun D9 => (cbd (F_X11_goes  D9) (fun r11 D12 => (bnd (l6 + (1 : Int32)) (fun v13 => (F_X11_barnByRow_b17 a1 a2 a3 a4 k77 f l1 l2 l3 v5 v13 D12)))))))))))))))
set_option maxRecDepth 100000 in
set_option maxHeartbeats 4000000 in
theorem T_X11_barnByRow_b17 {r : Int32} {D' : Dt} {X : Ctx} {l : Launch} {G : Gt} {A : Nat → Prop} {lv : Nat} {a1 : Int32} {a2 : Int32} {a3 : Int32} {a4 : Int32}  {k77 : Int32 → Dt → Option (Int32 × Dt)} (hG : Gok G A) (hlv : 9 ≤ lv)   (C : Cx X cX11_barnByRow RX11 G l A lv 7 (some .int) (some (.int r)) D') (hk77 : ∀ (l1 : Int32) (D : Dt), k77 l1 D = some (r, D') → J X (Rep G D) 77 [(0, .ref (ad G (11, 0, 0, 0))), (1, .int l1)] []) : ∀ (f : Nat) (l1 : Int32) (l2 : Int32) (l3 : Int32) (l5 : Int32) (l6 : Int32) (D : Dt), F_X11_barnByRow_b17 a1 a2 a3 a4 k77 f l1 l2 l3 l5 l6 D = some (r, D') → J X (Rep G D) 17 [(0, .ref (ad G (11, 0, 0, 0))), (1, .int l1), (2, .int l2), (3, .int l3), (5, .int l5), (6, .int l6)] [] := by
  intro f
  induction f with
  | zero =>
    intro l1 l2 l3 l5 l6 D h
    exact nomatch h
  | succ f ih =>
    intro l1 l2 l3 l5 l6 D h
    rw [F_X11_barnByRow_b17] at h
    refine j_iload C 5 dX11_barnByRow_17 rfl ?_
    refine j_iload_n C 2 dX11_barnByRow_19 rfl rfl ?_
    refine j_icmp_ge C 77 dX11_barnByRow_20 (by decide) (fun c3 => ?_) (fun c3 => ?_)
    · have h := ite_t c3 h
      refine j_sub [0, 1] [(0, .ref (ad G (11, 0, 0, 0))), (1, .int l1)] rfl ?_
      exact hk77 l1 D h
    · have h := ite_f c3 h
      refine j_iload C 4 dX11_barnByRow_23 rfl ?_
      refine j_aload_n C 0 dX11_barnByRow_25 rfl rfl ?_
      refine j_getS C (11, 0, 2, 0) fl_X11_9 dX11_barnByRow_26 (by decide) ⟨rfl, rfl⟩ rfl rfl ?_
      refine j_iconst C (2 : Int32) (by decide) dX11_barnByRow_29 ?_
      refine j_ialdK C 9 2 dX11_barnByRow_30 (V_f 1 (by decide) (by decide)) rfl (by decide) (by decide) ?_
      refine j_iconst C (1 : Int32) (by decide) dX11_barnByRow_31 ?_
      refine j_iadd C dX11_barnByRow_32 ?_
      obtain ⟨g4, h⟩ := grd_x h
      refine j_idiv C g4 dX11_barnByRow_33 ?_
      obtain ⟨v5, ev5, h⟩ := bnd_x h
      refine j_istore C [(5, .int v5), (0, .ref (ad G (11, 0, 0, 0))), (1, .int l1), (2, .int l2), (3, .int l3), (6, .int l6)] dX11_barnByRow_34 (Nat.le_of_ble_eq_true rfl) ev5 rfl ?_
      refine j_aload_n C 1 dX11_barnByRow_36 rfl rfl ?_
      refine j_iload_n C 4 dX11_barnByRow_37 rfl rfl ?_
      refine j_iload C 0 dX11_barnByRow_38 rfl ?_
      obtain ⟨g6, h⟩ := grd_x h
      refine j_idiv C g6 dX11_barnByRow_40 ?_
      refine j_aload_n C 1 dX11_barnByRow_41 rfl rfl ?_
      refine j_getS C (11, 0, 2, 0) fl_X11_9 dX11_barnByRow_42 (by decide) ⟨rfl, rfl⟩ rfl rfl ?_
      refine j_iconst C (2 : Int32) (by decide) dX11_barnByRow_45 ?_
      refine j_ialdK C 9 2 dX11_barnByRow_46 (V_f 1 (by decide) (by decide)) rfl (by decide) (by decide) ?_
      refine j_iconst C (1 : Int32) (by decide) dX11_barnByRow_47 ?_
      refine j_iadd C dX11_barnByRow_48 ?_
      refine j_irem C g4 dX11_barnByRow_49 ?_
      refine j_iconst C (1 : Int32) (by decide) dX11_barnByRow_50 ?_
      refine j_isub C dX11_barnByRow_51 ?_
      obtain ⟨D7, eD7, h⟩ := bnd_x h
      refine j_putI C fl_X11_370 dX11_barnByRow_52 (by decide) ⟨rfl, rfl⟩ rfl rfl rfl ?_
      refine j_rep eD7 ?_
      refine j_aload_n C 1 dX11_barnByRow_55 rfl rfl ?_
      refine j_getS C (11, 0, 50, 0) fl_X11_109 dX11_barnByRow_56 (by decide) ⟨rfl, rfl⟩ rfl rfl ?_
      refine j_iload C 5 dX11_barnByRow_59 rfl ?_
      refine j_aload_n C 1 dX11_barnByRow_61 rfl rfl ?_
      refine j_getI C fl_X11_370 dX11_barnByRow_62 (by decide) ⟨rfl, rfl⟩ rfl ?_
      obtain ⟨g8, h⟩ := grd_x h
      obtain ⟨D9, eD9, h⟩ := bnd_x h
      refine j_iastK C 4 (l6.toNatClampNeg) dX11_barnByRow_65 (V_f 49 (by decide) (by decide)) rfl g8 rfl ?_
      refine j_rep eD9 ?_
      refine j_aload_n C 1 dX11_barnByRow_66 rfl rfl ?_
      obtain ⟨r11, D12, h10, h⟩ := cbd_x h
      refine j_callV C [] [] cl_X11_385 (M_X11_goes (lv := lv - 1) hG (by omega) h10) (by omega) dX11_barnByRow_67 (by decide) ⟨rfl, rfl⟩ rfl rfl (Nat.le_of_ble_eq_true rfl) ?_
      refine j_st (st' := [.int r11]) rfl ?_
      refine j_pop C rfl dX11_barnByRow_70 ?_
      obtain ⟨v13, ev13, h⟩ := bnd_x h
      refine j_iinc C 5 [(6, .int v13), (5, .int v5), (0, .ref (ad G (11, 0, 0, 0))), (1, .int l1), (2, .int l2), (3, .int l3)] dX11_barnByRow_71 rfl (Nat.le_of_ble_eq_true rfl) (ev13.trans (congrArg (l6 + ·) (by decide))) rfl ?_
      refine j_goto C 17 dX11_barnByRow_74 (by decide) ?_
      refine j_sub [2, 3, 4, 5, 1, 0] [(0, .ref (ad G (11, 0, 0, 0))), (1, .int l1), (2, .int l2), (3, .int l3), (5, .int v5), (6, .int v13)] rfl ?_
      exact ih l1 l2 l3 v5 v13 D12 h
def F_X11_barnByRow_b99 (a1 : Int32) (a2 : Int32) (a3 : Int32) (a4 : Int32)  (s0 : Int32) (D : Dt) : Option (Int32 × Dt) := (vbd (F_X11_laysBack  D) (fun D19 => (some (s0, D19))))
set_option maxRecDepth 100000 in
set_option maxHeartbeats 4000000 in
theorem T_X11_barnByRow_b99 {r : Int32} {D' : Dt} {X : Ctx} {l : Launch} {G : Gt} {A : Nat → Prop} {lv : Nat} {a1 : Int32} {a2 : Int32} {a3 : Int32} {a4 : Int32}   (hG : Gok G A) (hlv : 9 ≤ lv)   (C : Cx X cX11_barnByRow RX11 G l A lv 7 (some .int) (some (.int r)) D')  : ∀ (s0 : Int32) (D : Dt), F_X11_barnByRow_b99 a1 a2 a3 a4 s0 D = some (r, D') → J X (Rep G D) 99 [(0, .ref (ad G (11, 0, 0, 0)))] [.int s0] := by
  intro s0 D h
  unfold F_X11_barnByRow_b99 at h
  refine j_istore C [(6, .int s0), (0, .ref (ad G (11, 0, 0, 0)))] dX11_barnByRow_99 (Nat.le_of_ble_eq_true rfl) rfl rfl ?_
  refine j_aload_n C 1 dX11_barnByRow_101 rfl rfl ?_
  obtain ⟨D19, h18, h⟩ := vbd_x h
  refine j_callV C [] [] cl_X11_425 (M_X11_laysBack (lv := lv - 1) hG (by omega) h18) (by omega) dX11_barnByRow_102 (by decide) ⟨rfl, rfl⟩ rfl rfl (Nat.le_of_ble_eq_true rfl) ?_
  refine j_st (st' := []) rfl ?_
  refine j_iload C 0 dX11_barnByRow_105 rfl ?_
  obtain ⟨rfl, rfl⟩ := pr_x h
  exact j_iret C dX11_barnByRow_107
def F_X11_barnByRow (a1 : Int32) (a2 : Int32) (a3 : Int32) (a4 : Int32) (D : Dt) : Option (Int32 × Dt) := (bnd (setI D (11, 0, 0, 0) 40 a1) (fun D1 => (bnd (setI D1 (11, 0, 0, 0) 43 (1 : Int32)) (fun D2 => (F_X11_barnByRow_b17 a1 a2 a3 a4 (fun l1_14 D15 => (bnd (setI D15 (11, 0, 0, 0) 40 (-1 : Int32)) (fun D16 => (if (D16.1 (11, 0, 0, 0) 43) = 0 then (F_X11_barnByRow_b99 a1 a2 a3 a4 (-1 : Int32) D16) else (grd (inB l1_14 5 = true) (F_X11_barnByRow_b99 a1 a2 a3 a4 (D16.1 (11, 0, 6, 0) (l1_14.toNatClampNeg)) D16)))))) 2000 a1 a2 a3 a4 (0 : Int32) D2)))))
set_option maxRecDepth 100000 in
set_option maxHeartbeats 4000000 in
theorem M_X11_barnByRow {l : Launch} {G : Gt} {A : Nat → Prop} {lv : Nat} {a1 : Int32} {a2 : Int32} {a3 : Int32} {a4 : Int32} {D : Dt} {r : Int32} {D' : Dt} (hG : Gok G A) (hlv : 9 ≤ lv)  (h : F_X11_barnByRow a1 a2 a3 a4 D = some (r, D')) : MD l G A lv yX11_barnByRow cX11_barnByRow 7 (some .int) [.ref (ad G (11, 0, 0, 0)), .int a1, .int a2, .int a3, .int a4] D (some (.int r)) D' := by
  unfold F_X11_barnByRow at h
  refine md_start RX11 hG (by decide +kernel) rfl (Nat.le_of_ble_eq_true rfl) (L := [(0, .ref (ad G (11, 0, 0, 0))), (1, .int a1), (2, .int a2), (3, .int a3), (4, .int a4)]) rfl (fun X C => ?_)
  refine j_iload C 4 dX11_barnByRow_0 rfl ?_
  refine j_istore C [(5, .int a4), (0, .ref (ad G (11, 0, 0, 0))), (1, .int a1), (2, .int a2), (3, .int a3), (4, .int a4)] dX11_barnByRow_2 (Nat.le_of_ble_eq_true rfl) rfl rfl ?_
  refine j_aload_n C 1 dX11_barnByRow_4 rfl rfl ?_
  refine j_iload_n C 2 dX11_barnByRow_5 rfl rfl ?_
  obtain ⟨D1, eD1, h⟩ := bnd_x h
  refine j_putI C fl_X11_100 dX11_barnByRow_6 (by decide) ⟨rfl, rfl⟩ rfl rfl rfl ?_
  refine j_rep eD1 ?_
  refine j_aload_n C 1 dX11_barnByRow_9 rfl rfl ?_
  refine j_iconst C (1 : Int32) (by decide) dX11_barnByRow_10 ?_
  obtain ⟨D2, eD2, h⟩ := bnd_x h
  refine j_putZ C fl_X11_366 dX11_barnByRow_11 (by decide) ⟨rfl, rfl⟩ rfl rfl rfl (Or.inr rfl) ?_
  refine j_rep eD2 ?_
  refine j_iconst C (0 : Int32) (by decide) dX11_barnByRow_14 ?_
  refine j_istore C [(6, .int (0 : Int32)), (5, .int a4), (0, .ref (ad G (11, 0, 0, 0))), (1, .int a1), (2, .int a2), (3, .int a3), (4, .int a4)] dX11_barnByRow_15 (Nat.le_of_ble_eq_true rfl) rfl rfl ?_
  refine j_sub [2, 3, 4, 5, 1, 0] [(0, .ref (ad G (11, 0, 0, 0))), (1, .int a1), (2, .int a2), (3, .int a3), (5, .int a4), (6, .int (0 : Int32))] rfl ?_
  refine T_X11_barnByRow_b17 hG hlv  C (fun l1_14 D15 h => ?_) 2000 a1 a2 a3 a4 (0 : Int32) D2 h
  · refine j_aload_n C 0 dX11_barnByRow_77 rfl rfl ?_
    refine j_iconst C (-1 : Int32) (by decide) dX11_barnByRow_78 ?_
    obtain ⟨D16, eD16, h⟩ := bnd_x h
    refine j_putI C fl_X11_100 dX11_barnByRow_79 (by decide) ⟨rfl, rfl⟩ rfl rfl rfl ?_
    refine j_rep eD16 ?_
    refine j_aload_n C 0 dX11_barnByRow_82 rfl rfl ?_
    refine j_getI C fl_X11_366 dX11_barnByRow_83 (by decide) ⟨rfl, rfl⟩ rfl ?_
    refine j_if_eq C 98 dX11_barnByRow_86 (by decide) (fun c17 => ?_) (fun c17 => ?_)
    · have h := ite_t c17 h
      refine j_iconst C (-1 : Int32) (by decide) dX11_barnByRow_98 ?_
      refine j_sub [0] [(0, .ref (ad G (11, 0, 0, 0)))] rfl ?_
      refine T_X11_barnByRow_b99 hG hlv  C  (-1 : Int32) D16 h
    · have h := ite_f c17 h
      refine j_aload_n C 0 dX11_barnByRow_89 rfl rfl ?_
      refine j_getS C (11, 0, 6, 0) fl_X11_22 dX11_barnByRow_90 (by decide) ⟨rfl, rfl⟩ rfl rfl ?_
      refine j_iload_n C 1 dX11_barnByRow_93 rfl rfl ?_
      obtain ⟨g20, h⟩ := grd_x h
      refine j_ialdK C 5 (l1_14.toNatClampNeg) dX11_barnByRow_94 (V_f 5 (by decide) (by decide)) rfl g20 rfl ?_
      refine j_goto C 99 dX11_barnByRow_95 (by decide) ?_
      refine j_sub [0] [(0, .ref (ad G (11, 0, 0, 0)))] rfl ?_
      refine T_X11_barnByRow_b99 hG hlv  C  (D16.1 (11, 0, 6, 0) (l1_14.toNatClampNeg)) D16 h
def F_X11_row_b41 (a1 : Int32) (a2 : Int32) (a3 : Int32) (k66 : Int32 → Int32 → Int32 → Int32 → Dt → Option (Int32 × Dt)) : Nat → Int32 → Int32 → Int32 → Int32 → Int32 → Dt → Option (Int32 × Dt)
  | 0, _, _, _, _, _, _ => none
  | f + 1, l1, l2, l3, l4, l5, D => (if l2 ≤ l5 then (k66 l1 l2 l3 l4 D) else (bnd (l4 * ((D.1 (11, 0, 2, 0) 2) + (1 : Int32))) (fun v14 => (bnd (l5 + (1 : Int32)) (fun v15 => (F_X11_row_b41 a1 a2 a3 k66 f l1 l2 l3 v14 v15 D))))))
set_option maxRecDepth 100000 in
set_option maxHeartbeats 4000000 in
theorem T_X11_row_b41 {r : Int32} {D' : Dt} {X : Ctx} {l : Launch} {G : Gt} {A : Nat → Prop} {lv : Nat} {a1 : Int32} {a2 : Int32} {a3 : Int32}  {k66 : Int32 → Int32 → Int32 → Int32 → Dt → Option (Int32 × Dt)} (hG : Gok G A) (hlv : 10 ≤ lv)   (C : Cx X cX11_row RX11 G l A lv 8 (some .int) (some (.int r)) D') (hk66 : ∀ (l1 : Int32) (l2 : Int32) (l3 : Int32) (l4 : Int32) (D : Dt), k66 l1 l2 l3 l4 D = some (r, D') → J X (Rep G D) 66 [(0, .ref (ad G (11, 0, 0, 0))), (1, .int l1), (2, .int l2), (3, .int l3), (4, .int l4)] []) : ∀ (f : Nat) (l1 : Int32) (l2 : Int32) (l3 : Int32) (l4 : Int32) (l5 : Int32) (D : Dt), F_X11_row_b41 a1 a2 a3 k66 f l1 l2 l3 l4 l5 D = some (r, D') → J X (Rep G D) 41 [(0, .ref (ad G (11, 0, 0, 0))), (1, .int l1), (2, .int l2), (3, .int l3), (4, .int l4), (5, .int l5)] [] := by
  intro f
  induction f with
  | zero =>
    intro l1 l2 l3 l4 l5 D h
    exact nomatch h
  | succ f ih =>
    intro l1 l2 l3 l4 l5 D h
    rw [F_X11_row_b41] at h
    refine j_iload C 5 dX11_row_41 rfl ?_
    refine j_iload_n C 2 dX11_row_43 rfl rfl ?_
    refine j_icmp_ge C 66 dX11_row_44 (by decide) (fun c13 => ?_) (fun c13 => ?_)
    · have h := ite_t c13 h
      refine j_sub [0, 1, 2, 3, 4] [(0, .ref (ad G (11, 0, 0, 0))), (1, .int l1), (2, .int l2), (3, .int l3), (4, .int l4)] rfl ?_
      exact hk66 l1 l2 l3 l4 D h
    · have h := ite_f c13 h
      refine j_iload C 4 dX11_row_47 rfl ?_
      refine j_aload_n C 0 dX11_row_49 rfl rfl ?_
      refine j_getS C (11, 0, 2, 0) fl_X11_9 dX11_row_50 (by decide) ⟨rfl, rfl⟩ rfl rfl ?_
      refine j_iconst C (2 : Int32) (by decide) dX11_row_53 ?_
      refine j_ialdK C 9 2 dX11_row_54 (V_f 1 (by decide) (by decide)) rfl (by decide) (by decide) ?_
      refine j_iconst C (1 : Int32) (by decide) dX11_row_55 ?_
      refine j_iadd C dX11_row_56 ?_
      refine j_imul C dX11_row_57 ?_
      obtain ⟨v14, ev14, h⟩ := bnd_x h
      refine j_istore C [(4, .int v14), (0, .ref (ad G (11, 0, 0, 0))), (1, .int l1), (2, .int l2), (3, .int l3), (5, .int l5)] dX11_row_58 (Nat.le_of_ble_eq_true rfl) ev14 rfl ?_
      obtain ⟨v15, ev15, h⟩ := bnd_x h
      refine j_iinc C 5 [(5, .int v15), (4, .int v14), (0, .ref (ad G (11, 0, 0, 0))), (1, .int l1), (2, .int l2), (3, .int l3)] dX11_row_60 rfl (Nat.le_of_ble_eq_true rfl) (ev15.trans (congrArg (l5 + ·) (by decide))) rfl ?_
      refine j_goto C 41 dX11_row_63 (by decide) ?_
      refine j_sub [2, 3, 4, 5, 1, 0] [(0, .ref (ad G (11, 0, 0, 0))), (1, .int l1), (2, .int l2), (3, .int l3), (4, .int v14), (5, .int v15)] rfl ?_
      exact ih l1 l2 l3 v14 v15 D h
def F_X11_row_b117 (a1 : Int32) (a2 : Int32) (a3 : Int32) (k76 : Int32 → Int32 → Int32 → Int32 → Int32 → Int32 → Dt → Option (Int32 × Dt)) (l1 : Int32) (l2 : Int32) (l3 : Int32) (l4 : Int32) (l5 : Int32) (l6 : Int32) (D : Dt) : Option (Int32 × Dt) := (bnd (l6 + (1 : Int32)) (fun v28 => (k76 l1 l2 l3 l4 l5 v28 D)))
set_option maxRecDepth 100000 in
set_option maxHeartbeats 4000000 in
theorem T_X11_row_b117 {r : Int32} {D' : Dt} {X : Ctx} {l : Launch} {G : Gt} {A : Nat → Prop} {lv : Nat} {a1 : Int32} {a2 : Int32} {a3 : Int32}  {k76 : Int32 → Int32 → Int32 → Int32 → Int32 → Int32 → Dt → Option (Int32 × Dt)} (hG : Gok G A) (hlv : 10 ≤ lv)   (C : Cx X cX11_row RX11 G l A lv 8 (some .int) (some (.int r)) D') (hk76 : ∀ (l1 : Int32) (l2 : Int32) (l3 : Int32) (l4 : Int32) (l5 : Int32) (l6 : Int32) (D : Dt), k76 l1 l2 l3 l4 l5 l6 D = some (r, D') → J X (Rep G D) 76 [(0, .ref (ad G (11, 0, 0, 0))), (1, .int l1), (2, .int l2), (3, .int l3), (4, .int l4), (5, .int l5), (6, .int l6)] []) : ∀ (l1 : Int32) (l2 : Int32) (l3 : Int32) (l4 : Int32) (l5 : Int32) (l6 : Int32) (D : Dt), F_X11_row_b117 a1 a2 a3 k76 l1 l2 l3 l4 l5 l6 D = some (r, D') → J X (Rep G D) 117 [(0, .ref (ad G (11, 0, 0, 0))), (1, .int l1), (2, .int l2), (3, .int l3), (4, .int l4), (5, .int l5), (6, .int l6)] [] := by
  intro l1 l2 l3 l4 l5 l6 D h
  unfold F_X11_row_b117 at h
  obtain ⟨v28, ev28, h⟩ := bnd_x h
  refine j_iinc C 6 [(6, .int v28), (0, .ref (ad G (11, 0, 0, 0))), (1, .int l1), (2, .int l2), (3, .int l3), (4, .int l4), (5, .int l5)] dX11_row_117 rfl (Nat.le_of_ble_eq_true rfl) (ev28.trans (congrArg (l6 + ·) (by decide))) rfl ?_
  refine j_goto C 76 dX11_row_120 (by decide) ?_
  refine j_sub [1, 2, 3, 4, 5, 6, 0] [(0, .ref (ad G (11, 0, 0, 0))), (1, .int l1), (2, .int l2), (3, .int l3), (4, .int l4), (5, .int l5), (6, .int v28)] rfl ?_
  exact hk76 l1 l2 l3 l4 l5 v28 D h
def F_X11_row_b76 (a1 : Int32) (a2 : Int32) (a3 : Int32) (k123 : Int32 → Int32 → Int32 → Dt → Option (Int32 × Dt)) : Nat → Int32 → Int32 → Int32 → Int32 → Int32 → Int32 → Dt → Option (Int32 × Dt)
  | 0, _, _, _, _, _, _, _ => none
  | f + 1, l1, l2, l3, l4, l5, l6, D => (if l4 ≤ l6 then (k123 l2 l3 l5 D) else (cbd (F_X11_barnByRow l1 l2 l6 l4 D) (fun r25 D26 => (if r25 ≤ l5 then (F_X11_row_b117 a1 a2 a3 (fun l1_29 l2_30 l3_31 l4_32 l5_33 l6_34 D35 => (F_X11_row_b76 a1 a2 a3 k123 f l1_29 l2_30 l3_31 l4_32 l5_33 l6_34 D35)) l1 l2 l3 l4 l5 l6 D26) else (vbd (F_X11_copies (11, 0, 50, 0) (11, 0, 51, 0) D26) (fun D37 => (F_X11_row_b117 a1 a2 a3 (fun l1_38 l2_39 l3_40 l4_41 l5_42 l6_43 D44 => (F_X11_row_b76 a1 a2 a3 k123 f l1_38 l2_39 l3_40 l4_41 l5_42 l6_43 D44)) l1 l2 l3 l4 r25 l6 D37)))))))
set_option maxRecDepth 100000 in
set_option maxHeartbeats 4000000 in
theorem T_X11_row_b76 {r : Int32} {D' : Dt} {X : Ctx} {l : Launch} {G : Gt} {A : Nat → Prop} {lv : Nat} {a1 : Int32} {a2 : Int32} {a3 : Int32}  {k123 : Int32 → Int32 → Int32 → Dt → Option (Int32 × Dt)} (hG : Gok G A) (hlv : 10 ≤ lv)   (C : Cx X cX11_row RX11 G l A lv 8 (some .int) (some (.int r)) D') (hk123 : ∀ (l2 : Int32) (l3 : Int32) (l5 : Int32) (D : Dt), k123 l2 l3 l5 D = some (r, D') → J X (Rep G D) 123 [(0, .ref (ad G (11, 0, 0, 0))), (2, .int l2), (3, .int l3), (5, .int l5)] []) : ∀ (f : Nat) (l1 : Int32) (l2 : Int32) (l3 : Int32) (l4 : Int32) (l5 : Int32) (l6 : Int32) (D : Dt), F_X11_row_b76 a1 a2 a3 k123 f l1 l2 l3 l4 l5 l6 D = some (r, D') → J X (Rep G D) 76 [(0, .ref (ad G (11, 0, 0, 0))), (1, .int l1), (2, .int l2), (3, .int l3), (4, .int l4), (5, .int l5), (6, .int l6)] [] := by
  intro f
  induction f with
  | zero =>
    intro l1 l2 l3 l4 l5 l6 D h
    exact nomatch h
  | succ f ih =>
    intro l1 l2 l3 l4 l5 l6 D h
    rw [F_X11_row_b76] at h
    refine j_iload C 6 dX11_row_76 rfl ?_
    refine j_iload C 4 dX11_row_78 rfl ?_
    refine j_icmp_ge C 123 dX11_row_80 (by decide) (fun c23 => ?_) (fun c23 => ?_)
    · have h := ite_t c23 h
      refine j_sub [0, 2, 3, 5] [(0, .ref (ad G (11, 0, 0, 0))), (2, .int l2), (3, .int l3), (5, .int l5)] rfl ?_
      exact hk123 l2 l3 l5 D h
    · have h := ite_f c23 h
      refine j_aload_n C 0 dX11_row_83 rfl rfl ?_
      refine j_iload_n C 1 dX11_row_84 rfl rfl ?_
      refine j_iload_n C 2 dX11_row_85 rfl rfl ?_
      refine j_iload C 6 dX11_row_86 rfl ?_
      refine j_iload C 4 dX11_row_88 rfl ?_
      obtain ⟨r25, D26, h24, h⟩ := cbd_x h
      refine j_callV C [.int l1, .int l2, .int l6, .int l4] [] cl_X11_437 (M_X11_barnByRow (lv := lv - 1) hG (by omega) h24) (by omega) dX11_row_90 (by decide) ⟨rfl, rfl⟩ rfl rfl (Nat.le_of_ble_eq_true rfl) ?_
      refine j_st (st' := [.int r25]) rfl ?_
      refine j_istore C [(7, .int r25), (0, .ref (ad G (11, 0, 0, 0))), (1, .int l1), (2, .int l2), (3, .int l3), (4, .int l4), (5, .int l5), (6, .int l6)] dX11_row_93 (Nat.le_of_ble_eq_true rfl) rfl rfl ?_
      refine j_iload C 0 dX11_row_95 rfl ?_
      refine j_iload C 6 dX11_row_97 rfl ?_
      refine j_icmp_le C 117 dX11_row_99 (by decide) (fun c27 => ?_) (fun c27 => ?_)
      · have h := ite_t c27 h
        refine j_sub [1, 2, 3, 4, 5, 6, 7] [(0, .ref (ad G (11, 0, 0, 0))), (1, .int l1), (2, .int l2), (3, .int l3), (4, .int l4), (5, .int l5), (6, .int l6)] rfl ?_
        refine T_X11_row_b117 hG hlv  C (fun l1_29 l2_30 l3_31 l4_32 l5_33 l6_34 D35 h => ?_) l1 l2 l3 l4 l5 l6 D26 h
        · exact ih l1_29 l2_30 l3_31 l4_32 l5_33 l6_34 D35 h
      · have h := ite_f c27 h
        refine j_iload C 0 dX11_row_102 rfl ?_
        refine j_istore C [(5, .int r25), (7, .int r25), (0, .ref (ad G (11, 0, 0, 0))), (1, .int l1), (2, .int l2), (3, .int l3), (4, .int l4), (6, .int l6)] dX11_row_104 (Nat.le_of_ble_eq_true rfl) rfl rfl ?_
        refine j_aload_n C 2 dX11_row_106 rfl rfl ?_
        refine j_getS C (11, 0, 50, 0) fl_X11_109 dX11_row_107 (by decide) ⟨rfl, rfl⟩ rfl rfl ?_
        refine j_aload_n C 2 dX11_row_110 rfl rfl ?_
        refine j_getS C (11, 0, 51, 0) fl_X11_112 dX11_row_111 (by decide) ⟨rfl, rfl⟩ rfl rfl ?_
        obtain ⟨D37, h36, h⟩ := vbd_x h
        refine j_callS C [.ref (ad G (11, 0, 50, 0)), .ref (ad G (11, 0, 51, 0))] [] cl_X11_288 (M_X11_copies (lv := lv - 1) hG (by omega) h36) (by omega) dX11_row_114 rfl rfl (Nat.le_of_ble_eq_true rfl) ?_
        refine j_st (st' := []) rfl ?_
        refine j_sub [2, 3, 4, 5, 6, 0, 7] [(0, .ref (ad G (11, 0, 0, 0))), (1, .int l1), (2, .int l2), (3, .int l3), (4, .int l4), (5, .int r25), (6, .int l6)] rfl ?_
        refine T_X11_row_b117 hG hlv  C (fun l1_38 l2_39 l3_40 l4_41 l5_42 l6_43 D44 h => ?_) l1 l2 l3 l4 r25 l6 D37 h
        · exact ih l1_38 l2_39 l3_40 l4_41 l5_42 l6_43 D44 h
def F_X11_row (a1 : Int32) (a2 : Int32) (a3 : Int32) (D : Dt) : Option (Int32 × Dt) := (cbd (F_X11_isLand a1 D) (fun r2 D3 => (if r2 = 0 then (some ((-3 : Int32), D3)) else (cbd (F_X11_in a2.toInt64 (1 : Int64) (4 : Int64) D3) (fun r6 D7 => (if r6 = 0 then (some ((-3 : Int32), D7)) else (cbd (F_X11_in a3.toInt64 (0 : Int64) (4 : Int64) D7) (fun r10 D11 => (if r10 = 0 then (some ((-3 : Int32), D11)) else (F_X11_row_b41 a1 a2 a3 (fun l1_16 l2_17 l3_18 l4_19 D20 => (vbd (F_X11_keepsAll  D20) (fun D22 => (F_X11_row_b76 a1 a2 a3 (fun l2_45 l3_46 l5_47 D48 => (if l3_46 = 0 then (some (l5_47, D48)) else (if l2_45 < l3_46 then (some ((-2 : Int32), D48)) else (grd (inB (l3_46 - (1 : Int32)) 4 = true) (some ((D48.1 (11, 0, 51, 0) ((l3_46 - (1 : Int32)).toNatClampNeg)), D48)))))) 2000 l1_16 l2_17 l3_18 l4_19 (-1 : Int32) (0 : Int32) D22)))) 2000 a1 a2 a3 (1 : Int32) (0 : Int32) D11))))))))))
set_option maxRecDepth 100000 in
set_option maxHeartbeats 4000000 in
theorem M_X11_row {l : Launch} {G : Gt} {A : Nat → Prop} {lv : Nat} {a1 : Int32} {a2 : Int32} {a3 : Int32} {D : Dt} {r : Int32} {D' : Dt} (hG : Gok G A) (hlv : 10 ≤ lv)  (h : F_X11_row a1 a2 a3 D = some (r, D')) : MD l G A lv yX11_row cX11_row 8 (some .int) [.ref (ad G (11, 0, 0, 0)), .int a1, .int a2, .int a3] D (some (.int r)) D' := by
  unfold F_X11_row at h
  refine md_start RX11 hG (by decide +kernel) rfl (Nat.le_of_ble_eq_true rfl) (L := [(0, .ref (ad G (11, 0, 0, 0))), (1, .int a1), (2, .int a2), (3, .int a3)]) rfl (fun X C => ?_)
  refine j_aload_n C 0 dX11_row_0 rfl rfl ?_
  refine j_iload_n C 1 dX11_row_1 rfl rfl ?_
  obtain ⟨r2, D3, h1, h⟩ := cbd_x h
  refine j_callV C [.int a1] [] cl_X11_340 (M_X11_isLand (lv := lv - 1) hG (by omega) h1) (by omega) dX11_row_2 (by decide) ⟨rfl, rfl⟩ rfl rfl (Nat.le_of_ble_eq_true rfl) ?_
  refine j_st (st' := [.int r2]) rfl ?_
  refine j_if_eq C 32 dX11_row_5 (by decide) (fun c4 => ?_) (fun c4 => ?_)
  · have h := ite_t c4 h
    refine j_bipush C (-3 : Int32) (by decide) dX11_row_32 ?_
    obtain ⟨rfl, rfl⟩ := pr_x h
    exact j_iret C dX11_row_34
  · have h := ite_f c4 h
    refine j_iload_n C 2 dX11_row_8 rfl rfl ?_
    refine j_i2l C dX11_row_9 ?_
    refine j_lconst C (1 : Int64) (by decide) dX11_row_10 ?_
    refine j_ldc2 C (4 : Int64) kc_X11_435 dX11_row_11 ?_
    obtain ⟨r6, D7, h5, h⟩ := cbd_x h
    refine j_callS C [.long a2.toInt64, .long (1 : Int64), .long (4 : Int64)] [] cl_X11_134 (M_X11_in (lv := lv - 1) hG (by omega) h5) (by omega) dX11_row_14 rfl rfl (Nat.le_of_ble_eq_true rfl) ?_
    refine j_st (st' := [.int r6]) rfl ?_
    refine j_if_eq C 32 dX11_row_17 (by decide) (fun c8 => ?_) (fun c8 => ?_)
    · have h := ite_t c8 h
      refine j_bipush C (-3 : Int32) (by decide) dX11_row_32 ?_
      obtain ⟨rfl, rfl⟩ := pr_x h
      exact j_iret C dX11_row_34
    · have h := ite_f c8 h
      refine j_iload_n C 3 dX11_row_20 rfl rfl ?_
      refine j_i2l C dX11_row_21 ?_
      refine j_lconst C (0 : Int64) (by decide) dX11_row_22 ?_
      refine j_ldc2 C (4 : Int64) kc_X11_435 dX11_row_23 ?_
      obtain ⟨r10, D11, h9, h⟩ := cbd_x h
      refine j_callS C [.long a3.toInt64, .long (0 : Int64), .long (4 : Int64)] [] cl_X11_134 (M_X11_in (lv := lv - 1) hG (by omega) h9) (by omega) dX11_row_26 rfl rfl (Nat.le_of_ble_eq_true rfl) ?_
      refine j_st (st' := [.int r10]) rfl ?_
      refine j_if_ne C 35 dX11_row_29 (by decide) (fun c12 => ?_) (fun c12 => ?_)
      · have h := ite_f c12 h
        refine j_iconst C (1 : Int32) (by decide) dX11_row_35 ?_
        refine j_istore C [(4, .int (1 : Int32)), (0, .ref (ad G (11, 0, 0, 0))), (1, .int a1), (2, .int a2), (3, .int a3)] dX11_row_36 (Nat.le_of_ble_eq_true rfl) rfl rfl ?_
        refine j_iconst C (0 : Int32) (by decide) dX11_row_38 ?_
        refine j_istore C [(5, .int (0 : Int32)), (4, .int (1 : Int32)), (0, .ref (ad G (11, 0, 0, 0))), (1, .int a1), (2, .int a2), (3, .int a3)] dX11_row_39 (Nat.le_of_ble_eq_true rfl) rfl rfl ?_
        refine j_sub [2, 3, 4, 5, 1, 0] [(0, .ref (ad G (11, 0, 0, 0))), (1, .int a1), (2, .int a2), (3, .int a3), (4, .int (1 : Int32)), (5, .int (0 : Int32))] rfl ?_
        refine T_X11_row_b41 hG hlv  C (fun l1_16 l2_17 l3_18 l4_19 D20 h => ?_) 2000 a1 a2 a3 (1 : Int32) (0 : Int32) D11 h
        · refine j_iconst C (-1 : Int32) (by decide) dX11_row_66 ?_
          refine j_istore C [(5, .int (-1 : Int32)), (0, .ref (ad G (11, 0, 0, 0))), (1, .int l1_16), (2, .int l2_17), (3, .int l3_18), (4, .int l4_19)] dX11_row_67 (Nat.le_of_ble_eq_true rfl) rfl rfl ?_
          refine j_aload_n C 1 dX11_row_69 rfl rfl ?_
          obtain ⟨D22, h21, h⟩ := vbd_x h
          refine j_callV C [] [] cl_X11_432 (M_X11_keepsAll (lv := lv - 1) hG (by omega) h21) (by omega) dX11_row_70 (by decide) ⟨rfl, rfl⟩ rfl rfl (Nat.le_of_ble_eq_true rfl) ?_
          refine j_st (st' := []) rfl ?_
          refine j_iconst C (0 : Int32) (by decide) dX11_row_73 ?_
          refine j_istore C [(6, .int (0 : Int32)), (5, .int (-1 : Int32)), (0, .ref (ad G (11, 0, 0, 0))), (1, .int l1_16), (2, .int l2_17), (3, .int l3_18), (4, .int l4_19)] dX11_row_74 (Nat.le_of_ble_eq_true rfl) rfl rfl ?_
          refine j_sub [2, 3, 4, 5, 6, 1, 0] [(0, .ref (ad G (11, 0, 0, 0))), (1, .int l1_16), (2, .int l2_17), (3, .int l3_18), (4, .int l4_19), (5, .int (-1 : Int32)), (6, .int (0 : Int32))] rfl ?_
          refine T_X11_row_b76 hG hlv  C (fun l2_45 l3_46 l5_47 D48 h => ?_) 2000 l1_16 l2_17 l3_18 l4_19 (-1 : Int32) (0 : Int32) D22 h
          · refine j_iload_n C 2 dX11_row_123 rfl rfl ?_
            refine j_if_ne C 132 dX11_row_124 (by decide) (fun c49 => ?_) (fun c49 => ?_)
            · have h := ite_f c49 h
              refine j_iload_n C 2 dX11_row_132 rfl rfl ?_
              refine j_iload_n C 1 dX11_row_133 rfl rfl ?_
              refine j_icmp_gt C 148 dX11_row_134 (by decide) (fun c50 => ?_) (fun c50 => ?_)
              · have h := ite_t c50 h
                refine j_bipush C (-2 : Int32) (by decide) dX11_row_148 ?_
                obtain ⟨rfl, rfl⟩ := pr_x h
                exact j_iret C dX11_row_150
              · have h := ite_f c50 h
                refine j_aload_n C 0 dX11_row_137 rfl rfl ?_
                refine j_getS C (11, 0, 51, 0) fl_X11_112 dX11_row_138 (by decide) ⟨rfl, rfl⟩ rfl rfl ?_
                refine j_iload_n C 2 dX11_row_141 rfl rfl ?_
                refine j_iconst C (1 : Int32) (by decide) dX11_row_142 ?_
                refine j_isub C dX11_row_143 ?_
                obtain ⟨g51, h⟩ := grd_x h
                refine j_ialdK C 4 ((l3_46 - (1 : Int32)).toNatClampNeg) dX11_row_144 (V_f 50 (by decide) (by decide)) rfl g51 rfl ?_
                refine j_goto C 150 dX11_row_145 (by decide) ?_
                obtain ⟨rfl, rfl⟩ := pr_x h
                exact j_iret C dX11_row_150
            · have h := ite_t c49 h
              refine j_iload C 3 dX11_row_127 rfl ?_
              refine j_goto C 150 dX11_row_129 (by decide) ?_
              obtain ⟨rfl, rfl⟩ := pr_x h
              exact j_iret C dX11_row_150
      · have h := ite_t c12 h
        refine j_bipush C (-3 : Int32) (by decide) dX11_row_32 ?_
        obtain ⟨rfl, rfl⟩ := pr_x h
        exact j_iret C dX11_row_34
def F_X11_best_b79 (a1 : Int32) (a2 : Int32) (k43 : Int32 → Int32 → Int32 → Int32 → Int32 → Dt → Option (Int32 × Dt)) (l1 : Int32) (l2 : Int32) (l3 : Int32) (l4 : Int32) (l5 : Int32) (D : Dt) : Option (Int32 × Dt) := (bnd (l5 + (1 : Int32)) (fun v21 => (k43 l1 l2 l3 l4 v21 D)))
set_option maxRecDepth 100000 in
set_option maxHeartbeats 4000000 in
theorem T_X11_best_b79 {r : Int32} {D' : Dt} {X : Ctx} {l : Launch} {G : Gt} {A : Nat → Prop} {lv : Nat} {a1 : Int32} {a2 : Int32}  {k43 : Int32 → Int32 → Int32 → Int32 → Int32 → Dt → Option (Int32 × Dt)} (hG : Gok G A) (hlv : 11 ≤ lv)   (C : Cx X cX11_best RX11 G l A lv 7 (some .int) (some (.int r)) D') (hk43 : ∀ (l1 : Int32) (l2 : Int32) (l3 : Int32) (l4 : Int32) (l5 : Int32) (D : Dt), k43 l1 l2 l3 l4 l5 D = some (r, D') → J X (Rep G D) 43 [(0, .ref (ad G (11, 0, 0, 0))), (1, .int l1), (2, .int l2), (3, .int l3), (4, .int l4), (5, .int l5)] []) : ∀ (l1 : Int32) (l2 : Int32) (l3 : Int32) (l4 : Int32) (l5 : Int32) (D : Dt), F_X11_best_b79 a1 a2 k43 l1 l2 l3 l4 l5 D = some (r, D') → J X (Rep G D) 79 [(0, .ref (ad G (11, 0, 0, 0))), (1, .int l1), (2, .int l2), (3, .int l3), (4, .int l4), (5, .int l5)] [] := by
  intro l1 l2 l3 l4 l5 D h
  unfold F_X11_best_b79 at h
  obtain ⟨v21, ev21, h⟩ := bnd_x h
  refine j_iinc C 5 [(5, .int v21), (0, .ref (ad G (11, 0, 0, 0))), (1, .int l1), (2, .int l2), (3, .int l3), (4, .int l4)] dX11_best_79 rfl (Nat.le_of_ble_eq_true rfl) (ev21.trans (congrArg (l5 + ·) (by decide))) rfl ?_
  refine j_goto C 43 dX11_best_82 (by decide) ?_
  refine j_sub [1, 2, 3, 4, 5, 0] [(0, .ref (ad G (11, 0, 0, 0))), (1, .int l1), (2, .int l2), (3, .int l3), (4, .int l4), (5, .int v21)] rfl ?_
  exact hk43 l1 l2 l3 l4 v21 D h
def F_X11_best_b43 (a1 : Int32) (a2 : Int32) (k85 : Int32 → Int32 → Int32 → Dt → Option (Int32 × Dt)) : Nat → Int32 → Int32 → Int32 → Int32 → Int32 → Dt → Option (Int32 × Dt)
  | 0, _, _, _, _, _, _ => none
  | f + 1, l1, l2, l3, l4, l5, D => (if (9 : Int32) < l5 then (k85 l2 l3 l4 D) else (bnd (setI D (11, 0, 2, 0) 3 l5) (fun D16 => (cbd (F_X11_barnsIn l1 D16) (fun r18 D19 => (if r18 ≤ l4 then (F_X11_best_b79 a1 a2 (fun l1_22 l2_23 l3_24 l4_25 l5_26 D27 => (F_X11_best_b43 a1 a2 k85 f l1_22 l2_23 l3_24 l4_25 l5_26 D27)) l1 l2 l3 l4 l5 D19) else (F_X11_best_b79 a1 a2 (fun l1_28 l2_29 l3_30 l4_31 l5_32 D33 => (F_X11_best_b43 a1 a2 k85 f l1_28 l2_29 l3_30 l4_31 l5_32 D33)) l1 l2 l5 r18 l5 D19)))))))
set_option maxRecDepth 100000 in
set_option maxHeartbeats 4000000 in
theorem T_X11_best_b43 {r : Int32} {D' : Dt} {X : Ctx} {l : Launch} {G : Gt} {A : Nat → Prop} {lv : Nat} {a1 : Int32} {a2 : Int32}  {k85 : Int32 → Int32 → Int32 → Dt → Option (Int32 × Dt)} (hG : Gok G A) (hlv : 11 ≤ lv)   (C : Cx X cX11_best RX11 G l A lv 7 (some .int) (some (.int r)) D') (hk85 : ∀ (l2 : Int32) (l3 : Int32) (l4 : Int32) (D : Dt), k85 l2 l3 l4 D = some (r, D') → J X (Rep G D) 85 [(2, .int l2), (3, .int l3), (4, .int l4)] []) : ∀ (f : Nat) (l1 : Int32) (l2 : Int32) (l3 : Int32) (l4 : Int32) (l5 : Int32) (D : Dt), F_X11_best_b43 a1 a2 k85 f l1 l2 l3 l4 l5 D = some (r, D') → J X (Rep G D) 43 [(0, .ref (ad G (11, 0, 0, 0))), (1, .int l1), (2, .int l2), (3, .int l3), (4, .int l4), (5, .int l5)] [] := by
  intro f
  induction f with
  | zero =>
    intro l1 l2 l3 l4 l5 D h
    exact nomatch h
  | succ f ih =>
    intro l1 l2 l3 l4 l5 D h
    rw [F_X11_best_b43] at h
    refine j_iload C 5 dX11_best_43 rfl ?_
    refine j_bipush C (9 : Int32) (by decide) dX11_best_45 ?_
    refine j_icmp_gt C 85 dX11_best_47 (by decide) (fun c15 => ?_) (fun c15 => ?_)
    · have h := ite_t c15 h
      refine j_sub [2, 3, 4] [(2, .int l2), (3, .int l3), (4, .int l4)] rfl ?_
      exact hk85 l2 l3 l4 D h
    · have h := ite_f c15 h
      refine j_aload_n C 0 dX11_best_50 rfl rfl ?_
      refine j_getS C (11, 0, 2, 0) fl_X11_9 dX11_best_51 (by decide) ⟨rfl, rfl⟩ rfl rfl ?_
      refine j_iconst C (3 : Int32) (by decide) dX11_best_54 ?_
      refine j_iload C 5 dX11_best_55 rfl ?_
      obtain ⟨D16, eD16, h⟩ := bnd_x h
      refine j_iastK C 9 3 dX11_best_57 (V_f 1 (by decide) (by decide)) rfl (by decide) (by decide) ?_
      refine j_rep eD16 ?_
      refine j_aload_n C 0 dX11_best_58 rfl rfl ?_
      refine j_iload_n C 1 dX11_best_59 rfl rfl ?_
      obtain ⟨r18, D19, h17, h⟩ := cbd_x h
      refine j_callV C [.int l1] [] cl_X11_441 (M_X11_barnsIn (lv := lv - 1) hG (by omega) h17) (by omega) dX11_best_60 (by decide) ⟨rfl, rfl⟩ rfl rfl (Nat.le_of_ble_eq_true rfl) ?_
      refine j_st (st' := [.int r18]) rfl ?_
      refine j_istore C [(6, .int r18), (0, .ref (ad G (11, 0, 0, 0))), (1, .int l1), (2, .int l2), (3, .int l3), (4, .int l4), (5, .int l5)] dX11_best_63 (Nat.le_of_ble_eq_true rfl) rfl rfl ?_
      refine j_iload C 0 dX11_best_65 rfl ?_
      refine j_iload C 5 dX11_best_67 rfl ?_
      refine j_icmp_le C 79 dX11_best_69 (by decide) (fun c20 => ?_) (fun c20 => ?_)
      · have h := ite_t c20 h
        refine j_sub [1, 2, 3, 4, 5, 6] [(0, .ref (ad G (11, 0, 0, 0))), (1, .int l1), (2, .int l2), (3, .int l3), (4, .int l4), (5, .int l5)] rfl ?_
        refine T_X11_best_b79 hG hlv  C (fun l1_22 l2_23 l3_24 l4_25 l5_26 D27 h => ?_) l1 l2 l3 l4 l5 D19 h
        · exact ih l1_22 l2_23 l3_24 l4_25 l5_26 D27 h
      · have h := ite_f c20 h
        refine j_iload C 6 dX11_best_72 rfl ?_
        refine j_istore_n C [(3, .int l5), (6, .int r18), (0, .ref (ad G (11, 0, 0, 0))), (1, .int l1), (2, .int l2), (4, .int l4), (5, .int l5)] dX11_best_74 rfl (Nat.le_of_ble_eq_true rfl) rfl rfl ?_
        refine j_iload C 1 dX11_best_75 rfl ?_
        refine j_istore C [(4, .int r18), (3, .int l5), (6, .int r18), (0, .ref (ad G (11, 0, 0, 0))), (1, .int l1), (2, .int l2), (5, .int l5)] dX11_best_77 (Nat.le_of_ble_eq_true rfl) rfl rfl ?_
        refine j_sub [3, 4, 5, 1, 0, 6] [(0, .ref (ad G (11, 0, 0, 0))), (1, .int l1), (2, .int l2), (3, .int l5), (4, .int r18), (5, .int l5)] rfl ?_
        refine T_X11_best_b79 hG hlv  C (fun l1_28 l2_29 l3_30 l4_31 l5_32 D33 h => ?_) l1 l2 l5 r18 l5 D19 h
        · exact ih l1_28 l2_29 l3_30 l4_31 l5_32 D33 h
def F_X11_best (a1 : Int32) (a2 : Int32) (D : Dt) : Option (Int32 × Dt) := (cbd (F_X11_isTable  D) (fun r2 D3 => (if r2 = 0 then (some ((-1 : Int32), D3)) else (cbd (F_X11_in a1.toInt64 (1 : Int64) (60 : Int64) D3) (fun r6 D7 => (if r6 = 0 then (some ((-1 : Int32), D7)) else (cbd (F_X11_in a2.toInt64 (0 : Int64) (1 : Int64) D7) (fun r10 D11 => (if r10 = 0 then (some ((-1 : Int32), D11)) else (vbd (F_X11_keepsAll  D11) (fun D14 => (F_X11_best_b43 a1 a2 (fun l2_34 l3_35 l4_36 D37 => (if l2_34 = 0 then (some (l3_35, D37)) else (some (l4_36, D37)))) 2000 a1 a2 (-1 : Int32) (-1 : Int32) (1 : Int32) D14))))))))))))
set_option maxRecDepth 100000 in
set_option maxHeartbeats 4000000 in
theorem M_X11_best {l : Launch} {G : Gt} {A : Nat → Prop} {lv : Nat} {a1 : Int32} {a2 : Int32} {D : Dt} {r : Int32} {D' : Dt} (hG : Gok G A) (hlv : 11 ≤ lv)  (h : F_X11_best a1 a2 D = some (r, D')) : MD l G A lv yX11_best cX11_best 7 (some .int) [.ref (ad G (11, 0, 0, 0)), .int a1, .int a2] D (some (.int r)) D' := by
  unfold F_X11_best at h
  refine md_start RX11 hG (by decide +kernel) rfl (Nat.le_of_ble_eq_true rfl) (L := [(0, .ref (ad G (11, 0, 0, 0))), (1, .int a1), (2, .int a2)]) rfl (fun X C => ?_)
  refine j_aload_n C 0 dX11_best_0 rfl rfl ?_
  obtain ⟨r2, D3, h1, h⟩ := cbd_x h
  refine j_callV C [] [] cl_X11_405 (M_X11_isTable (lv := lv - 1) hG (by omega) h1) (by omega) dX11_best_1 (by decide) ⟨rfl, rfl⟩ rfl rfl (Nat.le_of_ble_eq_true rfl) ?_
  refine j_st (st' := [.int r2]) rfl ?_
  refine j_if_eq C 29 dX11_best_4 (by decide) (fun c4 => ?_) (fun c4 => ?_)
  · have h := ite_t c4 h
    refine j_iconst C (-1 : Int32) (by decide) dX11_best_29 ?_
    obtain ⟨rfl, rfl⟩ := pr_x h
    exact j_iret C dX11_best_30
  · have h := ite_f c4 h
    refine j_iload_n C 1 dX11_best_7 rfl rfl ?_
    refine j_i2l C dX11_best_8 ?_
    refine j_lconst C (1 : Int64) (by decide) dX11_best_9 ?_
    refine j_ldc2 C (60 : Int64) kc_X11_347 dX11_best_10 ?_
    obtain ⟨r6, D7, h5, h⟩ := cbd_x h
    refine j_callS C [.long a1.toInt64, .long (1 : Int64), .long (60 : Int64)] [] cl_X11_134 (M_X11_in (lv := lv - 1) hG (by omega) h5) (by omega) dX11_best_13 rfl rfl (Nat.le_of_ble_eq_true rfl) ?_
    refine j_st (st' := [.int r6]) rfl ?_
    refine j_if_eq C 29 dX11_best_16 (by decide) (fun c8 => ?_) (fun c8 => ?_)
    · have h := ite_t c8 h
      refine j_iconst C (-1 : Int32) (by decide) dX11_best_29 ?_
      obtain ⟨rfl, rfl⟩ := pr_x h
      exact j_iret C dX11_best_30
    · have h := ite_f c8 h
      refine j_iload_n C 2 dX11_best_19 rfl rfl ?_
      refine j_i2l C dX11_best_20 ?_
      refine j_lconst C (0 : Int64) (by decide) dX11_best_21 ?_
      refine j_lconst C (1 : Int64) (by decide) dX11_best_22 ?_
      obtain ⟨r10, D11, h9, h⟩ := cbd_x h
      refine j_callS C [.long a2.toInt64, .long (0 : Int64), .long (1 : Int64)] [] cl_X11_134 (M_X11_in (lv := lv - 1) hG (by omega) h9) (by omega) dX11_best_23 rfl rfl (Nat.le_of_ble_eq_true rfl) ?_
      refine j_st (st' := [.int r10]) rfl ?_
      refine j_if_ne C 31 dX11_best_26 (by decide) (fun c12 => ?_) (fun c12 => ?_)
      · have h := ite_f c12 h
        refine j_iconst C (-1 : Int32) (by decide) dX11_best_31 ?_
        refine j_istore_n C [(3, .int (-1 : Int32)), (0, .ref (ad G (11, 0, 0, 0))), (1, .int a1), (2, .int a2)] dX11_best_32 rfl (Nat.le_of_ble_eq_true rfl) rfl rfl ?_
        refine j_iconst C (-1 : Int32) (by decide) dX11_best_33 ?_
        refine j_istore C [(4, .int (-1 : Int32)), (3, .int (-1 : Int32)), (0, .ref (ad G (11, 0, 0, 0))), (1, .int a1), (2, .int a2)] dX11_best_34 (Nat.le_of_ble_eq_true rfl) rfl rfl ?_
        refine j_aload_n C 2 dX11_best_36 rfl rfl ?_
        obtain ⟨D14, h13, h⟩ := vbd_x h
        refine j_callV C [] [] cl_X11_432 (M_X11_keepsAll (lv := lv - 1) hG (by omega) h13) (by omega) dX11_best_37 (by decide) ⟨rfl, rfl⟩ rfl rfl (Nat.le_of_ble_eq_true rfl) ?_
        refine j_st (st' := []) rfl ?_
        refine j_iconst C (1 : Int32) (by decide) dX11_best_40 ?_
        refine j_istore C [(5, .int (1 : Int32)), (4, .int (-1 : Int32)), (3, .int (-1 : Int32)), (0, .ref (ad G (11, 0, 0, 0))), (1, .int a1), (2, .int a2)] dX11_best_41 (Nat.le_of_ble_eq_true rfl) rfl rfl ?_
        refine j_sub [3, 4, 5, 2, 1, 0] [(0, .ref (ad G (11, 0, 0, 0))), (1, .int a1), (2, .int a2), (3, .int (-1 : Int32)), (4, .int (-1 : Int32)), (5, .int (1 : Int32))] rfl ?_
        refine T_X11_best_b43 hG hlv  C (fun l2_34 l3_35 l4_36 D37 h => ?_) 2000 a1 a2 (-1 : Int32) (-1 : Int32) (1 : Int32) D14 h
        · refine j_iload_n C 0 dX11_best_85 rfl rfl ?_
          refine j_if_ne C 93 dX11_best_86 (by decide) (fun c38 => ?_) (fun c38 => ?_)
          · have h := ite_f c38 h
            refine j_iload C 2 dX11_best_93 rfl ?_
            obtain ⟨rfl, rfl⟩ := pr_x h
            exact j_iret C dX11_best_95
          · have h := ite_t c38 h
            refine j_iload_n C 1 dX11_best_89 rfl rfl ?_
            refine j_goto C 95 dX11_best_90 (by decide) ?_
            obtain ⟨rfl, rfl⟩ := pr_x h
            exact j_iret C dX11_best_95
      · have h := ite_t c12 h
        refine j_iconst C (-1 : Int32) (by decide) dX11_best_29 ?_
        obtain ⟨rfl, rfl⟩ := pr_x h
        exact j_iret C dX11_best_30
def F_X11_quiet_b72  (k28 : Int32 → Int32 → Int32 → Int32 → Dt → Option (Int32 × Dt)) (l1 : Int32) (l2 : Int32) (l4 : Int32) (s0 : Int32) (D : Dt) : Option (Int32 × Dt) := (bnd (l4 + (1 : Int32)) (fun v15 => (k28 l1 l2 s0 v15 D)))
set_option maxRecDepth 100000 in
set_option maxHeartbeats 4000000 in
theorem T_X11_quiet_b72 {r : Int32} {D' : Dt} {X : Ctx} {l : Launch} {G : Gt} {A : Nat → Prop} {lv : Nat}   {k28 : Int32 → Int32 → Int32 → Int32 → Dt → Option (Int32 × Dt)} (hG : Gok G A) (hlv : 9 ≤ lv)   (C : Cx X cX11_quiet RX11 G l A lv 5 (some .int) (some (.int r)) D') (hk28 : ∀ (l1 : Int32) (l2 : Int32) (l3 : Int32) (l4 : Int32) (D : Dt), k28 l1 l2 l3 l4 D = some (r, D') → J X (Rep G D) 28 [(0, .ref (ad G (11, 0, 0, 0))), (1, .int l1), (2, .int l2), (3, .int l3), (4, .int l4)] []) : ∀ (l1 : Int32) (l2 : Int32) (l4 : Int32) (s0 : Int32) (D : Dt), F_X11_quiet_b72 k28 l1 l2 l4 s0 D = some (r, D') → J X (Rep G D) 72 [(0, .ref (ad G (11, 0, 0, 0))), (1, .int l1), (2, .int l2), (4, .int l4)] [.int s0] := by
  intro l1 l2 l4 s0 D h
  unfold F_X11_quiet_b72 at h
  refine j_istore_n C [(3, .int s0), (0, .ref (ad G (11, 0, 0, 0))), (1, .int l1), (2, .int l2), (4, .int l4)] dX11_quiet_72 rfl (Nat.le_of_ble_eq_true rfl) rfl rfl ?_
  obtain ⟨v15, ev15, h⟩ := bnd_x h
  refine j_iinc C 4 [(4, .int v15), (3, .int s0), (0, .ref (ad G (11, 0, 0, 0))), (1, .int l1), (2, .int l2)] dX11_quiet_73 rfl (Nat.le_of_ble_eq_true rfl) (ev15.trans (congrArg (l4 + ·) (by decide))) rfl ?_
  refine j_goto C 28 dX11_quiet_76 (by decide) ?_
  refine j_sub [2, 3, 4, 1, 0] [(0, .ref (ad G (11, 0, 0, 0))), (1, .int l1), (2, .int l2), (3, .int s0), (4, .int v15)] rfl ?_
  exact hk28 l1 l2 s0 v15 D h
def F_X11_quiet_b55  (k28 : Int32 → Int32 → Int32 → Int32 → Dt → Option (Int32 × Dt)) (l1 : Int32) (l4 : Int32) (s0 : Int32) (D : Dt) : Option (Int32 × Dt) := (if s0 = (5 : Int32) then (F_X11_quiet_b72 (fun l1_21 l2_22 l3_23 l4_24 D25 => (k28 l1_21 l2_22 l3_23 l4_24 D25)) l1 s0 l4 ((l1 + l4) - (4 : Int32)) D) else (F_X11_quiet_b72 (fun l1_16 l2_17 l3_18 l4_19 D20 => (k28 l1_16 l2_17 l3_18 l4_19 D20)) l1 s0 l4 (-2 : Int32) D))
set_option maxRecDepth 100000 in
set_option maxHeartbeats 4000000 in
theorem T_X11_quiet_b55 {r : Int32} {D' : Dt} {X : Ctx} {l : Launch} {G : Gt} {A : Nat → Prop} {lv : Nat}   {k28 : Int32 → Int32 → Int32 → Int32 → Dt → Option (Int32 × Dt)} (hG : Gok G A) (hlv : 9 ≤ lv)   (C : Cx X cX11_quiet RX11 G l A lv 5 (some .int) (some (.int r)) D') (hk28 : ∀ (l1 : Int32) (l2 : Int32) (l3 : Int32) (l4 : Int32) (D : Dt), k28 l1 l2 l3 l4 D = some (r, D') → J X (Rep G D) 28 [(0, .ref (ad G (11, 0, 0, 0))), (1, .int l1), (2, .int l2), (3, .int l3), (4, .int l4)] []) : ∀ (l1 : Int32) (l4 : Int32) (s0 : Int32) (D : Dt), F_X11_quiet_b55 k28 l1 l4 s0 D = some (r, D') → J X (Rep G D) 55 [(0, .ref (ad G (11, 0, 0, 0))), (1, .int l1), (4, .int l4)] [.int s0] := by
  intro l1 l4 s0 D h
  unfold F_X11_quiet_b55 at h
  refine j_istore_n C [(2, .int s0), (0, .ref (ad G (11, 0, 0, 0))), (1, .int l1), (4, .int l4)] dX11_quiet_55 rfl (Nat.le_of_ble_eq_true rfl) rfl rfl ?_
  refine j_iload_n C 0 dX11_quiet_56 rfl rfl ?_
  refine j_iconst C (5 : Int32) (by decide) dX11_quiet_57 ?_
  refine j_icmp_ne C 70 dX11_quiet_58 (by decide) (fun c14 => ?_) (fun c14 => ?_)
  · have h := ite_f c14 h
    refine j_bipush C (-2 : Int32) (by decide) dX11_quiet_70 ?_
    refine j_sub [1, 2, 0, 3] [(0, .ref (ad G (11, 0, 0, 0))), (1, .int l1), (2, .int s0), (4, .int l4)] rfl ?_
    refine T_X11_quiet_b72 hG hlv  C (fun l1_16 l2_17 l3_18 l4_19 D20 h => ?_) l1 s0 l4 (-2 : Int32) D h
    · exact hk28 l1_16 l2_17 l3_18 l4_19 D20 h
  · have h := ite_t c14 h
    refine j_iload_n C 2 dX11_quiet_61 rfl rfl ?_
    refine j_iload C 3 dX11_quiet_62 rfl ?_
    refine j_iadd C dX11_quiet_64 ?_
    refine j_iconst C (4 : Int32) (by decide) dX11_quiet_65 ?_
    refine j_isub C dX11_quiet_66 ?_
    refine j_goto C 72 dX11_quiet_67 (by decide) ?_
    refine j_sub [1, 2, 0, 3] [(0, .ref (ad G (11, 0, 0, 0))), (1, .int l1), (2, .int s0), (4, .int l4)] rfl ?_
    refine T_X11_quiet_b72 hG hlv  C (fun l1_21 l2_22 l3_23 l4_24 D25 h => ?_) l1 s0 l4 ((l1 + l4) - (4 : Int32)) D h
    · exact hk28 l1_21 l2_22 l3_23 l4_24 D25 h
def F_X11_quiet_b28  (k79 : Int32 → Dt → Option (Int32 × Dt)) : Nat → Int32 → Int32 → Int32 → Int32 → Dt → Option (Int32 × Dt)
  | 0, _, _, _, _, _ => none
  | f + 1, l1, l2, l3, l4, D => (if (64 : Int32) ≤ l4 then (k79 l3 D) else (if l3 = (-2 : Int32) then (cbd (F_X11_goes  D) (fun r11 D12 => (if r11 = 0 then (F_X11_quiet_b55 (fun l1_31 l2_32 l3_33 l4_34 D35 => (F_X11_quiet_b28 k79 f l1_31 l2_32 l3_33 l4_34 D35)) l1 l4 (l2 + (1 : Int32)) D12) else (F_X11_quiet_b55 (fun l1_26 l2_27 l3_28 l4_29 D30 => (F_X11_quiet_b28 k79 f l1_26 l2_27 l3_28 l4_29 D30)) l1 l4 (0 : Int32) D12)))) else (k79 l3 D)))
set_option maxRecDepth 100000 in
set_option maxHeartbeats 4000000 in
theorem T_X11_quiet_b28 {r : Int32} {D' : Dt} {X : Ctx} {l : Launch} {G : Gt} {A : Nat → Prop} {lv : Nat}   {k79 : Int32 → Dt → Option (Int32 × Dt)} (hG : Gok G A) (hlv : 9 ≤ lv)   (C : Cx X cX11_quiet RX11 G l A lv 5 (some .int) (some (.int r)) D') (hk79 : ∀ (l3 : Int32) (D : Dt), k79 l3 D = some (r, D') → J X (Rep G D) 79 [(0, .ref (ad G (11, 0, 0, 0))), (3, .int l3)] []) : ∀ (f : Nat) (l1 : Int32) (l2 : Int32) (l3 : Int32) (l4 : Int32) (D : Dt), F_X11_quiet_b28 k79 f l1 l2 l3 l4 D = some (r, D') → J X (Rep G D) 28 [(0, .ref (ad G (11, 0, 0, 0))), (1, .int l1), (2, .int l2), (3, .int l3), (4, .int l4)] [] := by
  intro f
  induction f with
  | zero =>
    intro l1 l2 l3 l4 D h
    exact nomatch h
  | succ f ih =>
    intro l1 l2 l3 l4 D h
    rw [F_X11_quiet_b28] at h
    refine j_iload C 4 dX11_quiet_28 rfl ?_
    refine j_bipush C (64 : Int32) (by decide) dX11_quiet_30 ?_
    refine j_icmp_ge C 79 dX11_quiet_32 (by decide) (fun c8 => ?_) (fun c8 => ?_)
    · have h := ite_t c8 h
      refine j_sub [0, 3] [(0, .ref (ad G (11, 0, 0, 0))), (3, .int l3)] rfl ?_
      exact hk79 l3 D h
    · have h := ite_f c8 h
      refine j_iload_n C 3 dX11_quiet_35 rfl rfl ?_
      refine j_bipush C (-2 : Int32) (by decide) dX11_quiet_36 ?_
      refine j_icmp_ne C 79 dX11_quiet_38 (by decide) (fun c9 => ?_) (fun c9 => ?_)
      · have h := ite_f c9 h
        refine j_sub [0, 3] [(0, .ref (ad G (11, 0, 0, 0))), (3, .int l3)] rfl ?_
        exact hk79 l3 D h
      · have h := ite_t c9 h
        refine j_aload_n C 0 dX11_quiet_41 rfl rfl ?_
        obtain ⟨r11, D12, h10, h⟩ := cbd_x h
        refine j_callV C [] [] cl_X11_385 (M_X11_goes (lv := lv - 1) hG (by omega) h10) (by omega) dX11_quiet_42 (by decide) ⟨rfl, rfl⟩ rfl rfl (Nat.le_of_ble_eq_true rfl) ?_
        refine j_st (st' := [.int r11]) rfl ?_
        refine j_if_ne C 54 dX11_quiet_45 (by decide) (fun c13 => ?_) (fun c13 => ?_)
        · have h := ite_f c13 h
          refine j_iconst C (0 : Int32) (by decide) dX11_quiet_54 ?_
          refine j_sub [0, 1, 4] [(0, .ref (ad G (11, 0, 0, 0))), (1, .int l1), (4, .int l4)] rfl ?_
          refine T_X11_quiet_b55 hG hlv  C (fun l1_26 l2_27 l3_28 l4_29 D30 h => ?_) l1 l4 (0 : Int32) D12 h
          · exact ih l1_26 l2_27 l3_28 l4_29 D30 h
        · have h := ite_t c13 h
          refine j_iload_n C 2 dX11_quiet_48 rfl rfl ?_
          refine j_iconst C (1 : Int32) (by decide) dX11_quiet_49 ?_
          refine j_iadd C dX11_quiet_50 ?_
          refine j_goto C 55 dX11_quiet_51 (by decide) ?_
          refine j_sub [0, 1, 4] [(0, .ref (ad G (11, 0, 0, 0))), (1, .int l1), (4, .int l4)] rfl ?_
          refine T_X11_quiet_b55 hG hlv  C (fun l1_31 l2_32 l3_33 l4_34 D35 h => ?_) l1 l4 (l2 + (1 : Int32)) D12 h
          · exact ih l1_31 l2_32 l3_33 l4_34 D35 h
def F_X11_quiet  (D : Dt) : Option (Int32 × Dt) := (cbd (F_X11_isTable  D) (fun r2 D3 => (if r2 = 0 then (some ((-1 : Int32), D3)) else (bnd (D3.1 (11, 0, 2, 0) 4) (fun v5 => (vbd (F_X11_keepsAll  D3) (fun D7 => (F_X11_quiet_b28 (fun l3_36 D37 => (vbd (F_X11_laysBack  D37) (fun D39 => (some (l3_36, D39))))) 2000 v5 (0 : Int32) (-2 : Int32) (0 : Int32) D7))))))))
set_option maxRecDepth 100000 in
set_option maxHeartbeats 4000000 in
theorem M_X11_quiet {l : Launch} {G : Gt} {A : Nat → Prop} {lv : Nat}  {D : Dt} {r : Int32} {D' : Dt} (hG : Gok G A) (hlv : 9 ≤ lv)  (h : F_X11_quiet  D = some (r, D')) : MD l G A lv yX11_quiet cX11_quiet 5 (some .int) [.ref (ad G (11, 0, 0, 0))] D (some (.int r)) D' := by
  unfold F_X11_quiet at h
  refine md_start RX11 hG (by decide +kernel) rfl (Nat.le_of_ble_eq_true rfl) (L := [(0, .ref (ad G (11, 0, 0, 0)))]) rfl (fun X C => ?_)
  refine j_aload_n C 0 dX11_quiet_0 rfl rfl ?_
  obtain ⟨r2, D3, h1, h⟩ := cbd_x h
  refine j_callV C [] [] cl_X11_405 (M_X11_isTable (lv := lv - 1) hG (by omega) h1) (by omega) dX11_quiet_1 (by decide) ⟨rfl, rfl⟩ rfl rfl (Nat.le_of_ble_eq_true rfl) ?_
  refine j_st (st' := [.int r2]) rfl ?_
  refine j_if_ne C 9 dX11_quiet_4 (by decide) (fun c4 => ?_) (fun c4 => ?_)
  · have h := ite_f c4 h
    refine j_aload_n C 0 dX11_quiet_9 rfl rfl ?_
    refine j_getS C (11, 0, 2, 0) fl_X11_9 dX11_quiet_10 (by decide) ⟨rfl, rfl⟩ rfl rfl ?_
    refine j_iconst C (4 : Int32) (by decide) dX11_quiet_13 ?_
    refine j_ialdK C 9 4 dX11_quiet_14 (V_f 1 (by decide) (by decide)) rfl (by decide) (by decide) ?_
    obtain ⟨v5, ev5, h⟩ := bnd_x h
    refine j_istore_n C [(1, .int v5), (0, .ref (ad G (11, 0, 0, 0)))] dX11_quiet_15 rfl (Nat.le_of_ble_eq_true rfl) ev5 rfl ?_
    refine j_iconst C (0 : Int32) (by decide) dX11_quiet_16 ?_
    refine j_istore_n C [(2, .int (0 : Int32)), (1, .int v5), (0, .ref (ad G (11, 0, 0, 0)))] dX11_quiet_17 rfl (Nat.le_of_ble_eq_true rfl) rfl rfl ?_
    refine j_bipush C (-2 : Int32) (by decide) dX11_quiet_18 ?_
    refine j_istore_n C [(3, .int (-2 : Int32)), (2, .int (0 : Int32)), (1, .int v5), (0, .ref (ad G (11, 0, 0, 0)))] dX11_quiet_20 rfl (Nat.le_of_ble_eq_true rfl) rfl rfl ?_
    refine j_aload_n C 3 dX11_quiet_21 rfl rfl ?_
    obtain ⟨D7, h6, h⟩ := vbd_x h
    refine j_callV C [] [] cl_X11_432 (M_X11_keepsAll (lv := lv - 1) hG (by omega) h6) (by omega) dX11_quiet_22 (by decide) ⟨rfl, rfl⟩ rfl rfl (Nat.le_of_ble_eq_true rfl) ?_
    refine j_st (st' := []) rfl ?_
    refine j_iconst C (0 : Int32) (by decide) dX11_quiet_25 ?_
    refine j_istore C [(4, .int (0 : Int32)), (3, .int (-2 : Int32)), (2, .int (0 : Int32)), (1, .int v5), (0, .ref (ad G (11, 0, 0, 0)))] dX11_quiet_26 (Nat.le_of_ble_eq_true rfl) rfl rfl ?_
    refine j_sub [4, 3, 2, 1, 0] [(0, .ref (ad G (11, 0, 0, 0))), (1, .int v5), (2, .int (0 : Int32)), (3, .int (-2 : Int32)), (4, .int (0 : Int32))] rfl ?_
    refine T_X11_quiet_b28 hG hlv  C (fun l3_36 D37 h => ?_) 2000 v5 (0 : Int32) (-2 : Int32) (0 : Int32) D7 h
    · refine j_aload_n C 0 dX11_quiet_79 rfl rfl ?_
      obtain ⟨D39, h38, h⟩ := vbd_x h
      refine j_callV C [] [] cl_X11_425 (M_X11_laysBack (lv := lv - 1) hG (by omega) h38) (by omega) dX11_quiet_80 (by decide) ⟨rfl, rfl⟩ rfl rfl (Nat.le_of_ble_eq_true rfl) ?_
      refine j_st (st' := []) rfl ?_
      refine j_iload_n C 1 dX11_quiet_83 rfl rfl ?_
      obtain ⟨rfl, rfl⟩ := pr_x h
      exact j_iret C dX11_quiet_84
  · have h := ite_t c4 h
    refine j_iconst C (-1 : Int32) (by decide) dX11_quiet_7 ?_
    obtain ⟨rfl, rfl⟩ := pr_x h
    exact j_iret C dX11_quiet_8
def F_X11_worth (a1 : Int32) (a2 : Int32) (a3 : Int32) (D : Dt) : Option (Int32 × Dt) := (cbd (F_X11_isLand a1 D) (fun r2 D3 => (if r2 = 0 then (some ((-100000 : Int32), D3)) else (cbd (F_X11_in a2.toInt64 (1 : Int64) (99 : Int64) D3) (fun r6 D7 => (if r6 = 0 then (some ((-100000 : Int32), D7)) else (cbd (F_X11_in a3.toInt64 (1 : Int64) (60 : Int64) D7) (fun r10 D11 => (if r10 = 0 then (some ((-100000 : Int32), D11)) else (vbd (F_X11_keepsAll  D11) (fun D14 => (cbd (F_X11_barnOfIn a1 a3 D14) (fun r16 D17 => (grd (inB a1 5 = true) (cbd (F_X11_upTo ((D17.1 (11, 0, 3, 0) (a1.toNatClampNeg)) + a2) (999 : Int32) D17) (fun r20 D21 => (bnd (setI D21 (11, 0, 3, 0) (a1.toNatClampNeg) r20) (fun D22 => (cbd (F_X11_barnOfIn a1 a3 D22) (fun r24 D25 => (some ((r24 - r16), D25))))))))))))))))))))))
set_option maxRecDepth 100000 in
set_option maxHeartbeats 4000000 in
theorem M_X11_worth {l : Launch} {G : Gt} {A : Nat → Prop} {lv : Nat} {a1 : Int32} {a2 : Int32} {a3 : Int32} {D : Dt} {r : Int32} {D' : Dt} (hG : Gok G A) (hlv : 11 ≤ lv)  (h : F_X11_worth a1 a2 a3 D = some (r, D')) : MD l G A lv yX11_worth cX11_worth 5 (some .int) [.ref (ad G (11, 0, 0, 0)), .int a1, .int a2, .int a3] D (some (.int r)) D' := by
  unfold F_X11_worth at h
  refine md_start RX11 hG (by decide +kernel) rfl (Nat.le_of_ble_eq_true rfl) (L := [(0, .ref (ad G (11, 0, 0, 0))), (1, .int a1), (2, .int a2), (3, .int a3)]) rfl (fun X C => ?_)
  refine j_aload_n C 0 dX11_worth_0 rfl rfl ?_
  refine j_iload_n C 1 dX11_worth_1 rfl rfl ?_
  obtain ⟨r2, D3, h1, h⟩ := cbd_x h
  refine j_callV C [.int a1] [] cl_X11_340 (M_X11_isLand (lv := lv - 1) hG (by omega) h1) (by omega) dX11_worth_2 (by decide) ⟨rfl, rfl⟩ rfl rfl (Nat.le_of_ble_eq_true rfl) ?_
  refine j_st (st' := [.int r2]) rfl ?_
  refine j_if_eq C 32 dX11_worth_5 (by decide) (fun c4 => ?_) (fun c4 => ?_)
  · have h := ite_t c4 h
    refine j_ldcw C (-100000 : Int32) kc_X11_444 dX11_worth_32 ?_
    obtain ⟨rfl, rfl⟩ := pr_x h
    exact j_iret C dX11_worth_35
  · have h := ite_f c4 h
    refine j_iload_n C 2 dX11_worth_8 rfl rfl ?_
    refine j_i2l C dX11_worth_9 ?_
    refine j_lconst C (1 : Int64) (by decide) dX11_worth_10 ?_
    refine j_ldc2 C (99 : Int64) kc_X11_411 dX11_worth_11 ?_
    obtain ⟨r6, D7, h5, h⟩ := cbd_x h
    refine j_callS C [.long a2.toInt64, .long (1 : Int64), .long (99 : Int64)] [] cl_X11_134 (M_X11_in (lv := lv - 1) hG (by omega) h5) (by omega) dX11_worth_14 rfl rfl (Nat.le_of_ble_eq_true rfl) ?_
    refine j_st (st' := [.int r6]) rfl ?_
    refine j_if_eq C 32 dX11_worth_17 (by decide) (fun c8 => ?_) (fun c8 => ?_)
    · have h := ite_t c8 h
      refine j_ldcw C (-100000 : Int32) kc_X11_444 dX11_worth_32 ?_
      obtain ⟨rfl, rfl⟩ := pr_x h
      exact j_iret C dX11_worth_35
    · have h := ite_f c8 h
      refine j_iload_n C 3 dX11_worth_20 rfl rfl ?_
      refine j_i2l C dX11_worth_21 ?_
      refine j_lconst C (1 : Int64) (by decide) dX11_worth_22 ?_
      refine j_ldc2 C (60 : Int64) kc_X11_347 dX11_worth_23 ?_
      obtain ⟨r10, D11, h9, h⟩ := cbd_x h
      refine j_callS C [.long a3.toInt64, .long (1 : Int64), .long (60 : Int64)] [] cl_X11_134 (M_X11_in (lv := lv - 1) hG (by omega) h9) (by omega) dX11_worth_26 rfl rfl (Nat.le_of_ble_eq_true rfl) ?_
      refine j_st (st' := [.int r10]) rfl ?_
      refine j_if_ne C 36 dX11_worth_29 (by decide) (fun c12 => ?_) (fun c12 => ?_)
      · have h := ite_f c12 h
        refine j_aload_n C 0 dX11_worth_36 rfl rfl ?_
        obtain ⟨D14, h13, h⟩ := vbd_x h
        refine j_callV C [] [] cl_X11_432 (M_X11_keepsAll (lv := lv - 1) hG (by omega) h13) (by omega) dX11_worth_37 (by decide) ⟨rfl, rfl⟩ rfl rfl (Nat.le_of_ble_eq_true rfl) ?_
        refine j_st (st' := []) rfl ?_
        refine j_aload_n C 0 dX11_worth_40 rfl rfl ?_
        refine j_iload_n C 1 dX11_worth_41 rfl rfl ?_
        refine j_iload_n C 3 dX11_worth_42 rfl rfl ?_
        obtain ⟨r16, D17, h15, h⟩ := cbd_x h
        refine j_callV C [.int a1, .int a3] [] cl_X11_445 (M_X11_barnOfIn (lv := lv - 1) hG (by omega) h15) (by omega) dX11_worth_43 (by decide) ⟨rfl, rfl⟩ rfl rfl (Nat.le_of_ble_eq_true rfl) ?_
        refine j_st (st' := [.int r16]) rfl ?_
        refine j_istore C [(4, .int r16), (0, .ref (ad G (11, 0, 0, 0))), (1, .int a1), (2, .int a2), (3, .int a3)] dX11_worth_46 (Nat.le_of_ble_eq_true rfl) rfl rfl ?_
        refine j_aload_n C 1 dX11_worth_48 rfl rfl ?_
        refine j_getS C (11, 0, 3, 0) fl_X11_13 dX11_worth_49 (by decide) ⟨rfl, rfl⟩ rfl rfl ?_
        refine j_iload_n C 2 dX11_worth_52 rfl rfl ?_
        refine j_aload_n C 1 dX11_worth_53 rfl rfl ?_
        refine j_getS C (11, 0, 3, 0) fl_X11_13 dX11_worth_54 (by decide) ⟨rfl, rfl⟩ rfl rfl ?_
        refine j_iload_n C 2 dX11_worth_57 rfl rfl ?_
        obtain ⟨g18, h⟩ := grd_x h
        refine j_ialdK C 5 (a1.toNatClampNeg) dX11_worth_58 (V_f 2 (by decide) (by decide)) rfl g18 rfl ?_
        refine j_iload_n C 3 dX11_worth_59 rfl rfl ?_
        refine j_iadd C dX11_worth_60 ?_
        refine j_sipush C (999 : Int32) (by decide) dX11_worth_61 ?_
        obtain ⟨r20, D21, h19, h⟩ := cbd_x h
        refine j_callS C [.int ((D17.1 (11, 0, 3, 0) (a1.toNatClampNeg)) + a2), .int (999 : Int32)] [.int a1, .ref (ad G (11, 0, 3, 0))] cl_X11_349 (M_X11_upTo (lv := lv - 1) hG (by omega) h19) (by omega) dX11_worth_64 rfl rfl (Nat.le_of_ble_eq_true rfl) ?_
        refine j_st (st' := [.int r20, .int a1, .ref (ad G (11, 0, 3, 0))]) rfl ?_
        obtain ⟨D22, eD22, h⟩ := bnd_x h
        refine j_iastK C 5 (a1.toNatClampNeg) dX11_worth_67 (V_f 2 (by decide) (by decide)) rfl g18 rfl ?_
        refine j_rep eD22 ?_
        refine j_aload_n C 1 dX11_worth_68 rfl rfl ?_
        refine j_iload_n C 2 dX11_worth_69 rfl rfl ?_
        refine j_iload_n C 4 dX11_worth_70 rfl rfl ?_
        obtain ⟨r24, D25, h23, h⟩ := cbd_x h
        refine j_callV C [.int a1, .int a3] [] cl_X11_445 (M_X11_barnOfIn (lv := lv - 1) hG (by omega) h23) (by omega) dX11_worth_71 (by decide) ⟨rfl, rfl⟩ rfl rfl (Nat.le_of_ble_eq_true rfl) ?_
        refine j_st (st' := [.int r24]) rfl ?_
        refine j_iload C 0 dX11_worth_74 rfl ?_
        refine j_isub C dX11_worth_76 ?_
        obtain ⟨rfl, rfl⟩ := pr_x h
        exact j_iret C dX11_worth_77
      · have h := ite_t c12 h
        refine j_ldcw C (-100000 : Int32) kc_X11_444 dX11_worth_32 ?_
        obtain ⟨rfl, rfl⟩ := pr_x h
        exact j_iret C dX11_worth_35
def F_X11_need_b96 (a1 : Int32) (a2 : Int32) (a3 : Int32) (k45 : Int32 → Int32 → Int32 → Int32 → Int32 → Dt → Option (Int32 × Dt)) (l1 : Int32) (l2 : Int32) (l3 : Int32) (l5 : Int32) (s0 : Int32) (D : Dt) : Option (Int32 × Dt) := (bnd (l5 + (1 : Int32)) (fun v26 => (k45 l1 l2 l3 s0 v26 D)))
set_option maxRecDepth 100000 in
set_option maxHeartbeats 4000000 in
theorem T_X11_need_b96 {r : Int32} {D' : Dt} {X : Ctx} {l : Launch} {G : Gt} {A : Nat → Prop} {lv : Nat} {a1 : Int32} {a2 : Int32} {a3 : Int32}  {k45 : Int32 → Int32 → Int32 → Int32 → Int32 → Dt → Option (Int32 × Dt)} (hG : Gok G A) (hlv : 11 ≤ lv)   (C : Cx X cX11_need RX11 G l A lv 6 (some .int) (some (.int r)) D') (hk45 : ∀ (l1 : Int32) (l2 : Int32) (l3 : Int32) (l4 : Int32) (l5 : Int32) (D : Dt), k45 l1 l2 l3 l4 l5 D = some (r, D') → J X (Rep G D) 45 [(0, .ref (ad G (11, 0, 0, 0))), (1, .int l1), (2, .int l2), (3, .int l3), (4, .int l4), (5, .int l5)] []) : ∀ (l1 : Int32) (l2 : Int32) (l3 : Int32) (l5 : Int32) (s0 : Int32) (D : Dt), F_X11_need_b96 a1 a2 a3 k45 l1 l2 l3 l5 s0 D = some (r, D') → J X (Rep G D) 96 [(0, .ref (ad G (11, 0, 0, 0))), (1, .int l1), (2, .int l2), (3, .int l3), (5, .int l5)] [.int s0] := by
  intro l1 l2 l3 l5 s0 D h
  unfold F_X11_need_b96 at h
  refine j_istore C [(4, .int s0), (0, .ref (ad G (11, 0, 0, 0))), (1, .int l1), (2, .int l2), (3, .int l3), (5, .int l5)] dX11_need_96 (Nat.le_of_ble_eq_true rfl) rfl rfl ?_
  obtain ⟨v26, ev26, h⟩ := bnd_x h
  refine j_iinc C 5 [(5, .int v26), (4, .int s0), (0, .ref (ad G (11, 0, 0, 0))), (1, .int l1), (2, .int l2), (3, .int l3)] dX11_need_98 rfl (Nat.le_of_ble_eq_true rfl) (ev26.trans (congrArg (l5 + ·) (by decide))) rfl ?_
  refine j_goto C 45 dX11_need_101 (by decide) ?_
  refine j_sub [2, 3, 4, 5, 1, 0] [(0, .ref (ad G (11, 0, 0, 0))), (1, .int l1), (2, .int l2), (3, .int l3), (4, .int s0), (5, .int v26)] rfl ?_
  exact hk45 l1 l2 l3 s0 v26 D h
def F_X11_need_b45 (a1 : Int32) (a2 : Int32) (a3 : Int32)  : Nat → Int32 → Int32 → Int32 → Int32 → Int32 → Dt → Option (Int32 × Dt)
  | 0, _, _, _, _, _, _ => none
  | f + 1, l1, l2, l3, l4, l5, D => (if (20 : Int32) < l5 then (some (l4, D)) else (if l4 = (-2 : Int32) then (grd (inB l1 5 = true) (cbd (F_X11_upTo ((D.1 (11, 0, 4, 0) (l1.toNatClampNeg)) + l5) (99 : Int32) D) (fun r19 D20 => (bnd (setI D20 (11, 0, 4, 0) (l1.toNatClampNeg) r19) (fun D21 => (cbd (F_X11_barnOfIn l1 l3 D21) (fun r23 D24 => (if r23 < l2 then (F_X11_need_b96 a1 a2 a3 (fun l1_27 l2_28 l3_29 l4_30 l5_31 D32 => (F_X11_need_b45 a1 a2 a3 f l1_27 l2_28 l3_29 l4_30 l5_31 D32)) l1 l2 l3 l5 (-2 : Int32) D24) else (F_X11_need_b96 a1 a2 a3 (fun l1_33 l2_34 l3_35 l4_36 l5_37 D38 => (F_X11_need_b45 a1 a2 a3 f l1_33 l2_34 l3_35 l4_36 l5_37 D38)) l1 l2 l3 l5 l5 D24))))))))) else (some (l4, D))))
set_option maxRecDepth 100000 in
set_option maxHeartbeats 4000000 in
theorem T_X11_need_b45 {r : Int32} {D' : Dt} {X : Ctx} {l : Launch} {G : Gt} {A : Nat → Prop} {lv : Nat} {a1 : Int32} {a2 : Int32} {a3 : Int32}   (hG : Gok G A) (hlv : 11 ≤ lv)   (C : Cx X cX11_need RX11 G l A lv 6 (some .int) (some (.int r)) D')  : ∀ (f : Nat) (l1 : Int32) (l2 : Int32) (l3 : Int32) (l4 : Int32) (l5 : Int32) (D : Dt), F_X11_need_b45 a1 a2 a3 f l1 l2 l3 l4 l5 D = some (r, D') → J X (Rep G D) 45 [(0, .ref (ad G (11, 0, 0, 0))), (1, .int l1), (2, .int l2), (3, .int l3), (4, .int l4), (5, .int l5)] [] := by
  intro f
  induction f with
  | zero =>
    intro l1 l2 l3 l4 l5 D h
    exact nomatch h
  | succ f ih =>
    intro l1 l2 l3 l4 l5 D h
    rw [F_X11_need_b45] at h
    refine j_iload C 5 dX11_need_45 rfl ?_
    refine j_bipush C (20 : Int32) (by decide) dX11_need_47 ?_
    refine j_icmp_gt C 104 dX11_need_49 (by decide) (fun c15 => ?_) (fun c15 => ?_)
    · have h := ite_t c15 h
      refine j_iload C 4 dX11_need_104 rfl ?_
      obtain ⟨rfl, rfl⟩ := pr_x h
      exact j_iret C dX11_need_106
    · have h := ite_f c15 h
      refine j_iload C 4 dX11_need_52 rfl ?_
      refine j_bipush C (-2 : Int32) (by decide) dX11_need_54 ?_
      refine j_icmp_ne C 104 dX11_need_56 (by decide) (fun c16 => ?_) (fun c16 => ?_)
      · have h := ite_f c16 h
        refine j_iload C 4 dX11_need_104 rfl ?_
        obtain ⟨rfl, rfl⟩ := pr_x h
        exact j_iret C dX11_need_106
      · have h := ite_t c16 h
        refine j_aload_n C 0 dX11_need_59 rfl rfl ?_
        refine j_getS C (11, 0, 4, 0) fl_X11_16 dX11_need_60 (by decide) ⟨rfl, rfl⟩ rfl rfl ?_
        refine j_iload_n C 1 dX11_need_63 rfl rfl ?_
        refine j_aload_n C 0 dX11_need_64 rfl rfl ?_
        refine j_getS C (11, 0, 4, 0) fl_X11_16 dX11_need_65 (by decide) ⟨rfl, rfl⟩ rfl rfl ?_
        refine j_iload_n C 1 dX11_need_68 rfl rfl ?_
        obtain ⟨g17, h⟩ := grd_x h
        refine j_ialdK C 5 (l1.toNatClampNeg) dX11_need_69 (V_f 3 (by decide) (by decide)) rfl g17 rfl ?_
        refine j_iload C 5 dX11_need_70 rfl ?_
        refine j_iadd C dX11_need_72 ?_
        refine j_bipush C (99 : Int32) (by decide) dX11_need_73 ?_
        obtain ⟨r19, D20, h18, h⟩ := cbd_x h
        refine j_callS C [.int ((D.1 (11, 0, 4, 0) (l1.toNatClampNeg)) + l5), .int (99 : Int32)] [.int l1, .ref (ad G (11, 0, 4, 0))] cl_X11_349 (M_X11_upTo (lv := lv - 1) hG (by omega) h18) (by omega) dX11_need_75 rfl rfl (Nat.le_of_ble_eq_true rfl) ?_
        refine j_st (st' := [.int r19, .int l1, .ref (ad G (11, 0, 4, 0))]) rfl ?_
        obtain ⟨D21, eD21, h⟩ := bnd_x h
        refine j_iastK C 5 (l1.toNatClampNeg) dX11_need_78 (V_f 3 (by decide) (by decide)) rfl g17 rfl ?_
        refine j_rep eD21 ?_
        refine j_aload_n C 0 dX11_need_79 rfl rfl ?_
        refine j_iload_n C 1 dX11_need_80 rfl rfl ?_
        refine j_iload_n C 3 dX11_need_81 rfl rfl ?_
        obtain ⟨r23, D24, h22, h⟩ := cbd_x h
        refine j_callV C [.int l1, .int l3] [] cl_X11_445 (M_X11_barnOfIn (lv := lv - 1) hG (by omega) h22) (by omega) dX11_need_82 (by decide) ⟨rfl, rfl⟩ rfl rfl (Nat.le_of_ble_eq_true rfl) ?_
        refine j_st (st' := [.int r23]) rfl ?_
        refine j_iload_n C 2 dX11_need_85 rfl rfl ?_
        refine j_icmp_lt C 94 dX11_need_86 (by decide) (fun c25 => ?_) (fun c25 => ?_)
        · have h := ite_t c25 h
          refine j_bipush C (-2 : Int32) (by decide) dX11_need_94 ?_
          refine j_sub [0, 1, 2, 3, 5] [(0, .ref (ad G (11, 0, 0, 0))), (1, .int l1), (2, .int l2), (3, .int l3), (5, .int l5)] rfl ?_
          refine T_X11_need_b96 hG hlv  C (fun l1_27 l2_28 l3_29 l4_30 l5_31 D32 h => ?_) l1 l2 l3 l5 (-2 : Int32) D24 h
          · exact ih l1_27 l2_28 l3_29 l4_30 l5_31 D32 h
        · have h := ite_f c25 h
          refine j_iload C 5 dX11_need_89 rfl ?_
          refine j_goto C 96 dX11_need_91 (by decide) ?_
          refine j_sub [0, 1, 2, 3, 5] [(0, .ref (ad G (11, 0, 0, 0))), (1, .int l1), (2, .int l2), (3, .int l3), (5, .int l5)] rfl ?_
          refine T_X11_need_b96 hG hlv  C (fun l1_33 l2_34 l3_35 l4_36 l5_37 D38 h => ?_) l1 l2 l3 l5 l5 D24 h
          · exact ih l1_33 l2_34 l3_35 l4_36 l5_37 D38 h
def F_X11_need (a1 : Int32) (a2 : Int32) (a3 : Int32) (D : Dt) : Option (Int32 × Dt) := (cbd (F_X11_isLand a1 D) (fun r2 D3 => (if r2 = 0 then (some ((-1 : Int32), D3)) else (cbd (F_X11_in a2.toInt64 (1 : Int64) (9999 : Int64) D3) (fun r6 D7 => (if r6 = 0 then (some ((-1 : Int32), D7)) else (cbd (F_X11_in a3.toInt64 (1 : Int64) (60 : Int64) D7) (fun r10 D11 => (if r10 = 0 then (some ((-1 : Int32), D11)) else (vbd (F_X11_keepsAll  D11) (fun D14 => (F_X11_need_b45 a1 a2 a3 2000 a1 a2 a3 (-2 : Int32) (0 : Int32) D14))))))))))))
set_option maxRecDepth 100000 in
set_option maxHeartbeats 4000000 in
theorem M_X11_need {l : Launch} {G : Gt} {A : Nat → Prop} {lv : Nat} {a1 : Int32} {a2 : Int32} {a3 : Int32} {D : Dt} {r : Int32} {D' : Dt} (hG : Gok G A) (hlv : 11 ≤ lv)  (h : F_X11_need a1 a2 a3 D = some (r, D')) : MD l G A lv yX11_need cX11_need 6 (some .int) [.ref (ad G (11, 0, 0, 0)), .int a1, .int a2, .int a3] D (some (.int r)) D' := by
  unfold F_X11_need at h
  refine md_start RX11 hG (by decide +kernel) rfl (Nat.le_of_ble_eq_true rfl) (L := [(0, .ref (ad G (11, 0, 0, 0))), (1, .int a1), (2, .int a2), (3, .int a3)]) rfl (fun X C => ?_)
  refine j_aload_n C 0 dX11_need_0 rfl rfl ?_
  refine j_iload_n C 1 dX11_need_1 rfl rfl ?_
  obtain ⟨r2, D3, h1, h⟩ := cbd_x h
  refine j_callV C [.int a1] [] cl_X11_340 (M_X11_isLand (lv := lv - 1) hG (by omega) h1) (by omega) dX11_need_2 (by decide) ⟨rfl, rfl⟩ rfl rfl (Nat.le_of_ble_eq_true rfl) ?_
  refine j_st (st' := [.int r2]) rfl ?_
  refine j_if_eq C 32 dX11_need_5 (by decide) (fun c4 => ?_) (fun c4 => ?_)
  · have h := ite_t c4 h
    refine j_iconst C (-1 : Int32) (by decide) dX11_need_32 ?_
    obtain ⟨rfl, rfl⟩ := pr_x h
    exact j_iret C dX11_need_33
  · have h := ite_f c4 h
    refine j_iload_n C 2 dX11_need_8 rfl rfl ?_
    refine j_i2l C dX11_need_9 ?_
    refine j_lconst C (1 : Int64) (by decide) dX11_need_10 ?_
    refine j_ldc2 C (9999 : Int64) kc_X11_448 dX11_need_11 ?_
    obtain ⟨r6, D7, h5, h⟩ := cbd_x h
    refine j_callS C [.long a2.toInt64, .long (1 : Int64), .long (9999 : Int64)] [] cl_X11_134 (M_X11_in (lv := lv - 1) hG (by omega) h5) (by omega) dX11_need_14 rfl rfl (Nat.le_of_ble_eq_true rfl) ?_
    refine j_st (st' := [.int r6]) rfl ?_
    refine j_if_eq C 32 dX11_need_17 (by decide) (fun c8 => ?_) (fun c8 => ?_)
    · have h := ite_t c8 h
      refine j_iconst C (-1 : Int32) (by decide) dX11_need_32 ?_
      obtain ⟨rfl, rfl⟩ := pr_x h
      exact j_iret C dX11_need_33
    · have h := ite_f c8 h
      refine j_iload_n C 3 dX11_need_20 rfl rfl ?_
      refine j_i2l C dX11_need_21 ?_
      refine j_lconst C (1 : Int64) (by decide) dX11_need_22 ?_
      refine j_ldc2 C (60 : Int64) kc_X11_347 dX11_need_23 ?_
      obtain ⟨r10, D11, h9, h⟩ := cbd_x h
      refine j_callS C [.long a3.toInt64, .long (1 : Int64), .long (60 : Int64)] [] cl_X11_134 (M_X11_in (lv := lv - 1) hG (by omega) h9) (by omega) dX11_need_26 rfl rfl (Nat.le_of_ble_eq_true rfl) ?_
      refine j_st (st' := [.int r10]) rfl ?_
      refine j_if_ne C 34 dX11_need_29 (by decide) (fun c12 => ?_) (fun c12 => ?_)
      · have h := ite_f c12 h
        refine j_bipush C (-2 : Int32) (by decide) dX11_need_34 ?_
        refine j_istore C [(4, .int (-2 : Int32)), (0, .ref (ad G (11, 0, 0, 0))), (1, .int a1), (2, .int a2), (3, .int a3)] dX11_need_36 (Nat.le_of_ble_eq_true rfl) rfl rfl ?_
        refine j_aload_n C 1 dX11_need_38 rfl rfl ?_
        obtain ⟨D14, h13, h⟩ := vbd_x h
        refine j_callV C [] [] cl_X11_432 (M_X11_keepsAll (lv := lv - 1) hG (by omega) h13) (by omega) dX11_need_39 (by decide) ⟨rfl, rfl⟩ rfl rfl (Nat.le_of_ble_eq_true rfl) ?_
        refine j_st (st' := []) rfl ?_
        refine j_iconst C (0 : Int32) (by decide) dX11_need_42 ?_
        refine j_istore C [(5, .int (0 : Int32)), (4, .int (-2 : Int32)), (0, .ref (ad G (11, 0, 0, 0))), (1, .int a1), (2, .int a2), (3, .int a3)] dX11_need_43 (Nat.le_of_ble_eq_true rfl) rfl rfl ?_
        refine j_sub [2, 3, 4, 5, 1, 0] [(0, .ref (ad G (11, 0, 0, 0))), (1, .int a1), (2, .int a2), (3, .int a3), (4, .int (-2 : Int32)), (5, .int (0 : Int32))] rfl ?_
        refine T_X11_need_b45 hG hlv  C  2000 a1 a2 a3 (-2 : Int32) (0 : Int32) D14 h
      · have h := ite_t c12 h
        refine j_iconst C (-1 : Int32) (by decide) dX11_need_32 ?_
        obtain ⟨rfl, rfl⟩ := pr_x h
        exact j_iret C dX11_need_33
def F_X11_playOf_b93 (a1 : Int32) (a2 : Int32) (a3 : Int32) (a4 : Int32) (k17 : Int32 → Int32 → Int32 → Int32 → Int32 → Int32 → Dt → Option (Int32 × Dt)) (l1 : Int32) (l2 : Int32) (l3 : Int32) (l4 : Int32) (l5 : Int32) (l6 : Int32) (D : Dt) : Option (Int32 × Dt) := (cbd (F_X11_goes  D) (fun r11 D12 => (bnd (l6 + (1 : Int32)) (fun v13 => (k17 l1 l2 l3 l4 l5 v13 D12)))))
set_option maxRecDepth 100000 in
set_option maxHeartbeats 4000000 in
theorem T_X11_playOf_b93 {r : Int32} {D' : Dt} {X : Ctx} {l : Launch} {G : Gt} {A : Nat → Prop} {lv : Nat} {a1 : Int32} {a2 : Int32} {a3 : Int32} {a4 : Int32}  {k17 : Int32 → Int32 → Int32 → Int32 → Int32 → Int32 → Dt → Option (Int32 × Dt)} (hG : Gok G A) (hlv : 9 ≤ lv)   (C : Cx X cX11_playOf RX11 G l A lv 9 (some .int) (some (.int r)) D') (hk17 : ∀ (l1 : Int32) (l2 : Int32) (l3 : Int32) (l4 : Int32) (l5 : Int32) (l6 : Int32) (D : Dt), k17 l1 l2 l3 l4 l5 l6 D = some (r, D') → J X (Rep G D) 17 [(0, .ref (ad G (11, 0, 0, 0))), (1, .int l1), (2, .int l2), (3, .int l3), (4, .int l4), (5, .int l5), (6, .int l6)] []) : ∀ (l1 : Int32) (l2 : Int32) (l3 : Int32) (l4 : Int32) (l5 : Int32) (l6 : Int32) (D : Dt), F_X11_playOf_b93 a1 a2 a3 a4 k17 l1 l2 l3 l4 l5 l6 D = some (r, D') → J X (Rep G D) 93 [(0, .ref (ad G (11, 0, 0, 0))), (1, .int l1), (2, .int l2), (3, .int l3), (4, .int l4), (5, .int l5), (6, .int l6)] [] := by
  intro l1 l2 l3 l4 l5 l6 D h
  unfold F_X11_playOf_b93 at h
  refine j_aload_n C 0 dX11_playOf_93 rfl rfl ?_
  obtain ⟨r11, D12, h10, h⟩ := cbd_x h
  refine j_callV C [] [] cl_X11_385 (M_X11_goes (lv := lv - 1) hG (by omega) h10) (by omega) dX11_playOf_94 (by decide) ⟨rfl, rfl⟩ rfl rfl (Nat.le_of_ble_eq_true rfl) ?_
  refine j_st (st' := [.int r11]) rfl ?_
  refine j_pop C rfl dX11_playOf_97 ?_
  obtain ⟨v13, ev13, h⟩ := bnd_x h
  refine j_iinc C 6 [(6, .int v13), (0, .ref (ad G (11, 0, 0, 0))), (1, .int l1), (2, .int l2), (3, .int l3), (4, .int l4), (5, .int l5)] dX11_playOf_98 rfl (Nat.le_of_ble_eq_true rfl) (ev13.trans (congrArg (l6 + ·) (by decide))) rfl ?_
  refine j_goto C 17 dX11_playOf_101 (by decide) ?_
  refine j_sub [1, 2, 3, 4, 5, 6, 0] [(0, .ref (ad G (11, 0, 0, 0))), (1, .int l1), (2, .int l2), (3, .int l3), (4, .int l4), (5, .int l5), (6, .int v13)] rfl ?_
  exact hk17 l1 l2 l3 l4 l5 v13 D12 h
def F_X11_playOf_b54 (a1 : Int32) (a2 : Int32) (a3 : Int32) (a4 : Int32) (k17 : Int32 → Int32 → Int32 → Int32 → Int32 → Int32 → Dt → Option (Int32 × Dt)) (l1 : Int32) (l2 : Int32) (l3 : Int32) (l4 : Int32) (l5 : Int32) (l6 : Int32) (l7 : Int32) (s0 : Int32) (D : Dt) : Option (Int32 × Dt) := (cbd (F_X11_has l4 ((l3 - (1 : Int32)) - l6) D) (fun r7 D8 => (if r7 = 0 then (F_X11_playOf_b93 a1 a2 a3 a4 (fun l1_14 l2_15 l3_16 l4_17 l5_18 l6_19 D20 => (k17 l1_14 l2_15 l3_16 l4_17 l5_18 l6_19 D20)) l1 l2 l3 l4 l5 l6 D8) else (cbd (F_X11_canBuy l7 s0 D8) (fun r22 D23 => (if r22 = 0 then (F_X11_playOf_b93 a1 a2 a3 a4 (fun l1_25 l2_26 l3_27 l4_28 l5_29 l6_30 D31 => (k17 l1_25 l2_26 l3_27 l4_28 l5_29 l6_30 D31)) l1 l2 l3 l4 r22 l6 D23) else (vbd (F_X11_buys l7 s0 D23) (fun D33 => (F_X11_playOf_b93 a1 a2 a3 a4 (fun l1_34 l2_35 l3_36 l4_37 l5_38 l6_39 D40 => (k17 l1_34 l2_35 l3_36 l4_37 l5_38 l6_39 D40)) l1 l2 l3 l4 r22 l6 D33)))))))))
set_option maxRecDepth 100000 in
set_option maxHeartbeats 4000000 in
theorem T_X11_playOf_b54 {r : Int32} {D' : Dt} {X : Ctx} {l : Launch} {G : Gt} {A : Nat → Prop} {lv : Nat} {a1 : Int32} {a2 : Int32} {a3 : Int32} {a4 : Int32}  {k17 : Int32 → Int32 → Int32 → Int32 → Int32 → Int32 → Dt → Option (Int32 × Dt)} (hG : Gok G A) (hlv : 9 ≤ lv)   (C : Cx X cX11_playOf RX11 G l A lv 9 (some .int) (some (.int r)) D') (hk17 : ∀ (l1 : Int32) (l2 : Int32) (l3 : Int32) (l4 : Int32) (l5 : Int32) (l6 : Int32) (D : Dt), k17 l1 l2 l3 l4 l5 l6 D = some (r, D') → J X (Rep G D) 17 [(0, .ref (ad G (11, 0, 0, 0))), (1, .int l1), (2, .int l2), (3, .int l3), (4, .int l4), (5, .int l5), (6, .int l6)] []) : ∀ (l1 : Int32) (l2 : Int32) (l3 : Int32) (l4 : Int32) (l5 : Int32) (l6 : Int32) (l7 : Int32) (s0 : Int32) (D : Dt), F_X11_playOf_b54 a1 a2 a3 a4 k17 l1 l2 l3 l4 l5 l6 l7 s0 D = some (r, D') → J X (Rep G D) 54 [(0, .ref (ad G (11, 0, 0, 0))), (1, .int l1), (2, .int l2), (3, .int l3), (4, .int l4), (5, .int l5), (6, .int l6), (7, .int l7)] [.int s0] := by
  intro l1 l2 l3 l4 l5 l6 l7 s0 D h
  unfold F_X11_playOf_b54 at h
  refine j_istore C [(8, .int s0), (0, .ref (ad G (11, 0, 0, 0))), (1, .int l1), (2, .int l2), (3, .int l3), (4, .int l4), (5, .int l5), (6, .int l6), (7, .int l7)] dX11_playOf_54 (Nat.le_of_ble_eq_true rfl) rfl rfl ?_
  refine j_iload C 5 dX11_playOf_56 rfl ?_
  refine j_iload_n C 4 dX11_playOf_58 rfl rfl ?_
  refine j_iconst C (1 : Int32) (by decide) dX11_playOf_59 ?_
  refine j_isub C dX11_playOf_60 ?_
  refine j_iload C 7 dX11_playOf_61 rfl ?_
  refine j_isub C dX11_playOf_63 ?_
  obtain ⟨r7, D8, h6, h⟩ := cbd_x h
  refine j_callS C [.int l4, .int ((l3 - (1 : Int32)) - l6)] [] cl_X11_334 (M_X11_has (lv := lv - 1) hG (by omega) h6) (by omega) dX11_playOf_64 rfl rfl (Nat.le_of_ble_eq_true rfl) ?_
  refine j_st (st' := [.int r7]) rfl ?_
  refine j_if_eq C 93 dX11_playOf_67 (by decide) (fun c9 => ?_) (fun c9 => ?_)
  · have h := ite_t c9 h
    refine j_sub [1, 2, 3, 4, 5, 6, 7] [(0, .ref (ad G (11, 0, 0, 0))), (1, .int l1), (2, .int l2), (3, .int l3), (4, .int l4), (5, .int l5), (6, .int l6)] rfl ?_
    refine T_X11_playOf_b93 hG hlv  C (fun l1_14 l2_15 l3_16 l4_17 l5_18 l6_19 D20 h => ?_) l1 l2 l3 l4 l5 l6 D8 h
    · exact hk17 l1_14 l2_15 l3_16 l4_17 l5_18 l6_19 D20 h
  · have h := ite_f c9 h
    refine j_aload_n C 1 dX11_playOf_70 rfl rfl ?_
    refine j_iload C 8 dX11_playOf_71 rfl ?_
    refine j_iload C 0 dX11_playOf_73 rfl ?_
    obtain ⟨r22, D23, h21, h⟩ := cbd_x h
    refine j_callV C [.int l7, .int s0] [] cl_X11_337 (M_X11_canBuy (lv := lv - 1) hG (by omega) h21) (by omega) dX11_playOf_75 (by decide) ⟨rfl, rfl⟩ rfl rfl (Nat.le_of_ble_eq_true rfl) ?_
    refine j_st (st' := [.int r22]) rfl ?_
    refine j_istore C [(5, .int r22), (8, .int s0), (0, .ref (ad G (11, 0, 0, 0))), (1, .int l1), (2, .int l2), (3, .int l3), (4, .int l4), (6, .int l6), (7, .int l7)] dX11_playOf_78 (Nat.le_of_ble_eq_true rfl) rfl rfl ?_
    refine j_iload C 0 dX11_playOf_80 rfl ?_
    refine j_if_eq C 93 dX11_playOf_82 (by decide) (fun c24 => ?_) (fun c24 => ?_)
    · have h := ite_t c24 h
      refine j_sub [2, 3, 4, 5, 6, 0, 7] [(0, .ref (ad G (11, 0, 0, 0))), (1, .int l1), (2, .int l2), (3, .int l3), (4, .int l4), (5, .int r22), (6, .int l6)] rfl ?_
      refine T_X11_playOf_b93 hG hlv  C (fun l1_25 l2_26 l3_27 l4_28 l5_29 l6_30 D31 h => ?_) l1 l2 l3 l4 r22 l6 D23 h
      · exact hk17 l1_25 l2_26 l3_27 l4_28 l5_29 l6_30 D31 h
    · have h := ite_f c24 h
      refine j_aload_n C 2 dX11_playOf_85 rfl rfl ?_
      refine j_iload C 8 dX11_playOf_86 rfl ?_
      refine j_iload C 1 dX11_playOf_88 rfl ?_
      obtain ⟨D33, h32, h⟩ := vbd_x h
      refine j_callV C [.int l7, .int s0] [] cl_X11_379 (M_X11_buys (lv := lv - 1) hG (by omega) h32) (by omega) dX11_playOf_90 (by decide) ⟨rfl, rfl⟩ rfl rfl (Nat.le_of_ble_eq_true rfl) ?_
      refine j_st (st' := []) rfl ?_
      refine j_sub [2, 3, 4, 5, 6, 0, 7] [(0, .ref (ad G (11, 0, 0, 0))), (1, .int l1), (2, .int l2), (3, .int l3), (4, .int l4), (5, .int r22), (6, .int l6)] rfl ?_
      refine T_X11_playOf_b93 hG hlv  C (fun l1_34 l2_35 l3_36 l4_37 l5_38 l6_39 D40 h => ?_) l1 l2 l3 l4 r22 l6 D33 h
      · exact hk17 l1_34 l2_35 l3_36 l4_37 l5_38 l6_39 D40 h
def F_X11_playOf_b40 (a1 : Int32) (a2 : Int32) (a3 : Int32) (a4 : Int32) (k17 : Int32 → Int32 → Int32 → Int32 → Int32 → Int32 → Dt → Option (Int32 × Dt)) (l1 : Int32) (l2 : Int32) (l3 : Int32) (l4 : Int32) (l5 : Int32) (l6 : Int32) (s0 : Int32) (D : Dt) : Option (Int32 × Dt) := (if (l6 - l6 / (2 : Int32) * (2 : Int32)) = 0 then (F_X11_playOf_b54 a1 a2 a3 a4 (fun l1_48 l2_49 l3_50 l4_51 l5_52 l6_53 D54 => (k17 l1_48 l2_49 l3_50 l4_51 l5_52 l6_53 D54)) l1 l2 l3 l4 l5 l6 s0 l2 D) else (F_X11_playOf_b54 a1 a2 a3 a4 (fun l1_41 l2_42 l3_43 l4_44 l5_45 l6_46 D47 => (k17 l1_41 l2_42 l3_43 l4_44 l5_45 l6_46 D47)) l1 l2 l3 l4 l5 l6 s0 l1 D))
set_option maxRecDepth 100000 in
set_option maxHeartbeats 4000000 in
theorem T_X11_playOf_b40 {r : Int32} {D' : Dt} {X : Ctx} {l : Launch} {G : Gt} {A : Nat → Prop} {lv : Nat} {a1 : Int32} {a2 : Int32} {a3 : Int32} {a4 : Int32}  {k17 : Int32 → Int32 → Int32 → Int32 → Int32 → Int32 → Dt → Option (Int32 × Dt)} (hG : Gok G A) (hlv : 9 ≤ lv)   (C : Cx X cX11_playOf RX11 G l A lv 9 (some .int) (some (.int r)) D') (hk17 : ∀ (l1 : Int32) (l2 : Int32) (l3 : Int32) (l4 : Int32) (l5 : Int32) (l6 : Int32) (D : Dt), k17 l1 l2 l3 l4 l5 l6 D = some (r, D') → J X (Rep G D) 17 [(0, .ref (ad G (11, 0, 0, 0))), (1, .int l1), (2, .int l2), (3, .int l3), (4, .int l4), (5, .int l5), (6, .int l6)] []) : ∀ (l1 : Int32) (l2 : Int32) (l3 : Int32) (l4 : Int32) (l5 : Int32) (l6 : Int32) (s0 : Int32) (D : Dt), F_X11_playOf_b40 a1 a2 a3 a4 k17 l1 l2 l3 l4 l5 l6 s0 D = some (r, D') → J X (Rep G D) 40 [(0, .ref (ad G (11, 0, 0, 0))), (1, .int l1), (2, .int l2), (3, .int l3), (4, .int l4), (5, .int l5), (6, .int l6)] [.int s0] := by
  intro l1 l2 l3 l4 l5 l6 s0 D h
  unfold F_X11_playOf_b40 at h
  refine j_istore C [(7, .int s0), (0, .ref (ad G (11, 0, 0, 0))), (1, .int l1), (2, .int l2), (3, .int l3), (4, .int l4), (5, .int l5), (6, .int l6)] dX11_playOf_40 (Nat.le_of_ble_eq_true rfl) rfl rfl ?_
  refine j_iload C 7 dX11_playOf_42 rfl ?_
  refine j_iconst C (2 : Int32) (by decide) dX11_playOf_44 ?_
  refine j_irem C (by decide) dX11_playOf_45 ?_
  refine j_if_ne C 53 dX11_playOf_46 (by decide) (fun c5 => ?_) (fun c5 => ?_)
  · have h := ite_f c5 h
    refine j_iload_n C 2 dX11_playOf_53 rfl rfl ?_
    refine j_sub [1, 2, 3, 4, 5, 6, 7, 0] [(0, .ref (ad G (11, 0, 0, 0))), (1, .int l1), (2, .int l2), (3, .int l3), (4, .int l4), (5, .int l5), (6, .int l6), (7, .int s0)] rfl ?_
    refine T_X11_playOf_b54 hG hlv  C (fun l1_41 l2_42 l3_43 l4_44 l5_45 l6_46 D47 h => ?_) l1 l2 l3 l4 l5 l6 s0 l1 D h
    · exact hk17 l1_41 l2_42 l3_43 l4_44 l5_45 l6_46 D47 h
  · have h := ite_t c5 h
    refine j_iload_n C 3 dX11_playOf_49 rfl rfl ?_
    refine j_goto C 54 dX11_playOf_50 (by decide) ?_
    refine j_sub [1, 2, 3, 4, 5, 6, 7, 0] [(0, .ref (ad G (11, 0, 0, 0))), (1, .int l1), (2, .int l2), (3, .int l3), (4, .int l4), (5, .int l5), (6, .int l6), (7, .int s0)] rfl ?_
    refine T_X11_playOf_b54 hG hlv  C (fun l1_48 l2_49 l3_50 l4_51 l5_52 l6_53 D54 h => ?_) l1 l2 l3 l4 l5 l6 s0 l2 D h
    · exact hk17 l1_48 l2_49 l3_50 l4_51 l5_52 l6_53 D54 h
def F_X11_playOf_b17 (a1 : Int32) (a2 : Int32) (a3 : Int32) (a4 : Int32) (k104 : Int32 → Int32 → Int32 → Dt → Option (Int32 × Dt)) : Nat → Int32 → Int32 → Int32 → Int32 → Int32 → Int32 → Dt → Option (Int32 × Dt)
  | 0, _, _, _, _, _, _, _ => none
  | f + 1, l1, l2, l3, l4, l5, l6, D => (if l3 ≤ l6 then (k104 l1 l2 l5 D) else (if l5 = 0 then (k104 l1 l2 l5 D) else (if (l6 - l6 / (2 : Int32) * (2 : Int32)) = 0 then (F_X11_playOf_b40 a1 a2 a3 a4 (fun l1_62 l2_63 l3_64 l4_65 l5_66 l6_67 D68 => (F_X11_playOf_b17 a1 a2 a3 a4 k104 f l1_62 l2_63 l3_64 l4_65 l5_66 l6_67 D68)) l1 l2 l3 l4 l5 l6 l1 D) else (F_X11_playOf_b40 a1 a2 a3 a4 (fun l1_55 l2_56 l3_57 l4_58 l5_59 l6_60 D61 => (F_X11_playOf_b17 a1 a2 a3 a4 k104 f l1_55 l2_56 l3_57 l4_58 l5_59 l6_60 D61)) l1 l2 l3 l4 l5 l6 l2 D))))
set_option maxRecDepth 100000 in
set_option maxHeartbeats 4000000 in
theorem T_X11_playOf_b17 {r : Int32} {D' : Dt} {X : Ctx} {l : Launch} {G : Gt} {A : Nat → Prop} {lv : Nat} {a1 : Int32} {a2 : Int32} {a3 : Int32} {a4 : Int32}  {k104 : Int32 → Int32 → Int32 → Dt → Option (Int32 × Dt)} (hG : Gok G A) (hlv : 9 ≤ lv)   (C : Cx X cX11_playOf RX11 G l A lv 9 (some .int) (some (.int r)) D') (hk104 : ∀ (l1 : Int32) (l2 : Int32) (l5 : Int32) (D : Dt), k104 l1 l2 l5 D = some (r, D') → J X (Rep G D) 104 [(0, .ref (ad G (11, 0, 0, 0))), (1, .int l1), (2, .int l2), (5, .int l5)] []) : ∀ (f : Nat) (l1 : Int32) (l2 : Int32) (l3 : Int32) (l4 : Int32) (l5 : Int32) (l6 : Int32) (D : Dt), F_X11_playOf_b17 a1 a2 a3 a4 k104 f l1 l2 l3 l4 l5 l6 D = some (r, D') → J X (Rep G D) 17 [(0, .ref (ad G (11, 0, 0, 0))), (1, .int l1), (2, .int l2), (3, .int l3), (4, .int l4), (5, .int l5), (6, .int l6)] [] := by
  intro f
  induction f with
  | zero =>
    intro l1 l2 l3 l4 l5 l6 D h
    exact nomatch h
  | succ f ih =>
    intro l1 l2 l3 l4 l5 l6 D h
    rw [F_X11_playOf_b17] at h
    refine j_iload C 6 dX11_playOf_17 rfl ?_
    refine j_iload_n C 3 dX11_playOf_19 rfl rfl ?_
    refine j_icmp_ge C 104 dX11_playOf_20 (by decide) (fun c2 => ?_) (fun c2 => ?_)
    · have h := ite_t c2 h
      refine j_sub [0, 1, 2, 5] [(0, .ref (ad G (11, 0, 0, 0))), (1, .int l1), (2, .int l2), (5, .int l5)] rfl ?_
      exact hk104 l1 l2 l5 D h
    · have h := ite_f c2 h
      refine j_iload C 5 dX11_playOf_23 rfl ?_
      refine j_if_eq C 104 dX11_playOf_25 (by decide) (fun c3 => ?_) (fun c3 => ?_)
      · have h := ite_t c3 h
        refine j_sub [0, 1, 2, 5] [(0, .ref (ad G (11, 0, 0, 0))), (1, .int l1), (2, .int l2), (5, .int l5)] rfl ?_
        exact hk104 l1 l2 l5 D h
      · have h := ite_f c3 h
        refine j_iload C 6 dX11_playOf_28 rfl ?_
        refine j_iconst C (2 : Int32) (by decide) dX11_playOf_30 ?_
        refine j_irem C (by decide) dX11_playOf_31 ?_
        refine j_if_ne C 39 dX11_playOf_32 (by decide) (fun c4 => ?_) (fun c4 => ?_)
        · have h := ite_f c4 h
          refine j_iload_n C 2 dX11_playOf_39 rfl rfl ?_
          refine T_X11_playOf_b40 hG hlv  C (fun l1_55 l2_56 l3_57 l4_58 l5_59 l6_60 D61 h => ?_) l1 l2 l3 l4 l5 l6 l2 D h
          · exact ih l1_55 l2_56 l3_57 l4_58 l5_59 l6_60 D61 h
        · have h := ite_t c4 h
          refine j_iload_n C 1 dX11_playOf_35 rfl rfl ?_
          refine j_goto C 40 dX11_playOf_36 (by decide) ?_
          refine T_X11_playOf_b40 hG hlv  C (fun l1_62 l2_63 l3_64 l4_65 l5_66 l6_67 D68 h => ?_) l1 l2 l3 l4 l5 l6 l1 D h
          · exact ih l1_62 l2_63 l3_64 l4_65 l5_66 l6_67 D68 h
def F_X11_playOf_b133 (a1 : Int32) (a2 : Int32) (a3 : Int32) (a4 : Int32)  (s0 : Int32) (D : Dt) : Option (Int32 × Dt) := (vbd (F_X11_laysBack  D) (fun D76 => (some (s0, D76))))
set_option maxRecDepth 100000 in
set_option maxHeartbeats 4000000 in
theorem T_X11_playOf_b133 {r : Int32} {D' : Dt} {X : Ctx} {l : Launch} {G : Gt} {A : Nat → Prop} {lv : Nat} {a1 : Int32} {a2 : Int32} {a3 : Int32} {a4 : Int32}   (hG : Gok G A) (hlv : 9 ≤ lv)   (C : Cx X cX11_playOf RX11 G l A lv 9 (some .int) (some (.int r)) D')  : ∀ (s0 : Int32) (D : Dt), F_X11_playOf_b133 a1 a2 a3 a4 s0 D = some (r, D') → J X (Rep G D) 133 [(0, .ref (ad G (11, 0, 0, 0)))] [.int s0] := by
  intro s0 D h
  unfold F_X11_playOf_b133 at h
  refine j_istore C [(6, .int s0), (0, .ref (ad G (11, 0, 0, 0)))] dX11_playOf_133 (Nat.le_of_ble_eq_true rfl) rfl rfl ?_
  refine j_aload_n C 1 dX11_playOf_135 rfl rfl ?_
  obtain ⟨D76, h75, h⟩ := vbd_x h
  refine j_callV C [] [] cl_X11_425 (M_X11_laysBack (lv := lv - 1) hG (by omega) h75) (by omega) dX11_playOf_136 (by decide) ⟨rfl, rfl⟩ rfl rfl (Nat.le_of_ble_eq_true rfl) ?_
  refine j_st (st' := []) rfl ?_
  refine j_iload C 0 dX11_playOf_139 rfl ?_
  obtain ⟨rfl, rfl⟩ := pr_x h
  exact j_iret C dX11_playOf_141
def F_X11_playOf (a1 : Int32) (a2 : Int32) (a3 : Int32) (a4 : Int32) (D : Dt) : Option (Int32 × Dt) := (bnd (setI D (11, 0, 0, 0) 42 (((1 : Int32) <<< (a1 &&& 31)) ||| ((1 : Int32) <<< (a2 &&& 31)))) (fun D1 => (F_X11_playOf_b17 a1 a2 a3 a4 (fun l1_69 l2_70 l5_71 D72 => (bnd (setI D72 (11, 0, 0, 0) 42 (0 : Int32)) (fun D73 => (if l5_71 = 0 then (F_X11_playOf_b133 a1 a2 a3 a4 (-100000 : Int32) D73) else (grd (inB l1_69 5 = true) (grd (inB l2_70 5 = true) (F_X11_playOf_b133 a1 a2 a3 a4 ((D73.1 (11, 0, 6, 0) (l1_69.toNatClampNeg)) - (D73.1 (11, 0, 6, 0) (l2_70.toNatClampNeg))) D73))))))) 2000 a1 a2 a3 a4 (1 : Int32) (0 : Int32) D1)))
set_option maxRecDepth 100000 in
set_option maxHeartbeats 4000000 in
theorem M_X11_playOf {l : Launch} {G : Gt} {A : Nat → Prop} {lv : Nat} {a1 : Int32} {a2 : Int32} {a3 : Int32} {a4 : Int32} {D : Dt} {r : Int32} {D' : Dt} (hG : Gok G A) (hlv : 9 ≤ lv)  (h : F_X11_playOf a1 a2 a3 a4 D = some (r, D')) : MD l G A lv yX11_playOf cX11_playOf 9 (some .int) [.ref (ad G (11, 0, 0, 0)), .int a1, .int a2, .int a3, .int a4] D (some (.int r)) D' := by
  unfold F_X11_playOf at h
  refine md_start RX11 hG (by decide +kernel) rfl (Nat.le_of_ble_eq_true rfl) (L := [(0, .ref (ad G (11, 0, 0, 0))), (1, .int a1), (2, .int a2), (3, .int a3), (4, .int a4)]) rfl (fun X C => ?_)
  refine j_iconst C (1 : Int32) (by decide) dX11_playOf_0 ?_
  refine j_istore C [(5, .int (1 : Int32)), (0, .ref (ad G (11, 0, 0, 0))), (1, .int a1), (2, .int a2), (3, .int a3), (4, .int a4)] dX11_playOf_1 (Nat.le_of_ble_eq_true rfl) rfl rfl ?_
  refine j_aload_n C 1 dX11_playOf_3 rfl rfl ?_
  refine j_iconst C (1 : Int32) (by decide) dX11_playOf_4 ?_
  refine j_iload_n C 2 dX11_playOf_5 rfl rfl ?_
  refine j_ishl C dX11_playOf_6 ?_
  refine j_iconst C (1 : Int32) (by decide) dX11_playOf_7 ?_
  refine j_iload_n C 3 dX11_playOf_8 rfl rfl ?_
  refine j_ishl C dX11_playOf_9 ?_
  refine j_ior C dX11_playOf_10 ?_
  obtain ⟨D1, eD1, h⟩ := bnd_x h
  refine j_putI C fl_X11_363 dX11_playOf_11 (by decide) ⟨rfl, rfl⟩ rfl rfl rfl ?_
  refine j_rep eD1 ?_
  refine j_iconst C (0 : Int32) (by decide) dX11_playOf_14 ?_
  refine j_istore C [(6, .int (0 : Int32)), (5, .int (1 : Int32)), (0, .ref (ad G (11, 0, 0, 0))), (1, .int a1), (2, .int a2), (3, .int a3), (4, .int a4)] dX11_playOf_15 (Nat.le_of_ble_eq_true rfl) rfl rfl ?_
  refine j_sub [2, 3, 4, 5, 6, 1, 0] [(0, .ref (ad G (11, 0, 0, 0))), (1, .int a1), (2, .int a2), (3, .int a3), (4, .int a4), (5, .int (1 : Int32)), (6, .int (0 : Int32))] rfl ?_
  refine T_X11_playOf_b17 hG hlv  C (fun l1_69 l2_70 l5_71 D72 h => ?_) 2000 a1 a2 a3 a4 (1 : Int32) (0 : Int32) D1 h
  · refine j_aload_n C 0 dX11_playOf_104 rfl rfl ?_
    refine j_iconst C (0 : Int32) (by decide) dX11_playOf_105 ?_
    obtain ⟨D73, eD73, h⟩ := bnd_x h
    refine j_putI C fl_X11_363 dX11_playOf_106 (by decide) ⟨rfl, rfl⟩ rfl rfl rfl ?_
    refine j_rep eD73 ?_
    refine j_iload C 3 dX11_playOf_109 rfl ?_
    refine j_if_eq C 130 dX11_playOf_111 (by decide) (fun c74 => ?_) (fun c74 => ?_)
    · have h := ite_t c74 h
      refine j_ldcw C (-100000 : Int32) kc_X11_444 dX11_playOf_130 ?_
      refine j_sub [0] [(0, .ref (ad G (11, 0, 0, 0)))] rfl ?_
      refine T_X11_playOf_b133 hG hlv  C  (-100000 : Int32) D73 h
    · have h := ite_f c74 h
      refine j_aload_n C 0 dX11_playOf_114 rfl rfl ?_
      refine j_getS C (11, 0, 6, 0) fl_X11_22 dX11_playOf_115 (by decide) ⟨rfl, rfl⟩ rfl rfl ?_
      refine j_iload_n C 1 dX11_playOf_118 rfl rfl ?_
      obtain ⟨g77, h⟩ := grd_x h
      refine j_ialdK C 5 (l1_69.toNatClampNeg) dX11_playOf_119 (V_f 5 (by decide) (by decide)) rfl g77 rfl ?_
      refine j_aload_n C 0 dX11_playOf_120 rfl rfl ?_
      refine j_getS C (11, 0, 6, 0) fl_X11_22 dX11_playOf_121 (by decide) ⟨rfl, rfl⟩ rfl rfl ?_
      refine j_iload_n C 2 dX11_playOf_124 rfl rfl ?_
      obtain ⟨g78, h⟩ := grd_x h
      refine j_ialdK C 5 (l2_70.toNatClampNeg) dX11_playOf_125 (V_f 5 (by decide) (by decide)) rfl g78 rfl ?_
      refine j_isub C dX11_playOf_126 ?_
      refine j_goto C 133 dX11_playOf_127 (by decide) ?_
      refine j_sub [0] [(0, .ref (ad G (11, 0, 0, 0)))] rfl ?_
      refine T_X11_playOf_b133 hG hlv  C  ((D73.1 (11, 0, 6, 0) (l1_69.toNatClampNeg)) - (D73.1 (11, 0, 6, 0) (l2_70.toNatClampNeg))) D73 h
def F_X11_better_b20 (a1 : Int32) (a2 : Int32) (a3 : Int32)  (l0 : Int32) (l1 : Int32) (s0 : Int32) (s1 : Int32) (D : Dt) : Option (Int32 × Dt) := (if s0 = s1 then (some (l1, D)) else (some (l0, D)))
set_option maxRecDepth 100000 in
set_option maxHeartbeats 4000000 in
theorem T_X11_better_b20 {r : Int32} {D' : Dt} {X : Ctx} {l : Launch} {G : Gt} {A : Nat → Prop} {lv : Nat} {a1 : Int32} {a2 : Int32} {a3 : Int32}   (hG : Gok G A) (hlv : 1 ≤ lv)   (C : Cx X cX11_better RX11 G l A lv 3 (some .int) (some (.int r)) D')  : ∀ (l0 : Int32) (l1 : Int32) (s0 : Int32) (s1 : Int32) (D : Dt), F_X11_better_b20 a1 a2 a3 l0 l1 s0 s1 D = some (r, D') → J X (Rep G D) 20 [(0, .int l0), (1, .int l1)] [.int s1, .int s0] := by
  intro l0 l1 s0 s1 D h
  unfold F_X11_better_b20 at h
  refine j_icmp_ne C 27 dX11_better_20 (by decide) (fun c3 => ?_) (fun c3 => ?_)
  · have h := ite_f c3 h
    refine j_iload_n C 0 dX11_better_27 rfl rfl ?_
    obtain ⟨rfl, rfl⟩ := pr_x h
    exact j_iret C dX11_better_28
  · have h := ite_t c3 h
    refine j_iload_n C 1 dX11_better_23 rfl rfl ?_
    refine j_goto C 28 dX11_better_24 (by decide) ?_
    obtain ⟨rfl, rfl⟩ := pr_x h
    exact j_iret C dX11_better_28
def F_X11_better (a1 : Int32) (a2 : Int32) (a3 : Int32) (D : Dt) : Option (Int32 × Dt) := (if a2 = (-100000 : Int32) then (some (a1, D)) else (if a2 ≤ a1 then (F_X11_better_b20 a1 a2 a3 a1 a2 a3 (0 : Int32) D) else (F_X11_better_b20 a1 a2 a3 a1 a2 a3 (1 : Int32) D)))
set_option maxRecDepth 100000 in
set_option maxHeartbeats 4000000 in
theorem M_X11_better {l : Launch} {G : Gt} {A : Nat → Prop} {lv : Nat} {a1 : Int32} {a2 : Int32} {a3 : Int32} {D : Dt} {r : Int32} {D' : Dt} (hG : Gok G A) (hlv : 1 ≤ lv)  (h : F_X11_better a1 a2 a3 D = some (r, D')) : MD l G A lv yX11_better cX11_better 3 (some .int) [.int a1, .int a2, .int a3] D (some (.int r)) D' := by
  unfold F_X11_better at h
  refine md_start RX11 hG (by decide +kernel) rfl (Nat.le_of_ble_eq_true rfl) (L := [(0, .int a1), (1, .int a2), (2, .int a3)]) rfl (fun X C => ?_)
  refine j_iload_n C 1 dX11_better_0 rfl rfl ?_
  refine j_ldcw C (-100000 : Int32) kc_X11_444 dX11_better_1 ?_
  refine j_icmp_ne C 9 dX11_better_4 (by decide) (fun c1 => ?_) (fun c1 => ?_)
  · have h := ite_f c1 h
    refine j_iload_n C 2 dX11_better_9 rfl rfl ?_
    refine j_iload_n C 1 dX11_better_10 rfl rfl ?_
    refine j_iload_n C 0 dX11_better_11 rfl rfl ?_
    refine j_icmp_le C 19 dX11_better_12 (by decide) (fun c2 => ?_) (fun c2 => ?_)
    · have h := ite_t c2 h
      refine j_iconst C (0 : Int32) (by decide) dX11_better_19 ?_
      refine j_sub [0, 1] [(0, .int a1), (1, .int a2)] rfl ?_
      refine T_X11_better_b20 hG hlv  C  a1 a2 a3 (0 : Int32) D h
    · have h := ite_f c2 h
      refine j_iconst C (1 : Int32) (by decide) dX11_better_15 ?_
      refine j_goto C 20 dX11_better_16 (by decide) ?_
      refine j_sub [0, 1] [(0, .int a1), (1, .int a2)] rfl ?_
      refine T_X11_better_b20 hG hlv  C  a1 a2 a3 (1 : Int32) D h
  · have h := ite_t c1 h
    refine j_iload_n C 0 dX11_better_7 rfl rfl ?_
    obtain ⟨rfl, rfl⟩ := pr_x h
    exact j_iret C dX11_better_8
def F_X11_game_b55 (a1 : Int32) (a2 : Int32) (a3 : Int32) (a4 : Int32) (k85 : Int32 → Int32 → Dt → Option (Int32 × Dt)) : Nat → Int32 → Int32 → Int32 → Int32 → Int32 → Dt → Option (Int32 × Dt)
  | 0, _, _, _, _, _, _ => none
  | f + 1, l1, l2, l3, l4, l5, D => (if ((1 : Int32) <<< (l3 &&& 31)) ≤ l5 then (k85 l3 l4 D) else (cbd (F_X11_playOf l1 l2 l3 l5 D) (fun r22 D23 => (grd (inB l5 16 = true) (bnd (setI D23 (11, 0, 52, 0) (l5.toNatClampNeg) r22) (fun D25 => (bnd (l5 + (1 : Int32)) (fun v26 => (F_X11_game_b55 a1 a2 a3 a4 k85 f l1 l2 l3 l4 v26 D25)))))))))
set_option maxRecDepth 100000 in
set_option maxHeartbeats 4000000 in
theorem T_X11_game_b55 {r : Int32} {D' : Dt} {X : Ctx} {l : Launch} {G : Gt} {A : Nat → Prop} {lv : Nat} {a1 : Int32} {a2 : Int32} {a3 : Int32} {a4 : Int32}  {k85 : Int32 → Int32 → Dt → Option (Int32 × Dt)} (hG : Gok G A) (hlv : 10 ≤ lv)   (C : Cx X cX11_game RX11 G l A lv 7 (some .int) (some (.int r)) D') (hk85 : ∀ (l3 : Int32) (l4 : Int32) (D : Dt), k85 l3 l4 D = some (r, D') → J X (Rep G D) 85 [(0, .ref (ad G (11, 0, 0, 0))), (3, .int l3), (4, .int l4)] []) : ∀ (f : Nat) (l1 : Int32) (l2 : Int32) (l3 : Int32) (l4 : Int32) (l5 : Int32) (D : Dt), F_X11_game_b55 a1 a2 a3 a4 k85 f l1 l2 l3 l4 l5 D = some (r, D') → J X (Rep G D) 55 [(0, .ref (ad G (11, 0, 0, 0))), (1, .int l1), (2, .int l2), (3, .int l3), (4, .int l4), (5, .int l5)] [] := by
  intro f
  induction f with
  | zero =>
    intro l1 l2 l3 l4 l5 D h
    exact nomatch h
  | succ f ih =>
    intro l1 l2 l3 l4 l5 D h
    rw [F_X11_game_b55] at h
    refine j_iload C 5 dX11_game_55 rfl ?_
    refine j_iconst C (1 : Int32) (by decide) dX11_game_57 ?_
    refine j_iload_n C 3 dX11_game_58 rfl rfl ?_
    refine j_ishl C dX11_game_59 ?_
    refine j_icmp_ge C 85 dX11_game_60 (by decide) (fun c20 => ?_) (fun c20 => ?_)
    · have h := ite_t c20 h
      refine j_sub [0, 3, 4] [(0, .ref (ad G (11, 0, 0, 0))), (3, .int l3), (4, .int l4)] rfl ?_
      exact hk85 l3 l4 D h
    · have h := ite_f c20 h
      refine j_aload_n C 0 dX11_game_63 rfl rfl ?_
      refine j_getS C (11, 0, 52, 0) fl_X11_115 dX11_game_64 (by decide) ⟨rfl, rfl⟩ rfl rfl ?_
      refine j_iload C 5 dX11_game_67 rfl ?_
      refine j_aload_n C 0 dX11_game_69 rfl rfl ?_
      refine j_iload_n C 1 dX11_game_70 rfl rfl ?_
      refine j_iload_n C 2 dX11_game_71 rfl rfl ?_
      refine j_iload_n C 3 dX11_game_72 rfl rfl ?_
      refine j_iload C 5 dX11_game_73 rfl ?_
      obtain ⟨r22, D23, h21, h⟩ := cbd_x h
      refine j_callV C [.int l1, .int l2, .int l3, .int l5] [.int l5, .ref (ad G (11, 0, 52, 0))] cl_X11_450 (M_X11_playOf (lv := lv - 1) hG (by omega) h21) (by omega) dX11_game_75 (by decide) ⟨rfl, rfl⟩ rfl rfl (Nat.le_of_ble_eq_true rfl) ?_
      refine j_st (st' := [.int r22, .int l5, .ref (ad G (11, 0, 52, 0))]) rfl ?_
      obtain ⟨g24, h⟩ := grd_x h
      obtain ⟨D25, eD25, h⟩ := bnd_x h
      refine j_iastK C 16 (l5.toNatClampNeg) dX11_game_78 (V_f 51 (by decide) (by decide)) rfl g24 rfl ?_
      refine j_rep eD25 ?_
      obtain ⟨v26, ev26, h⟩ := bnd_x h
      refine j_iinc C 5 [(5, .int v26), (0, .ref (ad G (11, 0, 0, 0))), (1, .int l1), (2, .int l2), (3, .int l3), (4, .int l4)] dX11_game_79 rfl (Nat.le_of_ble_eq_true rfl) (ev26.trans (congrArg (l5 + ·) (by decide))) rfl ?_
      refine j_goto C 55 dX11_game_82 (by decide) ?_
      refine j_sub [1, 2, 3, 4, 5, 0] [(0, .ref (ad G (11, 0, 0, 0))), (1, .int l1), (2, .int l2), (3, .int l3), (4, .int l4), (5, .int v26)] rfl ?_
      exact ih l1 l2 l3 l4 v26 D25 h
def F_X11_game_b145 (a1 : Int32) (a2 : Int32) (a3 : Int32) (a4 : Int32) (k98 : Int32 → Int32 → Int32 → Dt → Option (Int32 × Dt)) (l4 : Int32) (l5 : Int32) (l6 : Int32) (s1 : Int32) (s2 : Int32) (s3 : Int32) (s4 : Int32) (D : Dt) : Option (Int32 × Dt) := (cbd (F_X11_better s2 s3 s4 D) (fun r37 D38 => (grd (inB s1 16 = true) (bnd (setI D38 (11, 0, 52, 0) (s1.toNatClampNeg) r37) (fun D40 => (bnd (l6 + (1 : Int32)) (fun v41 => (k98 l4 l5 v41 D40))))))))
set_option maxRecDepth 100000 in
set_option maxHeartbeats 4000000 in
theorem T_X11_game_b145 {r : Int32} {D' : Dt} {X : Ctx} {l : Launch} {G : Gt} {A : Nat → Prop} {lv : Nat} {a1 : Int32} {a2 : Int32} {a3 : Int32} {a4 : Int32}  {k98 : Int32 → Int32 → Int32 → Dt → Option (Int32 × Dt)} (hG : Gok G A) (hlv : 10 ≤ lv)   (C : Cx X cX11_game RX11 G l A lv 7 (some .int) (some (.int r)) D') (hk98 : ∀ (l4 : Int32) (l5 : Int32) (l6 : Int32) (D : Dt), k98 l4 l5 l6 D = some (r, D') → J X (Rep G D) 98 [(0, .ref (ad G (11, 0, 0, 0))), (4, .int l4), (5, .int l5), (6, .int l6)] []) : ∀ (l4 : Int32) (l5 : Int32) (l6 : Int32) (s1 : Int32) (s2 : Int32) (s3 : Int32) (s4 : Int32) (D : Dt), F_X11_game_b145 a1 a2 a3 a4 k98 l4 l5 l6 s1 s2 s3 s4 D = some (r, D') → J X (Rep G D) 145 [(0, .ref (ad G (11, 0, 0, 0))), (4, .int l4), (5, .int l5), (6, .int l6)] [.int s4, .int s3, .int s2, .int s1, .ref (ad G (11, 0, 52, 0))] := by
  intro l4 l5 l6 s1 s2 s3 s4 D h
  unfold F_X11_game_b145 at h
  obtain ⟨r37, D38, h36, h⟩ := cbd_x h
  refine j_callS C [.int s2, .int s3, .int s4] [.int s1, .ref (ad G (11, 0, 52, 0))] cl_X11_453 (M_X11_better (lv := lv - 1) hG (by omega) h36) (by omega) dX11_game_145 rfl rfl (Nat.le_of_ble_eq_true rfl) ?_
  refine j_st (st' := [.int r37, .int s1, .ref (ad G (11, 0, 52, 0))]) rfl ?_
  obtain ⟨g39, h⟩ := grd_x h
  obtain ⟨D40, eD40, h⟩ := bnd_x h
  refine j_iastK C 16 (s1.toNatClampNeg) dX11_game_148 (V_f 51 (by decide) (by decide)) rfl g39 rfl ?_
  refine j_rep eD40 ?_
  obtain ⟨v41, ev41, h⟩ := bnd_x h
  refine j_iinc C 3 [(6, .int v41), (0, .ref (ad G (11, 0, 0, 0))), (4, .int l4), (5, .int l5)] dX11_game_149 rfl (Nat.le_of_ble_eq_true rfl) (ev41.trans (congrArg (l6 + ·) (by decide))) rfl ?_
  refine j_goto C 98 dX11_game_152 (by decide) ?_
  refine j_sub [1, 2, 3, 0] [(0, .ref (ad G (11, 0, 0, 0))), (4, .int l4), (5, .int l5), (6, .int v41)] rfl ?_
  exact hk98 l4 l5 v41 D40 h
def F_X11_game_b98 (a1 : Int32) (a2 : Int32) (a3 : Int32) (a4 : Int32) (k155 : Int32 → Int32 → Dt → Option (Int32 × Dt)) : Nat → Int32 → Int32 → Int32 → Dt → Option (Int32 × Dt)
  | 0, _, _, _, _ => none
  | f + 1, l4, l5, l6, D => (if ((1 : Int32) <<< (l5 &&& 31)) ≤ l6 then (k155 l4 l5 D) else (grd (inB ((2 : Int32) * l6) 16 = true) (grd (inB (((2 : Int32) * l6) + (1 : Int32)) 16 = true) (if (l5 - l5 / (2 : Int32) * (2 : Int32)) = 0 then (F_X11_game_b145 a1 a2 a3 a4 (fun l4_46 l5_47 l6_48 D49 => (F_X11_game_b98 a1 a2 a3 a4 k155 f l4_46 l5_47 l6_48 D49)) l4 l5 l6 l6 (D.1 (11, 0, 52, 0) (((2 : Int32) * l6).toNatClampNeg)) (D.1 (11, 0, 52, 0) ((((2 : Int32) * l6) + (1 : Int32)).toNatClampNeg)) (1 : Int32) D) else (F_X11_game_b145 a1 a2 a3 a4 (fun l4_42 l5_43 l6_44 D45 => (F_X11_game_b98 a1 a2 a3 a4 k155 f l4_42 l5_43 l6_44 D45)) l4 l5 l6 l6 (D.1 (11, 0, 52, 0) (((2 : Int32) * l6).toNatClampNeg)) (D.1 (11, 0, 52, 0) ((((2 : Int32) * l6) + (1 : Int32)).toNatClampNeg)) (0 : Int32) D)))))
set_option maxRecDepth 100000 in
set_option maxHeartbeats 4000000 in
theorem T_X11_game_b98 {r : Int32} {D' : Dt} {X : Ctx} {l : Launch} {G : Gt} {A : Nat → Prop} {lv : Nat} {a1 : Int32} {a2 : Int32} {a3 : Int32} {a4 : Int32}  {k155 : Int32 → Int32 → Dt → Option (Int32 × Dt)} (hG : Gok G A) (hlv : 10 ≤ lv)   (C : Cx X cX11_game RX11 G l A lv 7 (some .int) (some (.int r)) D') (hk155 : ∀ (l4 : Int32) (l5 : Int32) (D : Dt), k155 l4 l5 D = some (r, D') → J X (Rep G D) 155 [(0, .ref (ad G (11, 0, 0, 0))), (4, .int l4), (5, .int l5)] []) : ∀ (f : Nat) (l4 : Int32) (l5 : Int32) (l6 : Int32) (D : Dt), F_X11_game_b98 a1 a2 a3 a4 k155 f l4 l5 l6 D = some (r, D') → J X (Rep G D) 98 [(0, .ref (ad G (11, 0, 0, 0))), (4, .int l4), (5, .int l5), (6, .int l6)] [] := by
  intro f
  induction f with
  | zero =>
    intro l4 l5 l6 D h
    exact nomatch h
  | succ f ih =>
    intro l4 l5 l6 D h
    rw [F_X11_game_b98] at h
    refine j_iload C 3 dX11_game_98 rfl ?_
    refine j_iconst C (1 : Int32) (by decide) dX11_game_100 ?_
    refine j_iload C 2 dX11_game_101 rfl ?_
    refine j_ishl C dX11_game_103 ?_
    refine j_icmp_ge C 155 dX11_game_104 (by decide) (fun c32 => ?_) (fun c32 => ?_)
    · have h := ite_t c32 h
      refine j_sub [0, 1, 2] [(0, .ref (ad G (11, 0, 0, 0))), (4, .int l4), (5, .int l5)] rfl ?_
      exact hk155 l4 l5 D h
    · have h := ite_f c32 h
      refine j_aload_n C 0 dX11_game_107 rfl rfl ?_
      refine j_getS C (11, 0, 52, 0) fl_X11_115 dX11_game_108 (by decide) ⟨rfl, rfl⟩ rfl rfl ?_
      refine j_iload C 3 dX11_game_111 rfl ?_
      refine j_aload_n C 0 dX11_game_113 rfl rfl ?_
      refine j_getS C (11, 0, 52, 0) fl_X11_115 dX11_game_114 (by decide) ⟨rfl, rfl⟩ rfl rfl ?_
      refine j_iconst C (2 : Int32) (by decide) dX11_game_117 ?_
      refine j_iload C 3 dX11_game_118 rfl ?_
      refine j_imul C dX11_game_120 ?_
      obtain ⟨g33, h⟩ := grd_x h
      refine j_ialdK C 16 (((2 : Int32) * l6).toNatClampNeg) dX11_game_121 (V_f 51 (by decide) (by decide)) rfl g33 rfl ?_
      refine j_aload_n C 0 dX11_game_122 rfl rfl ?_
      refine j_getS C (11, 0, 52, 0) fl_X11_115 dX11_game_123 (by decide) ⟨rfl, rfl⟩ rfl rfl ?_
      refine j_iconst C (2 : Int32) (by decide) dX11_game_126 ?_
      refine j_iload C 3 dX11_game_127 rfl ?_
      refine j_imul C dX11_game_129 ?_
      refine j_iconst C (1 : Int32) (by decide) dX11_game_130 ?_
      refine j_iadd C dX11_game_131 ?_
      obtain ⟨g34, h⟩ := grd_x h
      refine j_ialdK C 16 ((((2 : Int32) * l6) + (1 : Int32)).toNatClampNeg) dX11_game_132 (V_f 51 (by decide) (by decide)) rfl g34 rfl ?_
      refine j_iload C 2 dX11_game_133 rfl ?_
      refine j_iconst C (2 : Int32) (by decide) dX11_game_135 ?_
      refine j_irem C (by decide) dX11_game_136 ?_
      refine j_if_ne C 144 dX11_game_137 (by decide) (fun c35 => ?_) (fun c35 => ?_)
      · have h := ite_f c35 h
        refine j_iconst C (0 : Int32) (by decide) dX11_game_144 ?_
        refine T_X11_game_b145 hG hlv  C (fun l4_42 l5_43 l6_44 D45 h => ?_) l4 l5 l6 l6 (D.1 (11, 0, 52, 0) (((2 : Int32) * l6).toNatClampNeg)) (D.1 (11, 0, 52, 0) ((((2 : Int32) * l6) + (1 : Int32)).toNatClampNeg)) (0 : Int32) D h
        · exact ih l4_42 l5_43 l6_44 D45 h
      · have h := ite_t c35 h
        refine j_iconst C (1 : Int32) (by decide) dX11_game_140 ?_
        refine j_goto C 145 dX11_game_141 (by decide) ?_
        refine T_X11_game_b145 hG hlv  C (fun l4_46 l5_47 l6_48 D49 h => ?_) l4 l5 l6 l6 (D.1 (11, 0, 52, 0) (((2 : Int32) * l6).toNatClampNeg)) (D.1 (11, 0, 52, 0) ((((2 : Int32) * l6) + (1 : Int32)).toNatClampNeg)) (1 : Int32) D h
        · exact ih l4_46 l5_47 l6_48 D49 h
def F_X11_game_b90 (a1 : Int32) (a2 : Int32) (a3 : Int32) (a4 : Int32) (k161 : Int32 → Dt → Option (Int32 × Dt)) : Nat → Int32 → Int32 → Dt → Option (Int32 × Dt)
  | 0, _, _, _ => none
  | f + 1, l4, l5, D => (if l5 ≤ 0 then (k161 l4 D) else (F_X11_game_b98 a1 a2 a3 a4 (fun l4_50 l5_51 D52 => (bnd (l5_51 + (-1 : Int32)) (fun v53 => (F_X11_game_b90 a1 a2 a3 a4 k161 f l4_50 v53 D52)))) 2000 l4 l5 (0 : Int32) D))
set_option maxRecDepth 100000 in
set_option maxHeartbeats 4000000 in
theorem T_X11_game_b90 {r : Int32} {D' : Dt} {X : Ctx} {l : Launch} {G : Gt} {A : Nat → Prop} {lv : Nat} {a1 : Int32} {a2 : Int32} {a3 : Int32} {a4 : Int32}  {k161 : Int32 → Dt → Option (Int32 × Dt)} (hG : Gok G A) (hlv : 10 ≤ lv)   (C : Cx X cX11_game RX11 G l A lv 7 (some .int) (some (.int r)) D') (hk161 : ∀ (l4 : Int32) (D : Dt), k161 l4 D = some (r, D') → J X (Rep G D) 161 [(0, .ref (ad G (11, 0, 0, 0))), (4, .int l4)] []) : ∀ (f : Nat) (l4 : Int32) (l5 : Int32) (D : Dt), F_X11_game_b90 a1 a2 a3 a4 k161 f l4 l5 D = some (r, D') → J X (Rep G D) 90 [(0, .ref (ad G (11, 0, 0, 0))), (4, .int l4), (5, .int l5)] [] := by
  intro f
  induction f with
  | zero =>
    intro l4 l5 D h
    exact nomatch h
  | succ f ih =>
    intro l4 l5 D h
    rw [F_X11_game_b90] at h
    refine j_iload C 2 dX11_game_90 rfl ?_
    refine j_if_le C 161 dX11_game_92 (by decide) (fun c31 => ?_) (fun c31 => ?_)
    · have h := ite_t c31 h
      refine j_sub [0, 1] [(0, .ref (ad G (11, 0, 0, 0))), (4, .int l4)] rfl ?_
      exact hk161 l4 D h
    · have h := ite_f c31 h
      refine j_iconst C (0 : Int32) (by decide) dX11_game_95 ?_
      refine j_istore C [(6, .int (0 : Int32)), (0, .ref (ad G (11, 0, 0, 0))), (4, .int l4), (5, .int l5)] dX11_game_96 (Nat.le_of_ble_eq_true rfl) rfl rfl ?_
      refine j_sub [1, 2, 3, 0] [(0, .ref (ad G (11, 0, 0, 0))), (4, .int l4), (5, .int l5), (6, .int (0 : Int32))] rfl ?_
      refine T_X11_game_b98 hG hlv  C (fun l4_50 l5_51 D52 h => ?_) 2000 l4 l5 (0 : Int32) D h
      · obtain ⟨v53, ev53, h⟩ := bnd_x h
        refine j_iinc C 2 [(5, .int v53), (0, .ref (ad G (11, 0, 0, 0))), (4, .int l4_50)] dX11_game_155 rfl (Nat.le_of_ble_eq_true rfl) (ev53.trans (congrArg (l5_51 + ·) (by decide))) rfl ?_
        refine j_goto C 90 dX11_game_158 (by decide) ?_
        refine j_sub [1, 2, 0] [(0, .ref (ad G (11, 0, 0, 0))), (4, .int l4_50), (5, .int v53)] rfl ?_
        exact ih l4_50 v53 D52 h
def F_X11_game_b193 (a1 : Int32) (a2 : Int32) (a3 : Int32) (a4 : Int32)  (l4 : Int32) (s0 : Int32) (D : Dt) : Option (Int32 × Dt) := (if l4 = 0 then (if s0 = 0 then (some ((D.1 (11, 0, 52, 0) 0), D)) else (some ((D.1 (11, 0, 52, 0) 1), D))) else (if s0 = 0 then (some ((0 : Int32), D)) else (some ((1 : Int32), D))))
set_option maxRecDepth 100000 in
set_option maxHeartbeats 4000000 in
theorem T_X11_game_b193 {r : Int32} {D' : Dt} {X : Ctx} {l : Launch} {G : Gt} {A : Nat → Prop} {lv : Nat} {a1 : Int32} {a2 : Int32} {a3 : Int32} {a4 : Int32}   (hG : Gok G A) (hlv : 10 ≤ lv)   (C : Cx X cX11_game RX11 G l A lv 7 (some .int) (some (.int r)) D')  : ∀ (l4 : Int32) (s0 : Int32) (D : Dt), F_X11_game_b193 a1 a2 a3 a4 l4 s0 D = some (r, D') → J X (Rep G D) 193 [(0, .ref (ad G (11, 0, 0, 0))), (4, .int l4)] [.int s0] := by
  intro l4 s0 D h
  unfold F_X11_game_b193 at h
  refine j_istore C [(5, .int s0), (0, .ref (ad G (11, 0, 0, 0))), (4, .int l4)] dX11_game_193 (Nat.le_of_ble_eq_true rfl) rfl rfl ?_
  refine j_iload C 2 dX11_game_195 rfl ?_
  refine j_if_ne C 223 dX11_game_197 (by decide) (fun c57 => ?_) (fun c57 => ?_)
  · have h := ite_f c57 h
    refine j_iload C 0 dX11_game_223 rfl ?_
    refine j_if_eq C 232 dX11_game_225 (by decide) (fun c58 => ?_) (fun c58 => ?_)
    · have h := ite_t c58 h
      refine j_iconst C (0 : Int32) (by decide) dX11_game_232 ?_
      obtain ⟨rfl, rfl⟩ := pr_x h
      exact j_iret C dX11_game_233
    · have h := ite_f c58 h
      refine j_iconst C (1 : Int32) (by decide) dX11_game_228 ?_
      refine j_goto C 233 dX11_game_229 (by decide) ?_
      obtain ⟨rfl, rfl⟩ := pr_x h
      exact j_iret C dX11_game_233
  · have h := ite_t c57 h
    refine j_iload C 0 dX11_game_200 rfl ?_
    refine j_if_eq C 214 dX11_game_202 (by decide) (fun c59 => ?_) (fun c59 => ?_)
    · have h := ite_t c59 h
      refine j_aload_n C 1 dX11_game_214 rfl rfl ?_
      refine j_getS C (11, 0, 52, 0) fl_X11_115 dX11_game_215 (by decide) ⟨rfl, rfl⟩ rfl rfl ?_
      refine j_iconst C (0 : Int32) (by decide) dX11_game_218 ?_
      refine j_ialdK C 16 0 dX11_game_219 (V_f 51 (by decide) (by decide)) rfl (by decide) (by decide) ?_
      refine j_goto C 233 dX11_game_220 (by decide) ?_
      obtain ⟨rfl, rfl⟩ := pr_x h
      exact j_iret C dX11_game_233
    · have h := ite_f c59 h
      refine j_aload_n C 1 dX11_game_205 rfl rfl ?_
      refine j_getS C (11, 0, 52, 0) fl_X11_115 dX11_game_206 (by decide) ⟨rfl, rfl⟩ rfl rfl ?_
      refine j_iconst C (1 : Int32) (by decide) dX11_game_209 ?_
      refine j_ialdK C 16 1 dX11_game_210 (V_f 51 (by decide) (by decide)) rfl (by decide) (by decide) ?_
      refine j_goto C 233 dX11_game_211 (by decide) ?_
      obtain ⟨rfl, rfl⟩ := pr_x h
      exact j_iret C dX11_game_233
def F_X11_game_b192 (a1 : Int32) (a2 : Int32) (a3 : Int32) (a4 : Int32)  (l4 : Int32) (D : Dt) : Option (Int32 × Dt) := (F_X11_game_b193 a1 a2 a3 a4 l4 (0 : Int32) D)
set_option maxRecDepth 100000 in
set_option maxHeartbeats 4000000 in
theorem T_X11_game_b192 {r : Int32} {D' : Dt} {X : Ctx} {l : Launch} {G : Gt} {A : Nat → Prop} {lv : Nat} {a1 : Int32} {a2 : Int32} {a3 : Int32} {a4 : Int32}   (hG : Gok G A) (hlv : 10 ≤ lv)   (C : Cx X cX11_game RX11 G l A lv 7 (some .int) (some (.int r)) D')  : ∀ (l4 : Int32) (D : Dt), F_X11_game_b192 a1 a2 a3 a4 l4 D = some (r, D') → J X (Rep G D) 192 [(0, .ref (ad G (11, 0, 0, 0))), (4, .int l4)] [] := by
  intro l4 D h
  unfold F_X11_game_b192 at h
  refine j_iconst C (0 : Int32) (by decide) dX11_game_192 ?_
  refine T_X11_game_b193 hG hlv  C  l4 (0 : Int32) D h
def F_X11_game (a1 : Int32) (a2 : Int32) (a3 : Int32) (a4 : Int32) (D : Dt) : Option (Int32 × Dt) := (cbd (F_X11_isLand a1 D) (fun r2 D3 => (if r2 = 0 then (some ((-100000 : Int32), D3)) else (cbd (F_X11_isLand a2 D3) (fun r6 D7 => (if r6 = 0 then (some ((-100000 : Int32), D7)) else (if a1 = a2 then (some ((-100000 : Int32), D7)) else (cbd (F_X11_in a3.toInt64 (1 : Int64) (4 : Int64) D7) (fun r11 D12 => (if r11 = 0 then (some ((-100000 : Int32), D12)) else (cbd (F_X11_in a4.toInt64 (0 : Int64) (1 : Int64) D12) (fun r15 D16 => (if r15 = 0 then (some ((-100000 : Int32), D16)) else (vbd (F_X11_keepsAll  D16) (fun D19 => (F_X11_game_b55 a1 a2 a3 a4 (fun l3_27 l4_28 D29 => (bnd (l3_27 - (1 : Int32)) (fun v30 => (F_X11_game_b90 a1 a2 a3 a4 (fun l4_54 D55 => (if (D55.1 (11, 0, 52, 0) 1) = (-100000 : Int32) then (F_X11_game_b192 a1 a2 a3 a4 l4_54 D55) else (if (D55.1 (11, 0, 52, 0) 1) ≤ (D55.1 (11, 0, 52, 0) 0) then (F_X11_game_b192 a1 a2 a3 a4 l4_54 D55) else (F_X11_game_b193 a1 a2 a3 a4 l4_54 (1 : Int32) D55)))) 2000 l4_28 v30 D29)))) 2000 a1 a2 a3 a4 (0 : Int32) D19))))))))))))))))
set_option maxRecDepth 100000 in
set_option maxHeartbeats 4000000 in
theorem M_X11_game {l : Launch} {G : Gt} {A : Nat → Prop} {lv : Nat} {a1 : Int32} {a2 : Int32} {a3 : Int32} {a4 : Int32} {D : Dt} {r : Int32} {D' : Dt} (hG : Gok G A) (hlv : 10 ≤ lv)  (h : F_X11_game a1 a2 a3 a4 D = some (r, D')) : MD l G A lv yX11_game cX11_game 7 (some .int) [.ref (ad G (11, 0, 0, 0)), .int a1, .int a2, .int a3, .int a4] D (some (.int r)) D' := by
  unfold F_X11_game at h
  refine md_start RX11 hG (by decide +kernel) rfl (Nat.le_of_ble_eq_true rfl) (L := [(0, .ref (ad G (11, 0, 0, 0))), (1, .int a1), (2, .int a2), (3, .int a3), (4, .int a4)]) rfl (fun X C => ?_)
  refine j_aload_n C 0 dX11_game_0 rfl rfl ?_
  refine j_iload_n C 1 dX11_game_1 rfl rfl ?_
  obtain ⟨r2, D3, h1, h⟩ := cbd_x h
  refine j_callV C [.int a1] [] cl_X11_340 (M_X11_isLand (lv := lv - 1) hG (by omega) h1) (by omega) dX11_game_2 (by decide) ⟨rfl, rfl⟩ rfl rfl (Nat.le_of_ble_eq_true rfl) ?_
  refine j_st (st' := [.int r2]) rfl ?_
  refine j_if_eq C 44 dX11_game_5 (by decide) (fun c4 => ?_) (fun c4 => ?_)
  · have h := ite_t c4 h
    refine j_ldcw C (-100000 : Int32) kc_X11_444 dX11_game_44 ?_
    obtain ⟨rfl, rfl⟩ := pr_x h
    exact j_iret C dX11_game_47
  · have h := ite_f c4 h
    refine j_aload_n C 0 dX11_game_8 rfl rfl ?_
    refine j_iload_n C 2 dX11_game_9 rfl rfl ?_
    obtain ⟨r6, D7, h5, h⟩ := cbd_x h
    refine j_callV C [.int a2] [] cl_X11_340 (M_X11_isLand (lv := lv - 1) hG (by omega) h5) (by omega) dX11_game_10 (by decide) ⟨rfl, rfl⟩ rfl rfl (Nat.le_of_ble_eq_true rfl) ?_
    refine j_st (st' := [.int r6]) rfl ?_
    refine j_if_eq C 44 dX11_game_13 (by decide) (fun c8 => ?_) (fun c8 => ?_)
    · have h := ite_t c8 h
      refine j_ldcw C (-100000 : Int32) kc_X11_444 dX11_game_44 ?_
      obtain ⟨rfl, rfl⟩ := pr_x h
      exact j_iret C dX11_game_47
    · have h := ite_f c8 h
      refine j_iload_n C 1 dX11_game_16 rfl rfl ?_
      refine j_iload_n C 2 dX11_game_17 rfl rfl ?_
      refine j_icmp_eq C 44 dX11_game_18 (by decide) (fun c9 => ?_) (fun c9 => ?_)
      · have h := ite_t c9 h
        refine j_ldcw C (-100000 : Int32) kc_X11_444 dX11_game_44 ?_
        obtain ⟨rfl, rfl⟩ := pr_x h
        exact j_iret C dX11_game_47
      · have h := ite_f c9 h
        refine j_iload_n C 3 dX11_game_21 rfl rfl ?_
        refine j_i2l C dX11_game_22 ?_
        refine j_lconst C (1 : Int64) (by decide) dX11_game_23 ?_
        refine j_ldc2 C (4 : Int64) kc_X11_435 dX11_game_24 ?_
        obtain ⟨r11, D12, h10, h⟩ := cbd_x h
        refine j_callS C [.long a3.toInt64, .long (1 : Int64), .long (4 : Int64)] [] cl_X11_134 (M_X11_in (lv := lv - 1) hG (by omega) h10) (by omega) dX11_game_27 rfl rfl (Nat.le_of_ble_eq_true rfl) ?_
        refine j_st (st' := [.int r11]) rfl ?_
        refine j_if_eq C 44 dX11_game_30 (by decide) (fun c13 => ?_) (fun c13 => ?_)
        · have h := ite_t c13 h
          refine j_ldcw C (-100000 : Int32) kc_X11_444 dX11_game_44 ?_
          obtain ⟨rfl, rfl⟩ := pr_x h
          exact j_iret C dX11_game_47
        · have h := ite_f c13 h
          refine j_iload C 4 dX11_game_33 rfl ?_
          refine j_i2l C dX11_game_35 ?_
          refine j_lconst C (0 : Int64) (by decide) dX11_game_36 ?_
          refine j_lconst C (1 : Int64) (by decide) dX11_game_37 ?_
          obtain ⟨r15, D16, h14, h⟩ := cbd_x h
          refine j_callS C [.long a4.toInt64, .long (0 : Int64), .long (1 : Int64)] [] cl_X11_134 (M_X11_in (lv := lv - 1) hG (by omega) h14) (by omega) dX11_game_38 rfl rfl (Nat.le_of_ble_eq_true rfl) ?_
          refine j_st (st' := [.int r15]) rfl ?_
          refine j_if_ne C 48 dX11_game_41 (by decide) (fun c17 => ?_) (fun c17 => ?_)
          · have h := ite_f c17 h
            refine j_aload_n C 0 dX11_game_48 rfl rfl ?_
            obtain ⟨D19, h18, h⟩ := vbd_x h
            refine j_callV C [] [] cl_X11_432 (M_X11_keepsAll (lv := lv - 1) hG (by omega) h18) (by omega) dX11_game_49 (by decide) ⟨rfl, rfl⟩ rfl rfl (Nat.le_of_ble_eq_true rfl) ?_
            refine j_st (st' := []) rfl ?_
            refine j_iconst C (0 : Int32) (by decide) dX11_game_52 ?_
            refine j_istore C [(5, .int (0 : Int32)), (0, .ref (ad G (11, 0, 0, 0))), (1, .int a1), (2, .int a2), (3, .int a3), (4, .int a4)] dX11_game_53 (Nat.le_of_ble_eq_true rfl) rfl rfl ?_
            refine j_sub [1, 2, 3, 4, 5, 0] [(0, .ref (ad G (11, 0, 0, 0))), (1, .int a1), (2, .int a2), (3, .int a3), (4, .int a4), (5, .int (0 : Int32))] rfl ?_
            refine T_X11_game_b55 hG hlv  C (fun l3_27 l4_28 D29 h => ?_) 2000 a1 a2 a3 a4 (0 : Int32) D19 h
            · refine j_iload_n C 1 dX11_game_85 rfl rfl ?_
              refine j_iconst C (1 : Int32) (by decide) dX11_game_86 ?_
              refine j_isub C dX11_game_87 ?_
              obtain ⟨v30, ev30, h⟩ := bnd_x h
              refine j_istore C [(5, .int v30), (0, .ref (ad G (11, 0, 0, 0))), (3, .int l3_27), (4, .int l4_28)] dX11_game_88 (Nat.le_of_ble_eq_true rfl) ev30 rfl ?_
              refine j_sub [1, 3, 0] [(0, .ref (ad G (11, 0, 0, 0))), (4, .int l4_28), (5, .int v30)] rfl ?_
              refine T_X11_game_b90 hG hlv  C (fun l4_54 D55 h => ?_) 2000 l4_28 v30 D29 h
              · refine j_aload_n C 0 dX11_game_161 rfl rfl ?_
                refine j_getS C (11, 0, 52, 0) fl_X11_115 dX11_game_162 (by decide) ⟨rfl, rfl⟩ rfl rfl ?_
                refine j_iconst C (1 : Int32) (by decide) dX11_game_165 ?_
                refine j_ialdK C 16 1 dX11_game_166 (V_f 51 (by decide) (by decide)) rfl (by decide) (by decide) ?_
                refine j_ldcw C (-100000 : Int32) kc_X11_444 dX11_game_167 ?_
                refine j_icmp_eq C 192 dX11_game_170 (by decide) (fun c56 => ?_) (fun c56 => ?_)
                · have h := ite_t c56 h
                  refine T_X11_game_b192 hG hlv  C  l4_54 D55 h
                · have h := ite_f c56 h
                  refine j_aload_n C 0 dX11_game_173 rfl rfl ?_
                  refine j_getS C (11, 0, 52, 0) fl_X11_115 dX11_game_174 (by decide) ⟨rfl, rfl⟩ rfl rfl ?_
                  refine j_iconst C (1 : Int32) (by decide) dX11_game_177 ?_
                  refine j_ialdK C 16 1 dX11_game_178 (V_f 51 (by decide) (by decide)) rfl (by decide) (by decide) ?_
                  refine j_aload_n C 0 dX11_game_179 rfl rfl ?_
                  refine j_getS C (11, 0, 52, 0) fl_X11_115 dX11_game_180 (by decide) ⟨rfl, rfl⟩ rfl rfl ?_
                  refine j_iconst C (0 : Int32) (by decide) dX11_game_183 ?_
                  refine j_ialdK C 16 0 dX11_game_184 (V_f 51 (by decide) (by decide)) rfl (by decide) (by decide) ?_
                  refine j_icmp_le C 192 dX11_game_185 (by decide) (fun c60 => ?_) (fun c60 => ?_)
                  · have h := ite_t c60 h
                    refine T_X11_game_b192 hG hlv  C  l4_54 D55 h
                  · have h := ite_f c60 h
                    refine j_iconst C (1 : Int32) (by decide) dX11_game_188 ?_
                    refine j_goto C 193 dX11_game_189 (by decide) ?_
                    refine T_X11_game_b193 hG hlv  C  l4_54 (1 : Int32) D55 h
          · have h := ite_t c17 h
            refine j_ldcw C (-100000 : Int32) kc_X11_444 dX11_game_44 ?_
            obtain ⟨rfl, rfl⟩ := pr_x h
            exact j_iret C dX11_game_47
def F_X11_shun_b104 (a1 : Int32) (a2 : Int32) (k45 : Int32 → Int32 → Int32 → Int32 → Int32 → Dt → Option (Int32 × Dt)) (l1 : Int32) (l2 : Int32) (l3 : Int32) (l4 : Int32) (l5 : Int32) (D : Dt) : Option (Int32 × Dt) := (bnd (l5 + (1 : Int32)) (fun v21 => (k45 l1 l2 l3 l4 v21 D)))
set_option maxRecDepth 100000 in
set_option maxHeartbeats 4000000 in
theorem T_X11_shun_b104 {r : Int32} {D' : Dt} {X : Ctx} {l : Launch} {G : Gt} {A : Nat → Prop} {lv : Nat} {a1 : Int32} {a2 : Int32}  {k45 : Int32 → Int32 → Int32 → Int32 → Int32 → Dt → Option (Int32 × Dt)} (hG : Gok G A) (hlv : 11 ≤ lv)   (C : Cx X cX11_shun RX11 G l A lv 7 (some .int) (some (.int r)) D') (hk45 : ∀ (l1 : Int32) (l2 : Int32) (l3 : Int32) (l4 : Int32) (l5 : Int32) (D : Dt), k45 l1 l2 l3 l4 l5 D = some (r, D') → J X (Rep G D) 45 [(0, .ref (ad G (11, 0, 0, 0))), (1, .int l1), (2, .int l2), (3, .int l3), (4, .int l4), (5, .int l5)] []) : ∀ (l1 : Int32) (l2 : Int32) (l3 : Int32) (l4 : Int32) (l5 : Int32) (D : Dt), F_X11_shun_b104 a1 a2 k45 l1 l2 l3 l4 l5 D = some (r, D') → J X (Rep G D) 104 [(0, .ref (ad G (11, 0, 0, 0))), (1, .int l1), (2, .int l2), (3, .int l3), (4, .int l4), (5, .int l5)] [] := by
  intro l1 l2 l3 l4 l5 D h
  unfold F_X11_shun_b104 at h
  obtain ⟨v21, ev21, h⟩ := bnd_x h
  refine j_iinc C 5 [(5, .int v21), (0, .ref (ad G (11, 0, 0, 0))), (1, .int l1), (2, .int l2), (3, .int l3), (4, .int l4)] dX11_shun_104 rfl (Nat.le_of_ble_eq_true rfl) (ev21.trans (congrArg (l5 + ·) (by decide))) rfl ?_
  refine j_goto C 45 dX11_shun_107 (by decide) ?_
  refine j_sub [1, 2, 3, 4, 5, 0] [(0, .ref (ad G (11, 0, 0, 0))), (1, .int l1), (2, .int l2), (3, .int l3), (4, .int l4), (5, .int v21)] rfl ?_
  exact hk45 l1 l2 l3 l4 v21 D h
def F_X11_shun_b97 (a1 : Int32) (a2 : Int32) (k45 : Int32 → Int32 → Int32 → Int32 → Int32 → Dt → Option (Int32 × Dt)) (l1 : Int32) (l2 : Int32) (l5 : Int32) (l6 : Int32) (D : Dt) : Option (Int32 × Dt) := (F_X11_shun_b104 a1 a2 (fun l1_22 l2_23 l3_24 l4_25 l5_26 D27 => (k45 l1_22 l2_23 l3_24 l4_25 l5_26 D27)) l1 l2 l5 l6 l5 D)
set_option maxRecDepth 100000 in
set_option maxHeartbeats 4000000 in
theorem T_X11_shun_b97 {r : Int32} {D' : Dt} {X : Ctx} {l : Launch} {G : Gt} {A : Nat → Prop} {lv : Nat} {a1 : Int32} {a2 : Int32}  {k45 : Int32 → Int32 → Int32 → Int32 → Int32 → Dt → Option (Int32 × Dt)} (hG : Gok G A) (hlv : 11 ≤ lv)   (C : Cx X cX11_shun RX11 G l A lv 7 (some .int) (some (.int r)) D') (hk45 : ∀ (l1 : Int32) (l2 : Int32) (l3 : Int32) (l4 : Int32) (l5 : Int32) (D : Dt), k45 l1 l2 l3 l4 l5 D = some (r, D') → J X (Rep G D) 45 [(0, .ref (ad G (11, 0, 0, 0))), (1, .int l1), (2, .int l2), (3, .int l3), (4, .int l4), (5, .int l5)] []) : ∀ (l1 : Int32) (l2 : Int32) (l5 : Int32) (l6 : Int32) (D : Dt), F_X11_shun_b97 a1 a2 k45 l1 l2 l5 l6 D = some (r, D') → J X (Rep G D) 97 [(0, .ref (ad G (11, 0, 0, 0))), (1, .int l1), (2, .int l2), (5, .int l5), (6, .int l6)] [] := by
  intro l1 l2 l5 l6 D h
  unfold F_X11_shun_b97 at h
  refine j_iload C 3 dX11_shun_97 rfl ?_
  refine j_istore_n C [(3, .int l5), (0, .ref (ad G (11, 0, 0, 0))), (1, .int l1), (2, .int l2), (5, .int l5), (6, .int l6)] dX11_shun_99 rfl (Nat.le_of_ble_eq_true rfl) rfl rfl ?_
  refine j_iload C 5 dX11_shun_100 rfl ?_
  refine j_istore C [(4, .int l6), (3, .int l5), (0, .ref (ad G (11, 0, 0, 0))), (1, .int l1), (2, .int l2), (5, .int l5), (6, .int l6)] dX11_shun_102 (Nat.le_of_ble_eq_true rfl) rfl rfl ?_
  refine j_sub [2, 3, 4, 1, 0, 5] [(0, .ref (ad G (11, 0, 0, 0))), (1, .int l1), (2, .int l2), (3, .int l5), (4, .int l6), (5, .int l5)] rfl ?_
  refine T_X11_shun_b104 hG hlv  C (fun l1_22 l2_23 l3_24 l4_25 l5_26 D27 h => ?_) l1 l2 l5 l6 l5 D h
  · exact hk45 l1_22 l2_23 l3_24 l4_25 l5_26 D27 h
def F_X11_shun_b45 (a1 : Int32) (a2 : Int32) (k110 : Int32 → Int32 → Int32 → Dt → Option (Int32 × Dt)) : Nat → Int32 → Int32 → Int32 → Int32 → Int32 → Dt → Option (Int32 × Dt)
  | 0, _, _, _, _, _, _ => none
  | f + 1, l1, l2, l3, l4, l5, D => (if ((1 : Int32) <<< ((D.1 (11, 0, 2, 0) 2) &&& 31)) ≤ l5 then (k110 l2 l3 l4 D) else (bnd (setI D (11, 0, 0, 0) 39 l5) (fun D16 => (cbd (F_X11_barnsIn l1 D16) (fun r18 D19 => (if l4 < r18 then (F_X11_shun_b97 a1 a2 (fun l1_28 l2_29 l3_30 l4_31 l5_32 D33 => (F_X11_shun_b45 a1 a2 k110 f l1_28 l2_29 l3_30 l4_31 l5_32 D33)) l1 l2 l5 r18 D19) else (if r18 = l4 then (cbd (F_X11_bits l5 D19) (fun r42 D43 => (cbd (F_X11_bits l3 D43) (fun r45 D46 => (if r45 ≤ r42 then (F_X11_shun_b104 a1 a2 (fun l1_48 l2_49 l3_50 l4_51 l5_52 D53 => (F_X11_shun_b45 a1 a2 k110 f l1_48 l2_49 l3_50 l4_51 l5_52 D53)) l1 l2 l3 l4 l5 D46) else (F_X11_shun_b97 a1 a2 (fun l1_54 l2_55 l3_56 l4_57 l5_58 D59 => (F_X11_shun_b45 a1 a2 k110 f l1_54 l2_55 l3_56 l4_57 l5_58 D59)) l1 l2 l5 r18 D46)))))) else (F_X11_shun_b104 a1 a2 (fun l1_35 l2_36 l3_37 l4_38 l5_39 D40 => (F_X11_shun_b45 a1 a2 k110 f l1_35 l2_36 l3_37 l4_38 l5_39 D40)) l1 l2 l3 l4 l5 D19))))))))
set_option maxRecDepth 100000 in
set_option maxHeartbeats 4000000 in
theorem T_X11_shun_b45 {r : Int32} {D' : Dt} {X : Ctx} {l : Launch} {G : Gt} {A : Nat → Prop} {lv : Nat} {a1 : Int32} {a2 : Int32}  {k110 : Int32 → Int32 → Int32 → Dt → Option (Int32 × Dt)} (hG : Gok G A) (hlv : 11 ≤ lv)   (C : Cx X cX11_shun RX11 G l A lv 7 (some .int) (some (.int r)) D') (hk110 : ∀ (l2 : Int32) (l3 : Int32) (l4 : Int32) (D : Dt), k110 l2 l3 l4 D = some (r, D') → J X (Rep G D) 110 [(0, .ref (ad G (11, 0, 0, 0))), (2, .int l2), (3, .int l3), (4, .int l4)] []) : ∀ (f : Nat) (l1 : Int32) (l2 : Int32) (l3 : Int32) (l4 : Int32) (l5 : Int32) (D : Dt), F_X11_shun_b45 a1 a2 k110 f l1 l2 l3 l4 l5 D = some (r, D') → J X (Rep G D) 45 [(0, .ref (ad G (11, 0, 0, 0))), (1, .int l1), (2, .int l2), (3, .int l3), (4, .int l4), (5, .int l5)] [] := by
  intro f
  induction f with
  | zero =>
    intro l1 l2 l3 l4 l5 D h
    exact nomatch h
  | succ f ih =>
    intro l1 l2 l3 l4 l5 D h
    rw [F_X11_shun_b45] at h
    refine j_iload C 5 dX11_shun_45 rfl ?_
    refine j_iconst C (1 : Int32) (by decide) dX11_shun_47 ?_
    refine j_aload_n C 0 dX11_shun_48 rfl rfl ?_
    refine j_getS C (11, 0, 2, 0) fl_X11_9 dX11_shun_49 (by decide) ⟨rfl, rfl⟩ rfl rfl ?_
    refine j_iconst C (2 : Int32) (by decide) dX11_shun_52 ?_
    refine j_ialdK C 9 2 dX11_shun_53 (V_f 1 (by decide) (by decide)) rfl (by decide) (by decide) ?_
    refine j_ishl C dX11_shun_54 ?_
    refine j_icmp_ge C 110 dX11_shun_55 (by decide) (fun c15 => ?_) (fun c15 => ?_)
    · have h := ite_t c15 h
      refine j_sub [0, 2, 3, 4] [(0, .ref (ad G (11, 0, 0, 0))), (2, .int l2), (3, .int l3), (4, .int l4)] rfl ?_
      exact hk110 l2 l3 l4 D h
    · have h := ite_f c15 h
      refine j_aload_n C 0 dX11_shun_58 rfl rfl ?_
      refine j_iload C 5 dX11_shun_59 rfl ?_
      obtain ⟨D16, eD16, h⟩ := bnd_x h
      refine j_putI C fl_X11_331 dX11_shun_61 (by decide) ⟨rfl, rfl⟩ rfl rfl rfl ?_
      refine j_rep eD16 ?_
      refine j_aload_n C 0 dX11_shun_64 rfl rfl ?_
      refine j_iload_n C 1 dX11_shun_65 rfl rfl ?_
      obtain ⟨r18, D19, h17, h⟩ := cbd_x h
      refine j_callV C [.int l1] [] cl_X11_441 (M_X11_barnsIn (lv := lv - 1) hG (by omega) h17) (by omega) dX11_shun_66 (by decide) ⟨rfl, rfl⟩ rfl rfl (Nat.le_of_ble_eq_true rfl) ?_
      refine j_st (st' := [.int r18]) rfl ?_
      refine j_istore C [(6, .int r18), (0, .ref (ad G (11, 0, 0, 0))), (1, .int l1), (2, .int l2), (3, .int l3), (4, .int l4), (5, .int l5)] dX11_shun_69 (Nat.le_of_ble_eq_true rfl) rfl rfl ?_
      refine j_iload C 0 dX11_shun_71 rfl ?_
      refine j_iload C 5 dX11_shun_73 rfl ?_
      refine j_icmp_gt C 97 dX11_shun_75 (by decide) (fun c20 => ?_) (fun c20 => ?_)
      · have h := ite_t c20 h
        refine j_sub [1, 2, 3, 6, 0] [(0, .ref (ad G (11, 0, 0, 0))), (1, .int l1), (2, .int l2), (5, .int l5), (6, .int r18)] rfl ?_
        refine T_X11_shun_b97 hG hlv  C (fun l1_28 l2_29 l3_30 l4_31 l5_32 D33 h => ?_) l1 l2 l5 r18 D19 h
        · exact ih l1_28 l2_29 l3_30 l4_31 l5_32 D33 h
      · have h := ite_f c20 h
        refine j_iload C 0 dX11_shun_78 rfl ?_
        refine j_iload C 5 dX11_shun_80 rfl ?_
        refine j_icmp_ne C 104 dX11_shun_82 (by decide) (fun c34 => ?_) (fun c34 => ?_)
        · have h := ite_f c34 h
          refine j_sub [1, 2, 3, 4, 5, 6] [(0, .ref (ad G (11, 0, 0, 0))), (1, .int l1), (2, .int l2), (3, .int l3), (4, .int l4), (5, .int l5)] rfl ?_
          refine T_X11_shun_b104 hG hlv  C (fun l1_35 l2_36 l3_37 l4_38 l5_39 D40 h => ?_) l1 l2 l3 l4 l5 D19 h
          · exact ih l1_35 l2_36 l3_37 l4_38 l5_39 D40 h
        · have h := ite_t c34 h
          refine j_iload C 6 dX11_shun_85 rfl ?_
          obtain ⟨r42, D43, h41, h⟩ := cbd_x h
          refine j_callS C [.int l5] [] cl_X11_459 (M_X11_bits (lv := lv - 1) hG (by omega) h41) (by omega) dX11_shun_87 rfl rfl (Nat.le_of_ble_eq_true rfl) ?_
          refine j_st (st' := [.int r42]) rfl ?_
          refine j_iload_n C 4 dX11_shun_90 rfl rfl ?_
          obtain ⟨r45, D46, h44, h⟩ := cbd_x h
          refine j_callS C [.int l3] [.int r42] cl_X11_459 (M_X11_bits (lv := lv - 1) hG (by omega) h44) (by omega) dX11_shun_91 rfl rfl (Nat.le_of_ble_eq_true rfl) ?_
          refine j_st (st' := [.int r45, .int r42]) rfl ?_
          refine j_icmp_ge C 104 dX11_shun_94 (by decide) (fun c47 => ?_) (fun c47 => ?_)
          · have h := ite_t c47 h
            refine j_sub [1, 2, 3, 4, 5, 6] [(0, .ref (ad G (11, 0, 0, 0))), (1, .int l1), (2, .int l2), (3, .int l3), (4, .int l4), (5, .int l5)] rfl ?_
            refine T_X11_shun_b104 hG hlv  C (fun l1_48 l2_49 l3_50 l4_51 l5_52 D53 h => ?_) l1 l2 l3 l4 l5 D46 h
            · exact ih l1_48 l2_49 l3_50 l4_51 l5_52 D53 h
          · have h := ite_f c47 h
            refine j_sub [1, 2, 3, 6, 0] [(0, .ref (ad G (11, 0, 0, 0))), (1, .int l1), (2, .int l2), (5, .int l5), (6, .int r18)] rfl ?_
            refine T_X11_shun_b97 hG hlv  C (fun l1_54 l2_55 l3_56 l4_57 l5_58 D59 h => ?_) l1 l2 l5 r18 D46 h
            · exact ih l1_54 l2_55 l3_56 l4_57 l5_58 D59 h
def F_X11_shun (a1 : Int32) (a2 : Int32) (D : Dt) : Option (Int32 × Dt) := (cbd (F_X11_isTable  D) (fun r2 D3 => (if r2 = 0 then (some ((-1 : Int32), D3)) else (cbd (F_X11_in a1.toInt64 (1 : Int64) (60 : Int64) D3) (fun r6 D7 => (if r6 = 0 then (some ((-1 : Int32), D7)) else (cbd (F_X11_in a2.toInt64 (0 : Int64) (2 : Int64) D7) (fun r10 D11 => (if r10 = 0 then (some ((-1 : Int32), D11)) else (vbd (F_X11_keepsAll  D11) (fun D14 => (F_X11_shun_b45 a1 a2 (fun l2_60 l3_61 l4_62 D63 => (bnd (setI D63 (11, 0, 0, 0) 39 (0 : Int32)) (fun D64 => (if l2_60 = 0 then (cbd (F_X11_bits l3_61 D64) (fun r68 D69 => (some (r68, D69)))) else (if l2_60 = (1 : Int32) then (some (l3_61, D64)) else (some (l4_62, D64))))))) 2000 a1 a2 (0 : Int32) (-1 : Int32) (0 : Int32) D14))))))))))))
set_option maxRecDepth 100000 in
set_option maxHeartbeats 4000000 in
theorem M_X11_shun {l : Launch} {G : Gt} {A : Nat → Prop} {lv : Nat} {a1 : Int32} {a2 : Int32} {D : Dt} {r : Int32} {D' : Dt} (hG : Gok G A) (hlv : 11 ≤ lv)  (h : F_X11_shun a1 a2 D = some (r, D')) : MD l G A lv yX11_shun cX11_shun 7 (some .int) [.ref (ad G (11, 0, 0, 0)), .int a1, .int a2] D (some (.int r)) D' := by
  unfold F_X11_shun at h
  refine md_start RX11 hG (by decide +kernel) rfl (Nat.le_of_ble_eq_true rfl) (L := [(0, .ref (ad G (11, 0, 0, 0))), (1, .int a1), (2, .int a2)]) rfl (fun X C => ?_)
  refine j_aload_n C 0 dX11_shun_0 rfl rfl ?_
  obtain ⟨r2, D3, h1, h⟩ := cbd_x h
  refine j_callV C [] [] cl_X11_405 (M_X11_isTable (lv := lv - 1) hG (by omega) h1) (by omega) dX11_shun_1 (by decide) ⟨rfl, rfl⟩ rfl rfl (Nat.le_of_ble_eq_true rfl) ?_
  refine j_st (st' := [.int r2]) rfl ?_
  refine j_if_eq C 31 dX11_shun_4 (by decide) (fun c4 => ?_) (fun c4 => ?_)
  · have h := ite_t c4 h
    refine j_iconst C (-1 : Int32) (by decide) dX11_shun_31 ?_
    obtain ⟨rfl, rfl⟩ := pr_x h
    exact j_iret C dX11_shun_32
  · have h := ite_f c4 h
    refine j_iload_n C 1 dX11_shun_7 rfl rfl ?_
    refine j_i2l C dX11_shun_8 ?_
    refine j_lconst C (1 : Int64) (by decide) dX11_shun_9 ?_
    refine j_ldc2 C (60 : Int64) kc_X11_347 dX11_shun_10 ?_
    obtain ⟨r6, D7, h5, h⟩ := cbd_x h
    refine j_callS C [.long a1.toInt64, .long (1 : Int64), .long (60 : Int64)] [] cl_X11_134 (M_X11_in (lv := lv - 1) hG (by omega) h5) (by omega) dX11_shun_13 rfl rfl (Nat.le_of_ble_eq_true rfl) ?_
    refine j_st (st' := [.int r6]) rfl ?_
    refine j_if_eq C 31 dX11_shun_16 (by decide) (fun c8 => ?_) (fun c8 => ?_)
    · have h := ite_t c8 h
      refine j_iconst C (-1 : Int32) (by decide) dX11_shun_31 ?_
      obtain ⟨rfl, rfl⟩ := pr_x h
      exact j_iret C dX11_shun_32
    · have h := ite_f c8 h
      refine j_iload_n C 2 dX11_shun_19 rfl rfl ?_
      refine j_i2l C dX11_shun_20 ?_
      refine j_lconst C (0 : Int64) (by decide) dX11_shun_21 ?_
      refine j_ldc2 C (2 : Int64) kc_X11_457 dX11_shun_22 ?_
      obtain ⟨r10, D11, h9, h⟩ := cbd_x h
      refine j_callS C [.long a2.toInt64, .long (0 : Int64), .long (2 : Int64)] [] cl_X11_134 (M_X11_in (lv := lv - 1) hG (by omega) h9) (by omega) dX11_shun_25 rfl rfl (Nat.le_of_ble_eq_true rfl) ?_
      refine j_st (st' := [.int r10]) rfl ?_
      refine j_if_ne C 33 dX11_shun_28 (by decide) (fun c12 => ?_) (fun c12 => ?_)
      · have h := ite_f c12 h
        refine j_iconst C (0 : Int32) (by decide) dX11_shun_33 ?_
        refine j_istore_n C [(3, .int (0 : Int32)), (0, .ref (ad G (11, 0, 0, 0))), (1, .int a1), (2, .int a2)] dX11_shun_34 rfl (Nat.le_of_ble_eq_true rfl) rfl rfl ?_
        refine j_iconst C (-1 : Int32) (by decide) dX11_shun_35 ?_
        refine j_istore C [(4, .int (-1 : Int32)), (3, .int (0 : Int32)), (0, .ref (ad G (11, 0, 0, 0))), (1, .int a1), (2, .int a2)] dX11_shun_36 (Nat.le_of_ble_eq_true rfl) rfl rfl ?_
        refine j_aload_n C 2 dX11_shun_38 rfl rfl ?_
        obtain ⟨D14, h13, h⟩ := vbd_x h
        refine j_callV C [] [] cl_X11_432 (M_X11_keepsAll (lv := lv - 1) hG (by omega) h13) (by omega) dX11_shun_39 (by decide) ⟨rfl, rfl⟩ rfl rfl (Nat.le_of_ble_eq_true rfl) ?_
        refine j_st (st' := []) rfl ?_
        refine j_iconst C (0 : Int32) (by decide) dX11_shun_42 ?_
        refine j_istore C [(5, .int (0 : Int32)), (4, .int (-1 : Int32)), (3, .int (0 : Int32)), (0, .ref (ad G (11, 0, 0, 0))), (1, .int a1), (2, .int a2)] dX11_shun_43 (Nat.le_of_ble_eq_true rfl) rfl rfl ?_
        refine j_sub [3, 4, 5, 2, 1, 0] [(0, .ref (ad G (11, 0, 0, 0))), (1, .int a1), (2, .int a2), (3, .int (0 : Int32)), (4, .int (-1 : Int32)), (5, .int (0 : Int32))] rfl ?_
        refine T_X11_shun_b45 hG hlv  C (fun l2_60 l3_61 l4_62 D63 h => ?_) 2000 a1 a2 (0 : Int32) (-1 : Int32) (0 : Int32) D14 h
        · refine j_aload_n C 0 dX11_shun_110 rfl rfl ?_
          refine j_iconst C (0 : Int32) (by decide) dX11_shun_111 ?_
          obtain ⟨D64, eD64, h⟩ := bnd_x h
          refine j_putI C fl_X11_331 dX11_shun_112 (by decide) ⟨rfl, rfl⟩ rfl rfl rfl ?_
          refine j_rep eD64 ?_
          refine j_iload_n C 1 dX11_shun_115 rfl rfl ?_
          refine j_if_ne C 126 dX11_shun_116 (by decide) (fun c65 => ?_) (fun c65 => ?_)
          · have h := ite_f c65 h
            refine j_iload_n C 1 dX11_shun_126 rfl rfl ?_
            refine j_iconst C (1 : Int32) (by decide) dX11_shun_127 ?_
            refine j_icmp_ne C 135 dX11_shun_128 (by decide) (fun c66 => ?_) (fun c66 => ?_)
            · have h := ite_f c66 h
              refine j_iload C 3 dX11_shun_135 rfl ?_
              obtain ⟨rfl, rfl⟩ := pr_x h
              exact j_iret C dX11_shun_137
            · have h := ite_t c66 h
              refine j_iload_n C 2 dX11_shun_131 rfl rfl ?_
              refine j_goto C 137 dX11_shun_132 (by decide) ?_
              obtain ⟨rfl, rfl⟩ := pr_x h
              exact j_iret C dX11_shun_137
          · have h := ite_t c65 h
            refine j_iload_n C 2 dX11_shun_119 rfl rfl ?_
            obtain ⟨r68, D69, h67, h⟩ := cbd_x h
            refine j_callS C [.int l3_61] [] cl_X11_459 (M_X11_bits (lv := lv - 1) hG (by omega) h67) (by omega) dX11_shun_120 rfl rfl (Nat.le_of_ble_eq_true rfl) ?_
            refine j_st (st' := [.int r68]) rfl ?_
            refine j_goto C 137 dX11_shun_123 (by decide) ?_
            obtain ⟨rfl, rfl⟩ := pr_x h
            exact j_iret C dX11_shun_137
      · have h := ite_t c12 h
        refine j_iconst C (-1 : Int32) (by decide) dX11_shun_31 ?_
        obtain ⟨rfl, rfl⟩ := pr_x h
        exact j_iret C dX11_shun_32
def F_X11_mother_b101 (a1 : Int32) (a2 : Int32) (k48 : Int32 → Int32 → Int32 → Int32 → Int32 → Dt → Option (Int32 × Dt)) (l1 : Int32) (l2 : Int32) (l3 : Int32) (l4 : Int32) (l5 : Int32) (D : Dt) : Option (Int32 × Dt) := (bnd (l5 + (1 : Int32)) (fun v28 => (k48 l1 l2 l3 l4 v28 D)))
set_option maxRecDepth 100000 in
set_option maxHeartbeats 4000000 in
theorem T_X11_mother_b101 {r : Int32} {D' : Dt} {X : Ctx} {l : Launch} {G : Gt} {A : Nat → Prop} {lv : Nat} {a1 : Int32} {a2 : Int32}  {k48 : Int32 → Int32 → Int32 → Int32 → Int32 → Dt → Option (Int32 × Dt)} (hG : Gok G A) (hlv : 11 ≤ lv)   (C : Cx X cX11_mother RX11 G l A lv 7 (some .int) (some (.int r)) D') (hk48 : ∀ (l1 : Int32) (l2 : Int32) (l3 : Int32) (l4 : Int32) (l5 : Int32) (D : Dt), k48 l1 l2 l3 l4 l5 D = some (r, D') → J X (Rep G D) 48 [(0, .ref (ad G (11, 0, 0, 0))), (1, .int l1), (2, .int l2), (3, .int l3), (4, .int l4), (5, .int l5)] []) : ∀ (l1 : Int32) (l2 : Int32) (l3 : Int32) (l4 : Int32) (l5 : Int32) (D : Dt), F_X11_mother_b101 a1 a2 k48 l1 l2 l3 l4 l5 D = some (r, D') → J X (Rep G D) 101 [(0, .ref (ad G (11, 0, 0, 0))), (1, .int l1), (2, .int l2), (3, .int l3), (4, .int l4), (5, .int l5)] [] := by
  intro l1 l2 l3 l4 l5 D h
  unfold F_X11_mother_b101 at h
  obtain ⟨v28, ev28, h⟩ := bnd_x h
  refine j_iinc C 5 [(5, .int v28), (0, .ref (ad G (11, 0, 0, 0))), (1, .int l1), (2, .int l2), (3, .int l3), (4, .int l4)] dX11_mother_101 rfl (Nat.le_of_ble_eq_true rfl) (ev28.trans (congrArg (l5 + ·) (by decide))) rfl ?_
  refine j_goto C 48 dX11_mother_104 (by decide) ?_
  refine j_sub [1, 2, 3, 4, 5, 0] [(0, .ref (ad G (11, 0, 0, 0))), (1, .int l1), (2, .int l2), (3, .int l3), (4, .int l4), (5, .int v28)] rfl ?_
  exact hk48 l1 l2 l3 l4 v28 D h
def F_X11_mother_b48 (a1 : Int32) (a2 : Int32) (k107 : Int32 → Int32 → Int32 → Dt → Option (Int32 × Dt)) : Nat → Int32 → Int32 → Int32 → Int32 → Int32 → Dt → Option (Int32 × Dt)
  | 0, _, _, _, _, _, _ => none
  | f + 1, l1, l2, l3, l4, l5, D => (if (D.1 (11, 0, 2, 0) 2) ≤ l5 then (k107 l2 l3 l4 D) else (grd (inB l5 5 = true) (cbd (F_X11_upTo ((D.1 (11, 0, 4, 0) (l5.toNatClampNeg)) + (1 : Int32)) (99 : Int32) D) (fun r21 D22 => (bnd (setI D22 (11, 0, 4, 0) (l5.toNatClampNeg) r21) (fun D23 => (cbd (F_X11_barnsIn l1 D23) (fun r25 D26 => (if r25 ≤ l4 then (F_X11_mother_b101 a1 a2 (fun l1_29 l2_30 l3_31 l4_32 l5_33 D34 => (F_X11_mother_b48 a1 a2 k107 f l1_29 l2_30 l3_31 l4_32 l5_33 D34)) l1 l2 l3 l4 l5 D26) else (F_X11_mother_b101 a1 a2 (fun l1_35 l2_36 l3_37 l4_38 l5_39 D40 => (F_X11_mother_b48 a1 a2 k107 f l1_35 l2_36 l3_37 l4_38 l5_39 D40)) l1 l2 l5 r25 l5 D26))))))))))
set_option maxRecDepth 100000 in
set_option maxHeartbeats 4000000 in
theorem T_X11_mother_b48 {r : Int32} {D' : Dt} {X : Ctx} {l : Launch} {G : Gt} {A : Nat → Prop} {lv : Nat} {a1 : Int32} {a2 : Int32}  {k107 : Int32 → Int32 → Int32 → Dt → Option (Int32 × Dt)} (hG : Gok G A) (hlv : 11 ≤ lv)   (C : Cx X cX11_mother RX11 G l A lv 7 (some .int) (some (.int r)) D') (hk107 : ∀ (l2 : Int32) (l3 : Int32) (l4 : Int32) (D : Dt), k107 l2 l3 l4 D = some (r, D') → J X (Rep G D) 107 [(2, .int l2), (3, .int l3), (4, .int l4)] []) : ∀ (f : Nat) (l1 : Int32) (l2 : Int32) (l3 : Int32) (l4 : Int32) (l5 : Int32) (D : Dt), F_X11_mother_b48 a1 a2 k107 f l1 l2 l3 l4 l5 D = some (r, D') → J X (Rep G D) 48 [(0, .ref (ad G (11, 0, 0, 0))), (1, .int l1), (2, .int l2), (3, .int l3), (4, .int l4), (5, .int l5)] [] := by
  intro f
  induction f with
  | zero =>
    intro l1 l2 l3 l4 l5 D h
    exact nomatch h
  | succ f ih =>
    intro l1 l2 l3 l4 l5 D h
    rw [F_X11_mother_b48] at h
    refine j_iload C 5 dX11_mother_48 rfl ?_
    refine j_aload_n C 0 dX11_mother_50 rfl rfl ?_
    refine j_getS C (11, 0, 2, 0) fl_X11_9 dX11_mother_51 (by decide) ⟨rfl, rfl⟩ rfl rfl ?_
    refine j_iconst C (2 : Int32) (by decide) dX11_mother_54 ?_
    refine j_ialdK C 9 2 dX11_mother_55 (V_f 1 (by decide) (by decide)) rfl (by decide) (by decide) ?_
    refine j_icmp_ge C 107 dX11_mother_56 (by decide) (fun c18 => ?_) (fun c18 => ?_)
    · have h := ite_t c18 h
      refine j_sub [2, 3, 4] [(2, .int l2), (3, .int l3), (4, .int l4)] rfl ?_
      exact hk107 l2 l3 l4 D h
    · have h := ite_f c18 h
      refine j_aload_n C 0 dX11_mother_59 rfl rfl ?_
      refine j_getS C (11, 0, 4, 0) fl_X11_16 dX11_mother_60 (by decide) ⟨rfl, rfl⟩ rfl rfl ?_
      refine j_iload C 5 dX11_mother_63 rfl ?_
      refine j_aload_n C 0 dX11_mother_65 rfl rfl ?_
      refine j_getS C (11, 0, 4, 0) fl_X11_16 dX11_mother_66 (by decide) ⟨rfl, rfl⟩ rfl rfl ?_
      refine j_iload C 5 dX11_mother_69 rfl ?_
      obtain ⟨g19, h⟩ := grd_x h
      refine j_ialdK C 5 (l5.toNatClampNeg) dX11_mother_71 (V_f 3 (by decide) (by decide)) rfl g19 rfl ?_
      refine j_iconst C (1 : Int32) (by decide) dX11_mother_72 ?_
      refine j_iadd C dX11_mother_73 ?_
      refine j_bipush C (99 : Int32) (by decide) dX11_mother_74 ?_
      obtain ⟨r21, D22, h20, h⟩ := cbd_x h
      refine j_callS C [.int ((D.1 (11, 0, 4, 0) (l5.toNatClampNeg)) + (1 : Int32)), .int (99 : Int32)] [.int l5, .ref (ad G (11, 0, 4, 0))] cl_X11_349 (M_X11_upTo (lv := lv - 1) hG (by omega) h20) (by omega) dX11_mother_76 rfl rfl (Nat.le_of_ble_eq_true rfl) ?_
      refine j_st (st' := [.int r21, .int l5, .ref (ad G (11, 0, 4, 0))]) rfl ?_
      obtain ⟨D23, eD23, h⟩ := bnd_x h
      refine j_iastK C 5 (l5.toNatClampNeg) dX11_mother_79 (V_f 3 (by decide) (by decide)) rfl g19 rfl ?_
      refine j_rep eD23 ?_
      refine j_aload_n C 0 dX11_mother_80 rfl rfl ?_
      refine j_iload_n C 1 dX11_mother_81 rfl rfl ?_
      obtain ⟨r25, D26, h24, h⟩ := cbd_x h
      refine j_callV C [.int l1] [] cl_X11_441 (M_X11_barnsIn (lv := lv - 1) hG (by omega) h24) (by omega) dX11_mother_82 (by decide) ⟨rfl, rfl⟩ rfl rfl (Nat.le_of_ble_eq_true rfl) ?_
      refine j_st (st' := [.int r25]) rfl ?_
      refine j_istore C [(6, .int r25), (0, .ref (ad G (11, 0, 0, 0))), (1, .int l1), (2, .int l2), (3, .int l3), (4, .int l4), (5, .int l5)] dX11_mother_85 (Nat.le_of_ble_eq_true rfl) rfl rfl ?_
      refine j_iload C 0 dX11_mother_87 rfl ?_
      refine j_iload C 5 dX11_mother_89 rfl ?_
      refine j_icmp_le C 101 dX11_mother_91 (by decide) (fun c27 => ?_) (fun c27 => ?_)
      · have h := ite_t c27 h
        refine j_sub [1, 2, 3, 4, 5, 6] [(0, .ref (ad G (11, 0, 0, 0))), (1, .int l1), (2, .int l2), (3, .int l3), (4, .int l4), (5, .int l5)] rfl ?_
        refine T_X11_mother_b101 hG hlv  C (fun l1_29 l2_30 l3_31 l4_32 l5_33 D34 h => ?_) l1 l2 l3 l4 l5 D26 h
        · exact ih l1_29 l2_30 l3_31 l4_32 l5_33 D34 h
      · have h := ite_f c27 h
        refine j_iload C 6 dX11_mother_94 rfl ?_
        refine j_istore_n C [(3, .int l5), (6, .int r25), (0, .ref (ad G (11, 0, 0, 0))), (1, .int l1), (2, .int l2), (4, .int l4), (5, .int l5)] dX11_mother_96 rfl (Nat.le_of_ble_eq_true rfl) rfl rfl ?_
        refine j_iload C 1 dX11_mother_97 rfl ?_
        refine j_istore C [(4, .int r25), (3, .int l5), (6, .int r25), (0, .ref (ad G (11, 0, 0, 0))), (1, .int l1), (2, .int l2), (5, .int l5)] dX11_mother_99 (Nat.le_of_ble_eq_true rfl) rfl rfl ?_
        refine j_sub [3, 4, 5, 1, 0, 6] [(0, .ref (ad G (11, 0, 0, 0))), (1, .int l1), (2, .int l2), (3, .int l5), (4, .int r25), (5, .int l5)] rfl ?_
        refine T_X11_mother_b101 hG hlv  C (fun l1_35 l2_36 l3_37 l4_38 l5_39 D40 h => ?_) l1 l2 l5 r25 l5 D26 h
        · exact ih l1_35 l2_36 l3_37 l4_38 l5_39 D40 h
def F_X11_mother (a1 : Int32) (a2 : Int32) (D : Dt) : Option (Int32 × Dt) := (cbd (F_X11_isTable  D) (fun r2 D3 => (if r2 = 0 then (some ((-2 : Int32), D3)) else (cbd (F_X11_in a1.toInt64 (1 : Int64) (60 : Int64) D3) (fun r6 D7 => (if r6 = 0 then (some ((-2 : Int32), D7)) else (cbd (F_X11_in a2.toInt64 (0 : Int64) (1 : Int64) D7) (fun r10 D11 => (if r10 = 0 then (some ((-2 : Int32), D11)) else (vbd (F_X11_keepsAll  D11) (fun D14 => (cbd (F_X11_barnsIn a1 D14) (fun r16 D17 => (F_X11_mother_b48 a1 a2 (fun l2_41 l3_42 l4_43 D44 => (if l2_41 = 0 then (some (l3_42, D44)) else (some (l4_43, D44)))) 2000 a1 a2 (-1 : Int32) r16 (0 : Int32) D17))))))))))))))
set_option maxRecDepth 100000 in
set_option maxHeartbeats 4000000 in
theorem M_X11_mother {l : Launch} {G : Gt} {A : Nat → Prop} {lv : Nat} {a1 : Int32} {a2 : Int32} {D : Dt} {r : Int32} {D' : Dt} (hG : Gok G A) (hlv : 11 ≤ lv)  (h : F_X11_mother a1 a2 D = some (r, D')) : MD l G A lv yX11_mother cX11_mother 7 (some .int) [.ref (ad G (11, 0, 0, 0)), .int a1, .int a2] D (some (.int r)) D' := by
  unfold F_X11_mother at h
  refine md_start RX11 hG (by decide +kernel) rfl (Nat.le_of_ble_eq_true rfl) (L := [(0, .ref (ad G (11, 0, 0, 0))), (1, .int a1), (2, .int a2)]) rfl (fun X C => ?_)
  refine j_aload_n C 0 dX11_mother_0 rfl rfl ?_
  obtain ⟨r2, D3, h1, h⟩ := cbd_x h
  refine j_callV C [] [] cl_X11_405 (M_X11_isTable (lv := lv - 1) hG (by omega) h1) (by omega) dX11_mother_1 (by decide) ⟨rfl, rfl⟩ rfl rfl (Nat.le_of_ble_eq_true rfl) ?_
  refine j_st (st' := [.int r2]) rfl ?_
  refine j_if_eq C 29 dX11_mother_4 (by decide) (fun c4 => ?_) (fun c4 => ?_)
  · have h := ite_t c4 h
    refine j_bipush C (-2 : Int32) (by decide) dX11_mother_29 ?_
    obtain ⟨rfl, rfl⟩ := pr_x h
    exact j_iret C dX11_mother_31
  · have h := ite_f c4 h
    refine j_iload_n C 1 dX11_mother_7 rfl rfl ?_
    refine j_i2l C dX11_mother_8 ?_
    refine j_lconst C (1 : Int64) (by decide) dX11_mother_9 ?_
    refine j_ldc2 C (60 : Int64) kc_X11_347 dX11_mother_10 ?_
    obtain ⟨r6, D7, h5, h⟩ := cbd_x h
    refine j_callS C [.long a1.toInt64, .long (1 : Int64), .long (60 : Int64)] [] cl_X11_134 (M_X11_in (lv := lv - 1) hG (by omega) h5) (by omega) dX11_mother_13 rfl rfl (Nat.le_of_ble_eq_true rfl) ?_
    refine j_st (st' := [.int r6]) rfl ?_
    refine j_if_eq C 29 dX11_mother_16 (by decide) (fun c8 => ?_) (fun c8 => ?_)
    · have h := ite_t c8 h
      refine j_bipush C (-2 : Int32) (by decide) dX11_mother_29 ?_
      obtain ⟨rfl, rfl⟩ := pr_x h
      exact j_iret C dX11_mother_31
    · have h := ite_f c8 h
      refine j_iload_n C 2 dX11_mother_19 rfl rfl ?_
      refine j_i2l C dX11_mother_20 ?_
      refine j_lconst C (0 : Int64) (by decide) dX11_mother_21 ?_
      refine j_lconst C (1 : Int64) (by decide) dX11_mother_22 ?_
      obtain ⟨r10, D11, h9, h⟩ := cbd_x h
      refine j_callS C [.long a2.toInt64, .long (0 : Int64), .long (1 : Int64)] [] cl_X11_134 (M_X11_in (lv := lv - 1) hG (by omega) h9) (by omega) dX11_mother_23 rfl rfl (Nat.le_of_ble_eq_true rfl) ?_
      refine j_st (st' := [.int r10]) rfl ?_
      refine j_if_ne C 32 dX11_mother_26 (by decide) (fun c12 => ?_) (fun c12 => ?_)
      · have h := ite_f c12 h
        refine j_aload_n C 0 dX11_mother_32 rfl rfl ?_
        obtain ⟨D14, h13, h⟩ := vbd_x h
        refine j_callV C [] [] cl_X11_432 (M_X11_keepsAll (lv := lv - 1) hG (by omega) h13) (by omega) dX11_mother_33 (by decide) ⟨rfl, rfl⟩ rfl rfl (Nat.le_of_ble_eq_true rfl) ?_
        refine j_st (st' := []) rfl ?_
        refine j_iconst C (-1 : Int32) (by decide) dX11_mother_36 ?_
        refine j_istore_n C [(3, .int (-1 : Int32)), (0, .ref (ad G (11, 0, 0, 0))), (1, .int a1), (2, .int a2)] dX11_mother_37 rfl (Nat.le_of_ble_eq_true rfl) rfl rfl ?_
        refine j_aload_n C 1 dX11_mother_38 rfl rfl ?_
        refine j_iload_n C 2 dX11_mother_39 rfl rfl ?_
        obtain ⟨r16, D17, h15, h⟩ := cbd_x h
        refine j_callV C [.int a1] [] cl_X11_441 (M_X11_barnsIn (lv := lv - 1) hG (by omega) h15) (by omega) dX11_mother_40 (by decide) ⟨rfl, rfl⟩ rfl rfl (Nat.le_of_ble_eq_true rfl) ?_
        refine j_st (st' := [.int r16]) rfl ?_
        refine j_istore C [(4, .int r16), (3, .int (-1 : Int32)), (0, .ref (ad G (11, 0, 0, 0))), (1, .int a1), (2, .int a2)] dX11_mother_43 (Nat.le_of_ble_eq_true rfl) rfl rfl ?_
        refine j_iconst C (0 : Int32) (by decide) dX11_mother_45 ?_
        refine j_istore C [(5, .int (0 : Int32)), (4, .int r16), (3, .int (-1 : Int32)), (0, .ref (ad G (11, 0, 0, 0))), (1, .int a1), (2, .int a2)] dX11_mother_46 (Nat.le_of_ble_eq_true rfl) rfl rfl ?_
        refine j_sub [3, 4, 5, 2, 1, 0] [(0, .ref (ad G (11, 0, 0, 0))), (1, .int a1), (2, .int a2), (3, .int (-1 : Int32)), (4, .int r16), (5, .int (0 : Int32))] rfl ?_
        refine T_X11_mother_b48 hG hlv  C (fun l2_41 l3_42 l4_43 D44 h => ?_) 2000 a1 a2 (-1 : Int32) r16 (0 : Int32) D17 h
        · refine j_iload_n C 0 dX11_mother_107 rfl rfl ?_
          refine j_if_ne C 115 dX11_mother_108 (by decide) (fun c45 => ?_) (fun c45 => ?_)
          · have h := ite_f c45 h
            refine j_iload C 2 dX11_mother_115 rfl ?_
            obtain ⟨rfl, rfl⟩ := pr_x h
            exact j_iret C dX11_mother_117
          · have h := ite_t c45 h
            refine j_iload_n C 1 dX11_mother_111 rfl rfl ?_
            refine j_goto C 117 dX11_mother_112 (by decide) ?_
            obtain ⟨rfl, rfl⟩ := pr_x h
            exact j_iret C dX11_mother_117
      · have h := ite_t c12 h
        refine j_bipush C (-2 : Int32) (by decide) dX11_mother_29 ?_
        obtain ⟨rfl, rfl⟩ := pr_x h
        exact j_iret C dX11_mother_31
def F_X11_parts_b120 (a1 : Int32) (a2 : Int32) (k46 : Int32 → Int32 → Int32 → Int32 → Int32 → Int32 → Dt → Option (Int32 × Dt)) (l1 : Int32) (l2 : Int32) (l3 : Int32) (l4 : Int32) (l6 : Int32) (s0 : Int32) (s1 : Int32) (D : Dt) : Option (Int32 × Dt) := (bnd (s0 + s1) (fun v20 => (bnd (l6 + (1 : Int32)) (fun v21 => (k46 l1 l2 l3 l4 v20 v21 D)))))
set_option maxRecDepth 100000 in
set_option maxHeartbeats 4000000 in
theorem T_X11_parts_b120 {r : Int32} {D' : Dt} {X : Ctx} {l : Launch} {G : Gt} {A : Nat → Prop} {lv : Nat} {a1 : Int32} {a2 : Int32}  {k46 : Int32 → Int32 → Int32 → Int32 → Int32 → Int32 → Dt → Option (Int32 × Dt)} (hG : Gok G A) (hlv : 3 ≤ lv)   (C : Cx X cX11_parts RX11 G l A lv 8 (some .int) (some (.int r)) D') (hk46 : ∀ (l1 : Int32) (l2 : Int32) (l3 : Int32) (l4 : Int32) (l5 : Int32) (l6 : Int32) (D : Dt), k46 l1 l2 l3 l4 l5 l6 D = some (r, D') → J X (Rep G D) 46 [(0, .ref (ad G (11, 0, 0, 0))), (1, .int l1), (2, .int l2), (3, .int l3), (4, .int l4), (5, .int l5), (6, .int l6)] []) : ∀ (l1 : Int32) (l2 : Int32) (l3 : Int32) (l4 : Int32) (l6 : Int32) (s0 : Int32) (s1 : Int32) (D : Dt), F_X11_parts_b120 a1 a2 k46 l1 l2 l3 l4 l6 s0 s1 D = some (r, D') → J X (Rep G D) 120 [(0, .ref (ad G (11, 0, 0, 0))), (1, .int l1), (2, .int l2), (3, .int l3), (4, .int l4), (6, .int l6)] [.int s1, .int s0] := by
  intro l1 l2 l3 l4 l6 s0 s1 D h
  unfold F_X11_parts_b120 at h
  refine j_iadd C dX11_parts_120 ?_
  obtain ⟨v20, ev20, h⟩ := bnd_x h
  refine j_istore C [(5, .int v20), (0, .ref (ad G (11, 0, 0, 0))), (1, .int l1), (2, .int l2), (3, .int l3), (4, .int l4), (6, .int l6)] dX11_parts_121 (Nat.le_of_ble_eq_true rfl) ev20 rfl ?_
  obtain ⟨v21, ev21, h⟩ := bnd_x h
  refine j_iinc C 6 [(6, .int v21), (5, .int v20), (0, .ref (ad G (11, 0, 0, 0))), (1, .int l1), (2, .int l2), (3, .int l3), (4, .int l4)] dX11_parts_123 rfl (Nat.le_of_ble_eq_true rfl) (ev21.trans (congrArg (l6 + ·) (by decide))) rfl ?_
  refine j_goto C 46 dX11_parts_126 (by decide) ?_
  refine j_sub [2, 3, 4, 5, 6, 1, 0] [(0, .ref (ad G (11, 0, 0, 0))), (1, .int l1), (2, .int l2), (3, .int l3), (4, .int l4), (5, .int v20), (6, .int v21)] rfl ?_
  exact hk46 l1 l2 l3 l4 v20 v21 D h
def F_X11_parts_b115 (a1 : Int32) (a2 : Int32) (k46 : Int32 → Int32 → Int32 → Int32 → Int32 → Int32 → Dt → Option (Int32 × Dt)) (l1 : Int32) (l2 : Int32) (l3 : Int32) (l4 : Int32) (l6 : Int32) (s0 : Int32) (D : Dt) : Option (Int32 × Dt) := (F_X11_parts_b120 a1 a2 (fun l1_22 l2_23 l3_24 l4_25 l5_26 l6_27 D28 => (k46 l1_22 l2_23 l3_24 l4_25 l5_26 l6_27 D28)) l1 l2 l3 l4 l6 s0 (1 : Int32) D)
set_option maxRecDepth 100000 in
set_option maxHeartbeats 4000000 in
theorem T_X11_parts_b115 {r : Int32} {D' : Dt} {X : Ctx} {l : Launch} {G : Gt} {A : Nat → Prop} {lv : Nat} {a1 : Int32} {a2 : Int32}  {k46 : Int32 → Int32 → Int32 → Int32 → Int32 → Int32 → Dt → Option (Int32 × Dt)} (hG : Gok G A) (hlv : 3 ≤ lv)   (C : Cx X cX11_parts RX11 G l A lv 8 (some .int) (some (.int r)) D') (hk46 : ∀ (l1 : Int32) (l2 : Int32) (l3 : Int32) (l4 : Int32) (l5 : Int32) (l6 : Int32) (D : Dt), k46 l1 l2 l3 l4 l5 l6 D = some (r, D') → J X (Rep G D) 46 [(0, .ref (ad G (11, 0, 0, 0))), (1, .int l1), (2, .int l2), (3, .int l3), (4, .int l4), (5, .int l5), (6, .int l6)] []) : ∀ (l1 : Int32) (l2 : Int32) (l3 : Int32) (l4 : Int32) (l6 : Int32) (s0 : Int32) (D : Dt), F_X11_parts_b115 a1 a2 k46 l1 l2 l3 l4 l6 s0 D = some (r, D') → J X (Rep G D) 115 [(0, .ref (ad G (11, 0, 0, 0))), (1, .int l1), (2, .int l2), (3, .int l3), (4, .int l4), (6, .int l6)] [.int s0] := by
  intro l1 l2 l3 l4 l6 s0 D h
  unfold F_X11_parts_b115 at h
  refine j_iconst C (1 : Int32) (by decide) dX11_parts_115 ?_
  refine j_goto C 120 dX11_parts_116 (by decide) ?_
  refine T_X11_parts_b120 hG hlv  C (fun l1_22 l2_23 l3_24 l4_25 l5_26 l6_27 D28 h => ?_) l1 l2 l3 l4 l6 s0 (1 : Int32) D h
  · exact hk46 l1_22 l2_23 l3_24 l4_25 l5_26 l6_27 D28 h
def F_X11_parts_b119 (a1 : Int32) (a2 : Int32) (k46 : Int32 → Int32 → Int32 → Int32 → Int32 → Int32 → Dt → Option (Int32 × Dt)) (l1 : Int32) (l2 : Int32) (l3 : Int32) (l4 : Int32) (l6 : Int32) (s0 : Int32) (D : Dt) : Option (Int32 × Dt) := (F_X11_parts_b120 a1 a2 (fun l1_37 l2_38 l3_39 l4_40 l5_41 l6_42 D43 => (k46 l1_37 l2_38 l3_39 l4_40 l5_41 l6_42 D43)) l1 l2 l3 l4 l6 s0 (0 : Int32) D)
set_option maxRecDepth 100000 in
set_option maxHeartbeats 4000000 in
theorem T_X11_parts_b119 {r : Int32} {D' : Dt} {X : Ctx} {l : Launch} {G : Gt} {A : Nat → Prop} {lv : Nat} {a1 : Int32} {a2 : Int32}  {k46 : Int32 → Int32 → Int32 → Int32 → Int32 → Int32 → Dt → Option (Int32 × Dt)} (hG : Gok G A) (hlv : 3 ≤ lv)   (C : Cx X cX11_parts RX11 G l A lv 8 (some .int) (some (.int r)) D') (hk46 : ∀ (l1 : Int32) (l2 : Int32) (l3 : Int32) (l4 : Int32) (l5 : Int32) (l6 : Int32) (D : Dt), k46 l1 l2 l3 l4 l5 l6 D = some (r, D') → J X (Rep G D) 46 [(0, .ref (ad G (11, 0, 0, 0))), (1, .int l1), (2, .int l2), (3, .int l3), (4, .int l4), (5, .int l5), (6, .int l6)] []) : ∀ (l1 : Int32) (l2 : Int32) (l3 : Int32) (l4 : Int32) (l6 : Int32) (s0 : Int32) (D : Dt), F_X11_parts_b119 a1 a2 k46 l1 l2 l3 l4 l6 s0 D = some (r, D') → J X (Rep G D) 119 [(0, .ref (ad G (11, 0, 0, 0))), (1, .int l1), (2, .int l2), (3, .int l3), (4, .int l4), (6, .int l6)] [.int s0] := by
  intro l1 l2 l3 l4 l6 s0 D h
  unfold F_X11_parts_b119 at h
  refine j_iconst C (0 : Int32) (by decide) dX11_parts_119 ?_
  refine T_X11_parts_b120 hG hlv  C (fun l1_37 l2_38 l3_39 l4_40 l5_41 l6_42 D43 h => ?_) l1 l2 l3 l4 l6 s0 (0 : Int32) D h
  · exact hk46 l1_37 l2_38 l3_39 l4_40 l5_41 l6_42 D43 h
def F_X11_parts_b46 (a1 : Int32) (a2 : Int32) (k129 : Int32 → Int32 → Int32 → Int32 → Int32 → Dt → Option (Int32 × Dt)) : Nat → Int32 → Int32 → Int32 → Int32 → Int32 → Int32 → Dt → Option (Int32 × Dt)
  | 0, _, _, _, _, _, _, _ => none
  | f + 1, l1, l2, l3, l4, l5, l6, D => (if (D.1 (11, 0, 2, 0) 2) ≤ l6 then (k129 l1 l2 l3 l4 l5 D) else (grd (inB l6 5 = true) (grd (¬ l3 = 0) (bnd (l4 - ((l1 * (D.1 (11, 0, 6, 0) (l6.toNatClampNeg))) / l3)) (fun v16 => (grd (inB l2 5 = true) (bnd (((l1 * (D.1 (11, 0, 6, 0) (l6.toNatClampNeg))) - (l1 * (D.1 (11, 0, 6, 0) (l6.toNatClampNeg))) / l3 * l3) - ((l1 * (D.1 (11, 0, 6, 0) (l2.toNatClampNeg))) - (l1 * (D.1 (11, 0, 6, 0) (l2.toNatClampNeg))) / l3 * l3)) (fun v18 => (if 0 < v18 then (F_X11_parts_b115 a1 a2 (fun l1_29 l2_30 l3_31 l4_32 l5_33 l6_34 D35 => (F_X11_parts_b46 a1 a2 k129 f l1_29 l2_30 l3_31 l4_32 l5_33 l6_34 D35)) l1 l2 l3 v16 l6 l5 D) else (if v18 = 0 then (if l2 ≤ l6 then (F_X11_parts_b119 a1 a2 (fun l1_52 l2_53 l3_54 l4_55 l5_56 l6_57 D58 => (F_X11_parts_b46 a1 a2 k129 f l1_52 l2_53 l3_54 l4_55 l5_56 l6_57 D58)) l1 l2 l3 v16 l6 l5 D) else (F_X11_parts_b115 a1 a2 (fun l1_59 l2_60 l3_61 l4_62 l5_63 l6_64 D65 => (F_X11_parts_b46 a1 a2 k129 f l1_59 l2_60 l3_61 l4_62 l5_63 l6_64 D65)) l1 l2 l3 v16 l6 l5 D)) else (F_X11_parts_b119 a1 a2 (fun l1_44 l2_45 l3_46 l4_47 l5_48 l6_49 D50 => (F_X11_parts_b46 a1 a2 k129 f l1_44 l2_45 l3_46 l4_47 l5_48 l6_49 D50)) l1 l2 l3 v16 l6 l5 D)))))))))))
set_option maxRecDepth 100000 in
set_option maxHeartbeats 4000000 in
theorem T_X11_parts_b46 {r : Int32} {D' : Dt} {X : Ctx} {l : Launch} {G : Gt} {A : Nat → Prop} {lv : Nat} {a1 : Int32} {a2 : Int32}  {k129 : Int32 → Int32 → Int32 → Int32 → Int32 → Dt → Option (Int32 × Dt)} (hG : Gok G A) (hlv : 3 ≤ lv)   (C : Cx X cX11_parts RX11 G l A lv 8 (some .int) (some (.int r)) D') (hk129 : ∀ (l1 : Int32) (l2 : Int32) (l3 : Int32) (l4 : Int32) (l5 : Int32) (D : Dt), k129 l1 l2 l3 l4 l5 D = some (r, D') → J X (Rep G D) 129 [(0, .ref (ad G (11, 0, 0, 0))), (1, .int l1), (2, .int l2), (3, .int l3), (4, .int l4), (5, .int l5)] []) : ∀ (f : Nat) (l1 : Int32) (l2 : Int32) (l3 : Int32) (l4 : Int32) (l5 : Int32) (l6 : Int32) (D : Dt), F_X11_parts_b46 a1 a2 k129 f l1 l2 l3 l4 l5 l6 D = some (r, D') → J X (Rep G D) 46 [(0, .ref (ad G (11, 0, 0, 0))), (1, .int l1), (2, .int l2), (3, .int l3), (4, .int l4), (5, .int l5), (6, .int l6)] [] := by
  intro f
  induction f with
  | zero =>
    intro l1 l2 l3 l4 l5 l6 D h
    exact nomatch h
  | succ f ih =>
    intro l1 l2 l3 l4 l5 l6 D h
    rw [F_X11_parts_b46] at h
    refine j_iload C 6 dX11_parts_46 rfl ?_
    refine j_aload_n C 0 dX11_parts_48 rfl rfl ?_
    refine j_getS C (11, 0, 2, 0) fl_X11_9 dX11_parts_49 (by decide) ⟨rfl, rfl⟩ rfl rfl ?_
    refine j_iconst C (2 : Int32) (by decide) dX11_parts_52 ?_
    refine j_ialdK C 9 2 dX11_parts_53 (V_f 1 (by decide) (by decide)) rfl (by decide) (by decide) ?_
    refine j_icmp_ge C 129 dX11_parts_54 (by decide) (fun c13 => ?_) (fun c13 => ?_)
    · have h := ite_t c13 h
      refine j_sub [0, 1, 2, 3, 4, 5] [(0, .ref (ad G (11, 0, 0, 0))), (1, .int l1), (2, .int l2), (3, .int l3), (4, .int l4), (5, .int l5)] rfl ?_
      exact hk129 l1 l2 l3 l4 l5 D h
    · have h := ite_f c13 h
      refine j_iload C 4 dX11_parts_57 rfl ?_
      refine j_iload_n C 1 dX11_parts_59 rfl rfl ?_
      refine j_aload_n C 0 dX11_parts_60 rfl rfl ?_
      refine j_getS C (11, 0, 6, 0) fl_X11_22 dX11_parts_61 (by decide) ⟨rfl, rfl⟩ rfl rfl ?_
      refine j_iload C 6 dX11_parts_64 rfl ?_
      obtain ⟨g14, h⟩ := grd_x h
      refine j_ialdK C 5 (l6.toNatClampNeg) dX11_parts_66 (V_f 5 (by decide) (by decide)) rfl g14 rfl ?_
      refine j_imul C dX11_parts_67 ?_
      refine j_iload_n C 3 dX11_parts_68 rfl rfl ?_
      obtain ⟨g15, h⟩ := grd_x h
      refine j_idiv C g15 dX11_parts_69 ?_
      refine j_isub C dX11_parts_70 ?_
      obtain ⟨v16, ev16, h⟩ := bnd_x h
      refine j_istore C [(4, .int v16), (0, .ref (ad G (11, 0, 0, 0))), (1, .int l1), (2, .int l2), (3, .int l3), (5, .int l5), (6, .int l6)] dX11_parts_71 (Nat.le_of_ble_eq_true rfl) ev16 rfl ?_
      refine j_iload_n C 2 dX11_parts_73 rfl rfl ?_
      refine j_aload_n C 1 dX11_parts_74 rfl rfl ?_
      refine j_getS C (11, 0, 6, 0) fl_X11_22 dX11_parts_75 (by decide) ⟨rfl, rfl⟩ rfl rfl ?_
      refine j_iload C 6 dX11_parts_78 rfl ?_
      refine j_ialdK C 5 (l6.toNatClampNeg) dX11_parts_80 (V_f 5 (by decide) (by decide)) rfl g14 rfl ?_
      refine j_imul C dX11_parts_81 ?_
      refine j_iload_n C 4 dX11_parts_82 rfl rfl ?_
      refine j_irem C g15 dX11_parts_83 ?_
      refine j_iload_n C 2 dX11_parts_84 rfl rfl ?_
      refine j_aload_n C 1 dX11_parts_85 rfl rfl ?_
      refine j_getS C (11, 0, 6, 0) fl_X11_22 dX11_parts_86 (by decide) ⟨rfl, rfl⟩ rfl rfl ?_
      refine j_iload_n C 3 dX11_parts_89 rfl rfl ?_
      obtain ⟨g17, h⟩ := grd_x h
      refine j_ialdK C 5 (l2.toNatClampNeg) dX11_parts_90 (V_f 5 (by decide) (by decide)) rfl g17 rfl ?_
      refine j_imul C dX11_parts_91 ?_
      refine j_iload_n C 4 dX11_parts_92 rfl rfl ?_
      refine j_irem C g15 dX11_parts_93 ?_
      refine j_isub C dX11_parts_94 ?_
      obtain ⟨v18, ev18, h⟩ := bnd_x h
      refine j_istore C [(7, .int v18), (4, .int v16), (0, .ref (ad G (11, 0, 0, 0))), (1, .int l1), (2, .int l2), (3, .int l3), (5, .int l5), (6, .int l6)] dX11_parts_95 (Nat.le_of_ble_eq_true rfl) ev18 rfl ?_
      refine j_iload C 6 dX11_parts_97 rfl ?_
      refine j_iload C 0 dX11_parts_99 rfl ?_
      refine j_if_gt C 115 dX11_parts_101 (by decide) (fun c19 => ?_) (fun c19 => ?_)
      · have h := ite_t c19 h
        refine j_sub [2, 3, 4, 5, 1, 7] [(0, .ref (ad G (11, 0, 0, 0))), (1, .int l1), (2, .int l2), (3, .int l3), (4, .int v16), (6, .int l6)] rfl ?_
        refine T_X11_parts_b115 hG hlv  C (fun l1_29 l2_30 l3_31 l4_32 l5_33 l6_34 D35 h => ?_) l1 l2 l3 v16 l6 l5 D h
        · exact ih l1_29 l2_30 l3_31 l4_32 l5_33 l6_34 D35 h
      · have h := ite_f c19 h
        refine j_iload C 0 dX11_parts_104 rfl ?_
        refine j_if_ne C 119 dX11_parts_106 (by decide) (fun c36 => ?_) (fun c36 => ?_)
        · have h := ite_f c36 h
          refine j_sub [2, 3, 4, 5, 1, 7] [(0, .ref (ad G (11, 0, 0, 0))), (1, .int l1), (2, .int l2), (3, .int l3), (4, .int v16), (6, .int l6)] rfl ?_
          refine T_X11_parts_b119 hG hlv  C (fun l1_44 l2_45 l3_46 l4_47 l5_48 l6_49 D50 h => ?_) l1 l2 l3 v16 l6 l5 D h
          · exact ih l1_44 l2_45 l3_46 l4_47 l5_48 l6_49 D50 h
        · have h := ite_t c36 h
          refine j_iload C 7 dX11_parts_109 rfl ?_
          refine j_iload_n C 4 dX11_parts_111 rfl rfl ?_
          refine j_icmp_ge C 119 dX11_parts_112 (by decide) (fun c51 => ?_) (fun c51 => ?_)
          · have h := ite_t c51 h
            refine j_sub [2, 3, 4, 5, 1, 7] [(0, .ref (ad G (11, 0, 0, 0))), (1, .int l1), (2, .int l2), (3, .int l3), (4, .int v16), (6, .int l6)] rfl ?_
            refine T_X11_parts_b119 hG hlv  C (fun l1_52 l2_53 l3_54 l4_55 l5_56 l6_57 D58 h => ?_) l1 l2 l3 v16 l6 l5 D h
            · exact ih l1_52 l2_53 l3_54 l4_55 l5_56 l6_57 D58 h
          · have h := ite_f c51 h
            refine j_sub [2, 3, 4, 5, 1, 7] [(0, .ref (ad G (11, 0, 0, 0))), (1, .int l1), (2, .int l2), (3, .int l3), (4, .int v16), (6, .int l6)] rfl ?_
            refine T_X11_parts_b115 hG hlv  C (fun l1_59 l2_60 l3_61 l4_62 l5_63 l6_64 D65 h => ?_) l1 l2 l3 v16 l6 l5 D h
            · exact ih l1_59 l2_60 l3_61 l4_62 l5_63 l6_64 D65 h
def F_X11_parts (a1 : Int32) (a2 : Int32) (D : Dt) : Option (Int32 × Dt) := (cbd (F_X11_isLand a2 D) (fun r2 D3 => (if r2 = 0 then (some ((-1 : Int32), D3)) else (cbd (F_X11_in a1.toInt64 (0 : Int64) (9999 : Int64) D3) (fun r6 D7 => (if r6 = 0 then (some ((-1 : Int32), D7)) else (cbd (F_X11_allOf (11, 0, 6, 0) D7) (fun r10 D11 => (if r10 = 0 then (some ((0 : Int32), D11)) else (F_X11_parts_b46 a1 a2 (fun l1_66 l2_67 l3_68 l4_69 l5_70 D71 => (grd (inB l2_67 5 = true) (grd (¬ l3_68 = 0) (if l4_69 ≤ l5_70 then (some ((((l1_66 * (D71.1 (11, 0, 6, 0) (l2_67.toNatClampNeg))) / l3_68) + (0 : Int32)), D71)) else (some ((((l1_66 * (D71.1 (11, 0, 6, 0) (l2_67.toNatClampNeg))) / l3_68) + (1 : Int32)), D71)))))) 2000 a1 a2 r10 a1 (0 : Int32) (0 : Int32) D11))))))))))
set_option maxRecDepth 100000 in
set_option maxHeartbeats 4000000 in
theorem M_X11_parts {l : Launch} {G : Gt} {A : Nat → Prop} {lv : Nat} {a1 : Int32} {a2 : Int32} {D : Dt} {r : Int32} {D' : Dt} (hG : Gok G A) (hlv : 3 ≤ lv)  (h : F_X11_parts a1 a2 D = some (r, D')) : MD l G A lv yX11_parts cX11_parts 8 (some .int) [.ref (ad G (11, 0, 0, 0)), .int a1, .int a2] D (some (.int r)) D' := by
  unfold F_X11_parts at h
  refine md_start RX11 hG (by decide +kernel) rfl (Nat.le_of_ble_eq_true rfl) (L := [(0, .ref (ad G (11, 0, 0, 0))), (1, .int a1), (2, .int a2)]) rfl (fun X C => ?_)
  refine j_aload_n C 0 dX11_parts_0 rfl rfl ?_
  refine j_iload_n C 2 dX11_parts_1 rfl rfl ?_
  obtain ⟨r2, D3, h1, h⟩ := cbd_x h
  refine j_callV C [.int a2] [] cl_X11_340 (M_X11_isLand (lv := lv - 1) hG (by omega) h1) (by omega) dX11_parts_2 (by decide) ⟨rfl, rfl⟩ rfl rfl (Nat.le_of_ble_eq_true rfl) ?_
  refine j_st (st' := [.int r2]) rfl ?_
  refine j_if_eq C 20 dX11_parts_5 (by decide) (fun c4 => ?_) (fun c4 => ?_)
  · have h := ite_t c4 h
    refine j_iconst C (-1 : Int32) (by decide) dX11_parts_20 ?_
    obtain ⟨rfl, rfl⟩ := pr_x h
    exact j_iret C dX11_parts_21
  · have h := ite_f c4 h
    refine j_iload_n C 1 dX11_parts_8 rfl rfl ?_
    refine j_i2l C dX11_parts_9 ?_
    refine j_lconst C (0 : Int64) (by decide) dX11_parts_10 ?_
    refine j_ldc2 C (9999 : Int64) kc_X11_448 dX11_parts_11 ?_
    obtain ⟨r6, D7, h5, h⟩ := cbd_x h
    refine j_callS C [.long a1.toInt64, .long (0 : Int64), .long (9999 : Int64)] [] cl_X11_134 (M_X11_in (lv := lv - 1) hG (by omega) h5) (by omega) dX11_parts_14 rfl rfl (Nat.le_of_ble_eq_true rfl) ?_
    refine j_st (st' := [.int r6]) rfl ?_
    refine j_if_ne C 22 dX11_parts_17 (by decide) (fun c8 => ?_) (fun c8 => ?_)
    · have h := ite_f c8 h
      refine j_aload_n C 0 dX11_parts_22 rfl rfl ?_
      refine j_aload_n C 0 dX11_parts_23 rfl rfl ?_
      refine j_getS C (11, 0, 6, 0) fl_X11_22 dX11_parts_24 (by decide) ⟨rfl, rfl⟩ rfl rfl ?_
      obtain ⟨r10, D11, h9, h⟩ := cbd_x h
      refine j_callV C [.ref (ad G (11, 0, 6, 0))] [] cl_X11_421 (M_X11_allOf (lv := lv - 1) hG (by omega) h9) (by omega) dX11_parts_27 (by decide) ⟨rfl, rfl⟩ rfl rfl (Nat.le_of_ble_eq_true rfl) ?_
      refine j_st (st' := [.int r10]) rfl ?_
      refine j_istore_n C [(3, .int r10), (0, .ref (ad G (11, 0, 0, 0))), (1, .int a1), (2, .int a2)] dX11_parts_30 rfl (Nat.le_of_ble_eq_true rfl) rfl rfl ?_
      refine j_iload_n C 0 dX11_parts_31 rfl rfl ?_
      refine j_if_ne C 37 dX11_parts_32 (by decide) (fun c12 => ?_) (fun c12 => ?_)
      · have h := ite_f c12 h
        refine j_iload_n C 2 dX11_parts_37 rfl rfl ?_
        refine j_istore C [(4, .int a1), (3, .int r10), (0, .ref (ad G (11, 0, 0, 0))), (1, .int a1), (2, .int a2)] dX11_parts_38 (Nat.le_of_ble_eq_true rfl) rfl rfl ?_
        refine j_iconst C (0 : Int32) (by decide) dX11_parts_40 ?_
        refine j_istore C [(5, .int (0 : Int32)), (4, .int a1), (3, .int r10), (0, .ref (ad G (11, 0, 0, 0))), (1, .int a1), (2, .int a2)] dX11_parts_41 (Nat.le_of_ble_eq_true rfl) rfl rfl ?_
        refine j_iconst C (0 : Int32) (by decide) dX11_parts_43 ?_
        refine j_istore C [(6, .int (0 : Int32)), (5, .int (0 : Int32)), (4, .int a1), (3, .int r10), (0, .ref (ad G (11, 0, 0, 0))), (1, .int a1), (2, .int a2)] dX11_parts_44 (Nat.le_of_ble_eq_true rfl) rfl rfl ?_
        refine j_sub [4, 5, 6, 3, 2, 1, 0] [(0, .ref (ad G (11, 0, 0, 0))), (1, .int a1), (2, .int a2), (3, .int r10), (4, .int a1), (5, .int (0 : Int32)), (6, .int (0 : Int32))] rfl ?_
        refine T_X11_parts_b46 hG hlv  C (fun l1_66 l2_67 l3_68 l4_69 l5_70 D71 h => ?_) 2000 a1 a2 r10 a1 (0 : Int32) (0 : Int32) D11 h
        · refine j_iload_n C 1 dX11_parts_129 rfl rfl ?_
          refine j_aload_n C 0 dX11_parts_130 rfl rfl ?_
          refine j_getS C (11, 0, 6, 0) fl_X11_22 dX11_parts_131 (by decide) ⟨rfl, rfl⟩ rfl rfl ?_
          refine j_iload_n C 2 dX11_parts_134 rfl rfl ?_
          obtain ⟨g72, h⟩ := grd_x h
          refine j_ialdK C 5 (l2_67.toNatClampNeg) dX11_parts_135 (V_f 5 (by decide) (by decide)) rfl g72 rfl ?_
          refine j_imul C dX11_parts_136 ?_
          refine j_iload_n C 3 dX11_parts_137 rfl rfl ?_
          obtain ⟨g73, h⟩ := grd_x h
          refine j_idiv C g73 dX11_parts_138 ?_
          refine j_iload C 5 dX11_parts_139 rfl ?_
          refine j_iload C 4 dX11_parts_141 rfl ?_
          refine j_icmp_ge C 150 dX11_parts_143 (by decide) (fun c74 => ?_) (fun c74 => ?_)
          · have h := ite_t c74 h
            refine j_iconst C (0 : Int32) (by decide) dX11_parts_150 ?_
            refine j_iadd C dX11_parts_151 ?_
            obtain ⟨rfl, rfl⟩ := pr_x h
            exact j_iret C dX11_parts_152
          · have h := ite_f c74 h
            refine j_iconst C (1 : Int32) (by decide) dX11_parts_146 ?_
            refine j_goto C 151 dX11_parts_147 (by decide) ?_
            refine j_iadd C dX11_parts_151 ?_
            obtain ⟨rfl, rfl⟩ := pr_x h
            exact j_iret C dX11_parts_152
      · have h := ite_t c12 h
        refine j_iconst C (0 : Int32) (by decide) dX11_parts_35 ?_
        obtain ⟨rfl, rfl⟩ := pr_x h
        exact j_iret C dX11_parts_36
    · have h := ite_t c8 h
      refine j_iconst C (-1 : Int32) (by decide) dX11_parts_20 ?_
      obtain ⟨rfl, rfl⟩ := pr_x h
      exact j_iret C dX11_parts_21
def F_X11_note_b57 (a1 : Int32) (a2 : Int32) (a3 : Int32)  (l1 : Int32) (l2 : Int32) (l3 : Int32) (l4 : Int32) (D : Dt) : Option (Int32 × Dt) := (if l2 = l3 then (some ((-2 : Int32), D)) else (if l4 = (10 : Int32) then (some ((-2 : Int32), D)) else (grd (inB l4 10 = true) (bnd (setI D (11, 0, 9, 0) (l4.toNatClampNeg) l1) (fun D15 => (bnd (setI D15 (11, 0, 10, 0) (l4.toNatClampNeg) l2) (fun D16 => (bnd (setI D16 (11, 0, 11, 0) (l4.toNatClampNeg) l3) (fun D17 => (bnd (setI D17 (11, 0, 2, 0) 6 ((D17.1 (11, 0, 2, 0) 6) + (1 : Int32))) (fun D18 => (some ((l4 + (1 : Int32)), D18)))))))))))))
set_option maxRecDepth 100000 in
set_option maxHeartbeats 4000000 in
theorem T_X11_note_b57 {r : Int32} {D' : Dt} {X : Ctx} {l : Launch} {G : Gt} {A : Nat → Prop} {lv : Nat} {a1 : Int32} {a2 : Int32} {a3 : Int32}   (hG : Gok G A) (hlv : 3 ≤ lv)   (C : Cx X cX11_note RX11 G l A lv 5 (some .int) (some (.int r)) D')  : ∀ (l1 : Int32) (l2 : Int32) (l3 : Int32) (l4 : Int32) (D : Dt), F_X11_note_b57 a1 a2 a3 l1 l2 l3 l4 D = some (r, D') → J X (Rep G D) 57 [(0, .ref (ad G (11, 0, 0, 0))), (1, .int l1), (2, .int l2), (3, .int l3), (4, .int l4)] [] := by
  intro l1 l2 l3 l4 D h
  unfold F_X11_note_b57 at h
  refine j_iload_n C 2 dX11_note_57 rfl rfl ?_
  refine j_iload_n C 3 dX11_note_58 rfl rfl ?_
  refine j_icmp_eq C 69 dX11_note_59 (by decide) (fun c12 => ?_) (fun c12 => ?_)
  · have h := ite_t c12 h
    refine j_bipush C (-2 : Int32) (by decide) dX11_note_69 ?_
    obtain ⟨rfl, rfl⟩ := pr_x h
    exact j_iret C dX11_note_71
  · have h := ite_f c12 h
    refine j_iload C 4 dX11_note_62 rfl ?_
    refine j_bipush C (10 : Int32) (by decide) dX11_note_64 ?_
    refine j_icmp_ne C 72 dX11_note_66 (by decide) (fun c13 => ?_) (fun c13 => ?_)
    · have h := ite_f c13 h
      refine j_aload_n C 0 dX11_note_72 rfl rfl ?_
      refine j_getS C (11, 0, 9, 0) fl_X11_31 dX11_note_73 (by decide) ⟨rfl, rfl⟩ rfl rfl ?_
      refine j_iload C 4 dX11_note_76 rfl ?_
      refine j_iload_n C 1 dX11_note_78 rfl rfl ?_
      obtain ⟨g14, h⟩ := grd_x h
      obtain ⟨D15, eD15, h⟩ := bnd_x h
      refine j_iastK C 10 (l4.toNatClampNeg) dX11_note_79 (V_f 8 (by decide) (by decide)) rfl g14 rfl ?_
      refine j_rep eD15 ?_
      refine j_aload_n C 0 dX11_note_80 rfl rfl ?_
      refine j_getS C (11, 0, 10, 0) fl_X11_34 dX11_note_81 (by decide) ⟨rfl, rfl⟩ rfl rfl ?_
      refine j_iload C 4 dX11_note_84 rfl ?_
      refine j_iload_n C 2 dX11_note_86 rfl rfl ?_
      obtain ⟨D16, eD16, h⟩ := bnd_x h
      refine j_iastK C 10 (l4.toNatClampNeg) dX11_note_87 (V_f 9 (by decide) (by decide)) rfl g14 rfl ?_
      refine j_rep eD16 ?_
      refine j_aload_n C 0 dX11_note_88 rfl rfl ?_
      refine j_getS C (11, 0, 11, 0) fl_X11_37 dX11_note_89 (by decide) ⟨rfl, rfl⟩ rfl rfl ?_
      refine j_iload C 4 dX11_note_92 rfl ?_
      refine j_iload_n C 3 dX11_note_94 rfl rfl ?_
      obtain ⟨D17, eD17, h⟩ := bnd_x h
      refine j_iastK C 10 (l4.toNatClampNeg) dX11_note_95 (V_f 10 (by decide) (by decide)) rfl g14 rfl ?_
      refine j_rep eD17 ?_
      refine j_aload_n C 0 dX11_note_96 rfl rfl ?_
      refine j_getS C (11, 0, 2, 0) fl_X11_9 dX11_note_97 (by decide) ⟨rfl, rfl⟩ rfl rfl ?_
      refine j_bipush C (6 : Int32) (by decide) dX11_note_100 ?_
      refine j_dup2 C rfl rfl dX11_note_102 ?_
      refine j_ialdK C 9 6 dX11_note_103 (V_f 1 (by decide) (by decide)) rfl (by decide) (by decide) ?_
      refine j_iconst C (1 : Int32) (by decide) dX11_note_104 ?_
      refine j_iadd C dX11_note_105 ?_
      obtain ⟨D18, eD18, h⟩ := bnd_x h
      refine j_iastK C 9 6 dX11_note_106 (V_f 1 (by decide) (by decide)) rfl (by decide) (by decide) ?_
      refine j_rep eD18 ?_
      refine j_iload C 4 dX11_note_107 rfl ?_
      refine j_iconst C (1 : Int32) (by decide) dX11_note_109 ?_
      refine j_iadd C dX11_note_110 ?_
      obtain ⟨rfl, rfl⟩ := pr_x h
      exact j_iret C dX11_note_111
    · have h := ite_t c13 h
      refine j_bipush C (-2 : Int32) (by decide) dX11_note_69 ?_
      obtain ⟨rfl, rfl⟩ := pr_x h
      exact j_iret C dX11_note_71
def F_X11_note (a1 : Int32) (a2 : Int32) (a3 : Int32) (D : Dt) : Option (Int32 × Dt) := (if a1 = (-1 : Int32) then (bnd (setI D (11, 0, 2, 0) 6 (0 : Int32)) (fun D23 => (some ((0 : Int32), D23)))) else (bnd (D.1 (11, 0, 2, 0) 6) (fun v2 => (cbd (F_X11_in a1.toInt64 (0 : Int64) (60 : Int64) D) (fun r4 D5 => (if r4 = 0 then (some ((-2 : Int32), D5)) else (cbd (F_X11_isLand a2 D5) (fun r8 D9 => (if r8 = 0 then (some ((-2 : Int32), D9)) else (if a3 = (-1 : Int32) then (F_X11_note_b57 a1 a2 a3 a1 a2 a3 v2 D9) else (cbd (F_X11_isLand a3 D9) (fun r20 D21 => (if r20 = 0 then (some ((-2 : Int32), D21)) else (F_X11_note_b57 a1 a2 a3 a1 a2 a3 v2 D21))))))))))))))
set_option maxRecDepth 100000 in
set_option maxHeartbeats 4000000 in
theorem M_X11_note {l : Launch} {G : Gt} {A : Nat → Prop} {lv : Nat} {a1 : Int32} {a2 : Int32} {a3 : Int32} {D : Dt} {r : Int32} {D' : Dt} (hG : Gok G A) (hlv : 3 ≤ lv)  (h : F_X11_note a1 a2 a3 D = some (r, D')) : MD l G A lv yX11_note cX11_note 5 (some .int) [.ref (ad G (11, 0, 0, 0)), .int a1, .int a2, .int a3] D (some (.int r)) D' := by
  unfold F_X11_note at h
  refine md_start RX11 hG (by decide +kernel) rfl (Nat.le_of_ble_eq_true rfl) (L := [(0, .ref (ad G (11, 0, 0, 0))), (1, .int a1), (2, .int a2), (3, .int a3)]) rfl (fun X C => ?_)
  refine j_iload_n C 1 dX11_note_0 rfl rfl ?_
  refine j_iconst C (-1 : Int32) (by decide) dX11_note_1 ?_
  refine j_icmp_ne C 15 dX11_note_2 (by decide) (fun c1 => ?_) (fun c1 => ?_)
  · have h := ite_f c1 h
    refine j_aload_n C 0 dX11_note_15 rfl rfl ?_
    refine j_getS C (11, 0, 2, 0) fl_X11_9 dX11_note_16 (by decide) ⟨rfl, rfl⟩ rfl rfl ?_
    refine j_bipush C (6 : Int32) (by decide) dX11_note_19 ?_
    refine j_ialdK C 9 6 dX11_note_21 (V_f 1 (by decide) (by decide)) rfl (by decide) (by decide) ?_
    obtain ⟨v2, ev2, h⟩ := bnd_x h
    refine j_istore C [(4, .int v2), (0, .ref (ad G (11, 0, 0, 0))), (1, .int a1), (2, .int a2), (3, .int a3)] dX11_note_22 (Nat.le_of_ble_eq_true rfl) ev2 rfl ?_
    refine j_iload_n C 2 dX11_note_24 rfl rfl ?_
    refine j_i2l C dX11_note_25 ?_
    refine j_lconst C (0 : Int64) (by decide) dX11_note_26 ?_
    refine j_ldc2 C (60 : Int64) kc_X11_347 dX11_note_27 ?_
    obtain ⟨r4, D5, h3, h⟩ := cbd_x h
    refine j_callS C [.long a1.toInt64, .long (0 : Int64), .long (60 : Int64)] [] cl_X11_134 (M_X11_in (lv := lv - 1) hG (by omega) h3) (by omega) dX11_note_30 rfl rfl (Nat.le_of_ble_eq_true rfl) ?_
    refine j_st (st' := [.int r4]) rfl ?_
    refine j_if_eq C 69 dX11_note_33 (by decide) (fun c6 => ?_) (fun c6 => ?_)
    · have h := ite_t c6 h
      refine j_bipush C (-2 : Int32) (by decide) dX11_note_69 ?_
      obtain ⟨rfl, rfl⟩ := pr_x h
      exact j_iret C dX11_note_71
    · have h := ite_f c6 h
      refine j_aload_n C 1 dX11_note_36 rfl rfl ?_
      refine j_iload_n C 3 dX11_note_37 rfl rfl ?_
      obtain ⟨r8, D9, h7, h⟩ := cbd_x h
      refine j_callV C [.int a2] [] cl_X11_340 (M_X11_isLand (lv := lv - 1) hG (by omega) h7) (by omega) dX11_note_38 (by decide) ⟨rfl, rfl⟩ rfl rfl (Nat.le_of_ble_eq_true rfl) ?_
      refine j_st (st' := [.int r8]) rfl ?_
      refine j_if_eq C 69 dX11_note_41 (by decide) (fun c10 => ?_) (fun c10 => ?_)
      · have h := ite_t c10 h
        refine j_bipush C (-2 : Int32) (by decide) dX11_note_69 ?_
        obtain ⟨rfl, rfl⟩ := pr_x h
        exact j_iret C dX11_note_71
      · have h := ite_f c10 h
        refine j_iload_n C 4 dX11_note_44 rfl rfl ?_
        refine j_iconst C (-1 : Int32) (by decide) dX11_note_45 ?_
        refine j_icmp_eq C 57 dX11_note_46 (by decide) (fun c11 => ?_) (fun c11 => ?_)
        · have h := ite_t c11 h
          refine j_sub [1, 2, 3, 4, 0] [(0, .ref (ad G (11, 0, 0, 0))), (1, .int a1), (2, .int a2), (3, .int a3), (4, .int v2)] rfl ?_
          refine T_X11_note_b57 hG hlv  C  a1 a2 a3 v2 D9 h
        · have h := ite_f c11 h
          refine j_aload_n C 1 dX11_note_49 rfl rfl ?_
          refine j_iload_n C 4 dX11_note_50 rfl rfl ?_
          obtain ⟨r20, D21, h19, h⟩ := cbd_x h
          refine j_callV C [.int a3] [] cl_X11_340 (M_X11_isLand (lv := lv - 1) hG (by omega) h19) (by omega) dX11_note_51 (by decide) ⟨rfl, rfl⟩ rfl rfl (Nat.le_of_ble_eq_true rfl) ?_
          refine j_st (st' := [.int r20]) rfl ?_
          refine j_if_eq C 69 dX11_note_54 (by decide) (fun c22 => ?_) (fun c22 => ?_)
          · have h := ite_t c22 h
            refine j_bipush C (-2 : Int32) (by decide) dX11_note_69 ?_
            obtain ⟨rfl, rfl⟩ := pr_x h
            exact j_iret C dX11_note_71
          · have h := ite_f c22 h
            refine j_sub [1, 2, 3, 4, 0] [(0, .ref (ad G (11, 0, 0, 0))), (1, .int a1), (2, .int a2), (3, .int a3), (4, .int v2)] rfl ?_
            refine T_X11_note_b57 hG hlv  C  a1 a2 a3 v2 D21 h
  · have h := ite_t c1 h
    refine j_aload_n C 0 dX11_note_5 rfl rfl ?_
    refine j_getS C (11, 0, 2, 0) fl_X11_9 dX11_note_6 (by decide) ⟨rfl, rfl⟩ rfl rfl ?_
    refine j_bipush C (6 : Int32) (by decide) dX11_note_9 ?_
    refine j_iconst C (0 : Int32) (by decide) dX11_note_11 ?_
    obtain ⟨D23, eD23, h⟩ := bnd_x h
    refine j_iastK C 9 6 dX11_note_12 (V_f 1 (by decide) (by decide)) rfl (by decide) (by decide) ?_
    refine j_rep eD23 ?_
    refine j_iconst C (0 : Int32) (by decide) dX11_note_13 ?_
    obtain ⟨rfl, rfl⟩ := pr_x h
    exact j_iret C dX11_note_14
def F_X11_couldRule_b27 (a1 : Int32) (k54 : Int32 → Dt → Option (Int32 × Dt)) : Nat → Int32 → Int32 → Dt → Option (Int32 × Dt)
  | 0, _, _, _ => none
  | f + 1, l2, l3, D => (if (5 : Int32) ≤ l3 then (k54 l2 D) else (grd (inB l3 5 = true) (grd (inB (((5 : Int32) * l2) + l3) 305 = true) (bnd (setI D (11, 0, 53, 0) ((((5 : Int32) * l2) + l3).toNatClampNeg) (D.1 (11, 0, 7, 0) (l3.toNatClampNeg))) (fun D11 => (bnd (l3 + (1 : Int32)) (fun v12 => (F_X11_couldRule_b27 a1 k54 f l2 v12 D11))))))))
set_option maxRecDepth 100000 in
set_option maxHeartbeats 4000000 in
theorem T_X11_couldRule_b27 {r : Int32} {D' : Dt} {X : Ctx} {l : Launch} {G : Gt} {A : Nat → Prop} {lv : Nat} {a1 : Int32}  {k54 : Int32 → Dt → Option (Int32 × Dt)} (hG : Gok G A) (hlv : 9 ≤ lv)   (C : Cx X cX11_couldRule RX11 G l A lv 4 (some .boolean) (some (.int r)) D') (hk54 : ∀ (l2 : Int32) (D : Dt), k54 l2 D = some (r, D') → J X (Rep G D) 54 [(0, .ref (ad G (11, 0, 0, 0))), (2, .int l2)] []) : ∀ (f : Nat) (l2 : Int32) (l3 : Int32) (D : Dt), F_X11_couldRule_b27 a1 k54 f l2 l3 D = some (r, D') → J X (Rep G D) 27 [(0, .ref (ad G (11, 0, 0, 0))), (2, .int l2), (3, .int l3)] [] := by
  intro f
  induction f with
  | zero =>
    intro l2 l3 D h
    exact nomatch h
  | succ f ih =>
    intro l2 l3 D h
    rw [F_X11_couldRule_b27] at h
    refine j_iload_n C 2 dX11_couldRule_27 rfl rfl ?_
    refine j_iconst C (5 : Int32) (by decide) dX11_couldRule_28 ?_
    refine j_icmp_ge C 54 dX11_couldRule_29 (by decide) (fun c8 => ?_) (fun c8 => ?_)
    · have h := ite_t c8 h
      refine j_sub [0, 1] [(0, .ref (ad G (11, 0, 0, 0))), (2, .int l2)] rfl ?_
      exact hk54 l2 D h
    · have h := ite_f c8 h
      refine j_aload_n C 0 dX11_couldRule_32 rfl rfl ?_
      refine j_getS C (11, 0, 53, 0) fl_X11_118 dX11_couldRule_33 (by decide) ⟨rfl, rfl⟩ rfl rfl ?_
      refine j_iconst C (5 : Int32) (by decide) dX11_couldRule_36 ?_
      refine j_iload_n C 1 dX11_couldRule_37 rfl rfl ?_
      refine j_imul C dX11_couldRule_38 ?_
      refine j_iload_n C 2 dX11_couldRule_39 rfl rfl ?_
      refine j_iadd C dX11_couldRule_40 ?_
      refine j_aload_n C 0 dX11_couldRule_41 rfl rfl ?_
      refine j_getS C (11, 0, 7, 0) fl_X11_25 dX11_couldRule_42 (by decide) ⟨rfl, rfl⟩ rfl rfl ?_
      refine j_iload_n C 2 dX11_couldRule_45 rfl rfl ?_
      obtain ⟨g9, h⟩ := grd_x h
      refine j_ialdK C 5 (l3.toNatClampNeg) dX11_couldRule_46 (V_f 6 (by decide) (by decide)) rfl g9 rfl ?_
      obtain ⟨g10, h⟩ := grd_x h
      obtain ⟨D11, eD11, h⟩ := bnd_x h
      refine j_iastK C 305 ((((5 : Int32) * l2) + l3).toNatClampNeg) dX11_couldRule_47 (V_f 52 (by decide) (by decide)) rfl g10 rfl ?_
      refine j_rep eD11 ?_
      obtain ⟨v12, ev12, h⟩ := bnd_x h
      refine j_iinc C 2 [(3, .int v12), (0, .ref (ad G (11, 0, 0, 0))), (2, .int l2)] dX11_couldRule_48 rfl (Nat.le_of_ble_eq_true rfl) (ev12.trans (congrArg (l3 + ·) (by decide))) rfl ?_
      refine j_goto C 27 dX11_couldRule_51 (by decide) ?_
      refine j_sub [1, 2, 0] [(0, .ref (ad G (11, 0, 0, 0))), (2, .int l2), (3, .int v12)] rfl ?_
      exact ih l2 v12 D11 h
def F_X11_couldRule_b14 (a1 : Int32) (k60 : Dt → Option (Int32 × Dt)) : Nat → Int32 → Dt → Option (Int32 × Dt)
  | 0, _, _ => none
  | f + 1, l2, D => (if (61 : Int32) ≤ l2 then (k60  D) else (cbd (F_X11_goes  D) (fun r6 D7 => (F_X11_couldRule_b27 a1 (fun l2_13 D14 => (bnd (l2_13 + (1 : Int32)) (fun v15 => (F_X11_couldRule_b14 a1 k60 f v15 D14)))) 2000 l2 (0 : Int32) D7))))
set_option maxRecDepth 100000 in
set_option maxHeartbeats 4000000 in
theorem T_X11_couldRule_b14 {r : Int32} {D' : Dt} {X : Ctx} {l : Launch} {G : Gt} {A : Nat → Prop} {lv : Nat} {a1 : Int32}  {k60 : Dt → Option (Int32 × Dt)} (hG : Gok G A) (hlv : 9 ≤ lv)   (C : Cx X cX11_couldRule RX11 G l A lv 4 (some .boolean) (some (.int r)) D') (hk60 : ∀  (D : Dt), k60  D = some (r, D') → J X (Rep G D) 60 [(0, .ref (ad G (11, 0, 0, 0)))] []) : ∀ (f : Nat) (l2 : Int32) (D : Dt), F_X11_couldRule_b14 a1 k60 f l2 D = some (r, D') → J X (Rep G D) 14 [(0, .ref (ad G (11, 0, 0, 0))), (2, .int l2)] [] := by
  intro f
  induction f with
  | zero =>
    intro l2 D h
    exact nomatch h
  | succ f ih =>
    intro l2 D h
    rw [F_X11_couldRule_b14] at h
    refine j_iload_n C 1 dX11_couldRule_14 rfl rfl ?_
    refine j_bipush C (61 : Int32) (by decide) dX11_couldRule_15 ?_
    refine j_icmp_ge C 60 dX11_couldRule_17 (by decide) (fun c4 => ?_) (fun c4 => ?_)
    · have h := ite_t c4 h
      refine j_sub [0] [(0, .ref (ad G (11, 0, 0, 0)))] rfl ?_
      exact hk60  D h
    · have h := ite_f c4 h
      refine j_aload_n C 0 dX11_couldRule_20 rfl rfl ?_
      obtain ⟨r6, D7, h5, h⟩ := cbd_x h
      refine j_callV C [] [] cl_X11_385 (M_X11_goes (lv := lv - 1) hG (by omega) h5) (by omega) dX11_couldRule_21 (by decide) ⟨rfl, rfl⟩ rfl rfl (Nat.le_of_ble_eq_true rfl) ?_
      refine j_st (st' := [.int r6]) rfl ?_
      refine j_pop C rfl dX11_couldRule_24 ?_
      refine j_iconst C (0 : Int32) (by decide) dX11_couldRule_25 ?_
      refine j_istore_n C [(3, .int (0 : Int32)), (0, .ref (ad G (11, 0, 0, 0))), (2, .int l2)] dX11_couldRule_26 rfl (Nat.le_of_ble_eq_true rfl) rfl rfl ?_
      refine j_sub [1, 2, 0] [(0, .ref (ad G (11, 0, 0, 0))), (2, .int l2), (3, .int (0 : Int32))] rfl ?_
      refine T_X11_couldRule_b27 hG hlv  C (fun l2_13 D14 h => ?_) 2000 l2 (0 : Int32) D7 h
      · obtain ⟨v15, ev15, h⟩ := bnd_x h
        refine j_iinc C 1 [(2, .int v15), (0, .ref (ad G (11, 0, 0, 0)))] dX11_couldRule_54 rfl (Nat.le_of_ble_eq_true rfl) (ev15.trans (congrArg (l2_13 + ·) (by decide))) rfl ?_
        refine j_goto C 14 dX11_couldRule_57 (by decide) ?_
        refine j_sub [1, 0] [(0, .ref (ad G (11, 0, 0, 0))), (2, .int v15)] rfl ?_
        exact ih v15 D14 h
def F_X11_couldRule_b66 (a1 : Int32)  : Nat → Int32 → Dt → Option (Int32 × Dt)
  | 0, _, _ => none
  | f + 1, l2, D => (if (D.1 (11, 0, 2, 0) 6) ≤ l2 then (some ((1 : Int32), D)) else (grd (inB l2 10 = true) (grd (inB (((5 : Int32) * (D.1 (11, 0, 9, 0) (l2.toNatClampNeg))) + (D.1 (11, 0, 10, 0) (l2.toNatClampNeg))) 305 = true) (if (D.1 (11, 0, 53, 0) ((((5 : Int32) * (D.1 (11, 0, 9, 0) (l2.toNatClampNeg))) + (D.1 (11, 0, 10, 0) (l2.toNatClampNeg))).toNatClampNeg)) = (D.1 (11, 0, 11, 0) (l2.toNatClampNeg)) then (bnd (l2 + (1 : Int32)) (fun v23 => (F_X11_couldRule_b66 a1 f v23 D))) else (some ((0 : Int32), D))))))
set_option maxRecDepth 100000 in
set_option maxHeartbeats 4000000 in
theorem T_X11_couldRule_b66 {r : Int32} {D' : Dt} {X : Ctx} {l : Launch} {G : Gt} {A : Nat → Prop} {lv : Nat} {a1 : Int32}   (hG : Gok G A) (hlv : 9 ≤ lv)   (C : Cx X cX11_couldRule RX11 G l A lv 4 (some .boolean) (some (.int r)) D')  : ∀ (f : Nat) (l2 : Int32) (D : Dt), F_X11_couldRule_b66 a1 f l2 D = some (r, D') → J X (Rep G D) 66 [(0, .ref (ad G (11, 0, 0, 0))), (2, .int l2)] [] := by
  intro f
  induction f with
  | zero =>
    intro l2 D h
    exact nomatch h
  | succ f ih =>
    intro l2 D h
    rw [F_X11_couldRule_b66] at h
    refine j_iload_n C 1 dX11_couldRule_66 rfl rfl ?_
    refine j_aload_n C 0 dX11_couldRule_67 rfl rfl ?_
    refine j_getS C (11, 0, 2, 0) fl_X11_9 dX11_couldRule_68 (by decide) ⟨rfl, rfl⟩ rfl rfl ?_
    refine j_bipush C (6 : Int32) (by decide) dX11_couldRule_71 ?_
    refine j_ialdK C 9 6 dX11_couldRule_73 (V_f 1 (by decide) (by decide)) rfl (by decide) (by decide) ?_
    refine j_icmp_ge C 114 dX11_couldRule_74 (by decide) (fun c19 => ?_) (fun c19 => ?_)
    · have h := ite_t c19 h
      refine j_iconst C (1 : Int32) (by decide) dX11_couldRule_114 ?_
      obtain ⟨rfl, rfl⟩ := pr_x h
      exact j_zret C (Or.inr rfl) dX11_couldRule_115
    · have h := ite_f c19 h
      refine j_aload_n C 0 dX11_couldRule_77 rfl rfl ?_
      refine j_getS C (11, 0, 53, 0) fl_X11_118 dX11_couldRule_78 (by decide) ⟨rfl, rfl⟩ rfl rfl ?_
      refine j_iconst C (5 : Int32) (by decide) dX11_couldRule_81 ?_
      refine j_aload_n C 0 dX11_couldRule_82 rfl rfl ?_
      refine j_getS C (11, 0, 9, 0) fl_X11_31 dX11_couldRule_83 (by decide) ⟨rfl, rfl⟩ rfl rfl ?_
      refine j_iload_n C 1 dX11_couldRule_86 rfl rfl ?_
      obtain ⟨g20, h⟩ := grd_x h
      refine j_ialdK C 10 (l2.toNatClampNeg) dX11_couldRule_87 (V_f 8 (by decide) (by decide)) rfl g20 rfl ?_
      refine j_imul C dX11_couldRule_88 ?_
      refine j_aload_n C 0 dX11_couldRule_89 rfl rfl ?_
      refine j_getS C (11, 0, 10, 0) fl_X11_34 dX11_couldRule_90 (by decide) ⟨rfl, rfl⟩ rfl rfl ?_
      refine j_iload_n C 1 dX11_couldRule_93 rfl rfl ?_
      refine j_ialdK C 10 (l2.toNatClampNeg) dX11_couldRule_94 (V_f 9 (by decide) (by decide)) rfl g20 rfl ?_
      refine j_iadd C dX11_couldRule_95 ?_
      obtain ⟨g21, h⟩ := grd_x h
      refine j_ialdK C 305 ((((5 : Int32) * (D.1 (11, 0, 9, 0) (l2.toNatClampNeg))) + (D.1 (11, 0, 10, 0) (l2.toNatClampNeg))).toNatClampNeg) dX11_couldRule_96 (V_f 52 (by decide) (by decide)) rfl g21 rfl ?_
      refine j_aload_n C 0 dX11_couldRule_97 rfl rfl ?_
      refine j_getS C (11, 0, 11, 0) fl_X11_37 dX11_couldRule_98 (by decide) ⟨rfl, rfl⟩ rfl rfl ?_
      refine j_iload_n C 1 dX11_couldRule_101 rfl rfl ?_
      refine j_ialdK C 10 (l2.toNatClampNeg) dX11_couldRule_102 (V_f 10 (by decide) (by decide)) rfl g20 rfl ?_
      refine j_icmp_eq C 108 dX11_couldRule_103 (by decide) (fun c22 => ?_) (fun c22 => ?_)
      · have h := ite_t c22 h
        obtain ⟨v23, ev23, h⟩ := bnd_x h
        refine j_iinc C 1 [(2, .int v23), (0, .ref (ad G (11, 0, 0, 0)))] dX11_couldRule_108 rfl (Nat.le_of_ble_eq_true rfl) (ev23.trans (congrArg (l2 + ·) (by decide))) rfl ?_
        refine j_goto C 66 dX11_couldRule_111 (by decide) ?_
        refine j_sub [1, 0] [(0, .ref (ad G (11, 0, 0, 0))), (2, .int v23)] rfl ?_
        exact ih v23 D h
      · have h := ite_f c22 h
        refine j_iconst C (0 : Int32) (by decide) dX11_couldRule_106 ?_
        obtain ⟨rfl, rfl⟩ := pr_x h
        exact j_zret C (Or.inl rfl) dX11_couldRule_107
def F_X11_couldRule (a1 : Int32) (D : Dt) : Option (Int32 × Dt) := (bnd (setI D (11, 0, 2, 0) 8 a1) (fun D1 => (vbd (F_X11_begins  D1) (fun D3 => (F_X11_couldRule_b14 a1 (fun D16 => (vbd (F_X11_laysBack  D16) (fun D18 => (F_X11_couldRule_b66 a1 2000 (0 : Int32) D18)))) 2000 (0 : Int32) D3)))))
set_option maxRecDepth 100000 in
set_option maxHeartbeats 4000000 in
theorem M_X11_couldRule {l : Launch} {G : Gt} {A : Nat → Prop} {lv : Nat} {a1 : Int32} {D : Dt} {r : Int32} {D' : Dt} (hG : Gok G A) (hlv : 9 ≤ lv)  (h : F_X11_couldRule a1 D = some (r, D')) : MD l G A lv yX11_couldRule cX11_couldRule 4 (some .boolean) [.ref (ad G (11, 0, 0, 0)), .int a1] D (some (.int r)) D' := by
  unfold F_X11_couldRule at h
  refine md_start RX11 hG (by decide +kernel) rfl (Nat.le_of_ble_eq_true rfl) (L := [(0, .ref (ad G (11, 0, 0, 0))), (1, .int a1)]) rfl (fun X C => ?_)
  refine j_aload_n C 0 dX11_couldRule_0 rfl rfl ?_
  refine j_getS C (11, 0, 2, 0) fl_X11_9 dX11_couldRule_1 (by decide) ⟨rfl, rfl⟩ rfl rfl ?_
  refine j_bipush C (8 : Int32) (by decide) dX11_couldRule_4 ?_
  refine j_iload_n C 1 dX11_couldRule_6 rfl rfl ?_
  obtain ⟨D1, eD1, h⟩ := bnd_x h
  refine j_iastK C 9 8 dX11_couldRule_7 (V_f 1 (by decide) (by decide)) rfl (by decide) (by decide) ?_
  refine j_rep eD1 ?_
  refine j_aload_n C 0 dX11_couldRule_8 rfl rfl ?_
  obtain ⟨D3, h2, h⟩ := vbd_x h
  refine j_callV C [] [] cl_X11_295 (M_X11_begins (lv := lv - 1) hG (by omega) h2) (by omega) dX11_couldRule_9 (by decide) ⟨rfl, rfl⟩ rfl rfl (Nat.le_of_ble_eq_true rfl) ?_
  refine j_st (st' := []) rfl ?_
  refine j_iconst C (0 : Int32) (by decide) dX11_couldRule_12 ?_
  refine j_istore_n C [(2, .int (0 : Int32)), (0, .ref (ad G (11, 0, 0, 0))), (1, .int a1)] dX11_couldRule_13 rfl (Nat.le_of_ble_eq_true rfl) rfl rfl ?_
  refine j_sub [1, 0] [(0, .ref (ad G (11, 0, 0, 0))), (2, .int (0 : Int32))] rfl ?_
  refine T_X11_couldRule_b14 hG hlv  C (fun D16 h => ?_) 2000 (0 : Int32) D3 h
  · refine j_aload_n C 0 dX11_couldRule_60 rfl rfl ?_
    obtain ⟨D18, h17, h⟩ := vbd_x h
    refine j_callV C [] [] cl_X11_425 (M_X11_laysBack (lv := lv - 1) hG (by omega) h17) (by omega) dX11_couldRule_61 (by decide) ⟨rfl, rfl⟩ rfl rfl (Nat.le_of_ble_eq_true rfl) ?_
    refine j_st (st' := []) rfl ?_
    refine j_iconst C (0 : Int32) (by decide) dX11_couldRule_64 ?_
    refine j_istore_n C [(2, .int (0 : Int32)), (0, .ref (ad G (11, 0, 0, 0)))] dX11_couldRule_65 rfl (Nat.le_of_ble_eq_true rfl) rfl rfl ?_
    refine j_sub [1, 0] [(0, .ref (ad G (11, 0, 0, 0))), (2, .int (0 : Int32))] rfl ?_
    refine T_X11_couldRule_b66 hG hlv  C  2000 (0 : Int32) D18 h
def F_X11_ruled_b64 (a1 : Int32) (k32 : Int32 → Int32 → Int32 → Int32 → Dt → Option (Int32 × Dt)) (l1 : Int32) (l2 : Int32) (l3 : Int32) (l4 : Int32) (D : Dt) : Option (Int32 × Dt) := (bnd (l4 + (1 : Int32)) (fun v16 => (k32 l1 l2 l3 v16 D)))
set_option maxRecDepth 100000 in
set_option maxHeartbeats 4000000 in
theorem T_X11_ruled_b64 {r : Int32} {D' : Dt} {X : Ctx} {l : Launch} {G : Gt} {A : Nat → Prop} {lv : Nat} {a1 : Int32}  {k32 : Int32 → Int32 → Int32 → Int32 → Dt → Option (Int32 × Dt)} (hG : Gok G A) (hlv : 10 ≤ lv)   (C : Cx X cX11_ruled RX11 G l A lv 5 (some .int) (some (.int r)) D') (hk32 : ∀ (l1 : Int32) (l2 : Int32) (l3 : Int32) (l4 : Int32) (D : Dt), k32 l1 l2 l3 l4 D = some (r, D') → J X (Rep G D) 32 [(0, .ref (ad G (11, 0, 0, 0))), (1, .int l1), (2, .int l2), (3, .int l3), (4, .int l4)] []) : ∀ (l1 : Int32) (l2 : Int32) (l3 : Int32) (l4 : Int32) (D : Dt), F_X11_ruled_b64 a1 k32 l1 l2 l3 l4 D = some (r, D') → J X (Rep G D) 64 [(0, .ref (ad G (11, 0, 0, 0))), (1, .int l1), (2, .int l2), (3, .int l3), (4, .int l4)] [] := by
  intro l1 l2 l3 l4 D h
  unfold F_X11_ruled_b64 at h
  obtain ⟨v16, ev16, h⟩ := bnd_x h
  refine j_iinc C 4 [(4, .int v16), (0, .ref (ad G (11, 0, 0, 0))), (1, .int l1), (2, .int l2), (3, .int l3)] dX11_ruled_64 rfl (Nat.le_of_ble_eq_true rfl) (ev16.trans (congrArg (l4 + ·) (by decide))) rfl ?_
  refine j_goto C 32 dX11_ruled_67 (by decide) ?_
  refine j_sub [1, 2, 3, 4, 0] [(0, .ref (ad G (11, 0, 0, 0))), (1, .int l1), (2, .int l2), (3, .int l3), (4, .int v16)] rfl ?_
  exact hk32 l1 l2 l3 v16 D h
def F_X11_ruled_b60 (a1 : Int32) (k32 : Int32 → Int32 → Int32 → Int32 → Dt → Option (Int32 × Dt)) (l1 : Int32) (l2 : Int32) (l4 : Int32) (s0 : Int32) (D : Dt) : Option (Int32 × Dt) := (bnd (l2 + (1 : Int32)) (fun v23 => (F_X11_ruled_b64 a1 (fun l1_24 l2_25 l3_26 l4_27 D28 => (k32 l1_24 l2_25 l3_26 l4_27 D28)) l1 v23 s0 l4 D)))
set_option maxRecDepth 100000 in
set_option maxHeartbeats 4000000 in
theorem T_X11_ruled_b60 {r : Int32} {D' : Dt} {X : Ctx} {l : Launch} {G : Gt} {A : Nat → Prop} {lv : Nat} {a1 : Int32}  {k32 : Int32 → Int32 → Int32 → Int32 → Dt → Option (Int32 × Dt)} (hG : Gok G A) (hlv : 10 ≤ lv)   (C : Cx X cX11_ruled RX11 G l A lv 5 (some .int) (some (.int r)) D') (hk32 : ∀ (l1 : Int32) (l2 : Int32) (l3 : Int32) (l4 : Int32) (D : Dt), k32 l1 l2 l3 l4 D = some (r, D') → J X (Rep G D) 32 [(0, .ref (ad G (11, 0, 0, 0))), (1, .int l1), (2, .int l2), (3, .int l3), (4, .int l4)] []) : ∀ (l1 : Int32) (l2 : Int32) (l4 : Int32) (s0 : Int32) (D : Dt), F_X11_ruled_b60 a1 k32 l1 l2 l4 s0 D = some (r, D') → J X (Rep G D) 60 [(0, .ref (ad G (11, 0, 0, 0))), (1, .int l1), (2, .int l2), (4, .int l4)] [.int s0] := by
  intro l1 l2 l4 s0 D h
  unfold F_X11_ruled_b60 at h
  refine j_istore_n C [(3, .int s0), (0, .ref (ad G (11, 0, 0, 0))), (1, .int l1), (2, .int l2), (4, .int l4)] dX11_ruled_60 rfl (Nat.le_of_ble_eq_true rfl) rfl rfl ?_
  obtain ⟨v23, ev23, h⟩ := bnd_x h
  refine j_iinc C 3 [(2, .int v23), (3, .int s0), (0, .ref (ad G (11, 0, 0, 0))), (1, .int l1), (4, .int l4)] dX11_ruled_61 rfl (Nat.le_of_ble_eq_true rfl) (ev23.trans (congrArg (l2 + ·) (by decide))) rfl ?_
  refine j_sub [2, 3, 0, 1, 4] [(0, .ref (ad G (11, 0, 0, 0))), (1, .int l1), (2, .int v23), (3, .int s0), (4, .int l4)] rfl ?_
  refine T_X11_ruled_b64 hG hlv  C (fun l1_24 l2_25 l3_26 l4_27 D28 h => ?_) l1 v23 s0 l4 D h
  · exact hk32 l1_24 l2_25 l3_26 l4_27 D28 h
def F_X11_ruled_b32 (a1 : Int32) (k70 : Int32 → Int32 → Int32 → Dt → Option (Int32 × Dt)) : Nat → Int32 → Int32 → Int32 → Int32 → Dt → Option (Int32 × Dt)
  | 0, _, _, _, _, _ => none
  | f + 1, l1, l2, l3, l4, D => (if (D.1 (11, 0, 0, 0) 23) ≤ l4 then (k70 l1 l2 l3 D) else (cbd (F_X11_couldRule l4 D) (fun r13 D14 => (if r13 = 0 then (F_X11_ruled_b64 a1 (fun l1_17 l2_18 l3_19 l4_20 D21 => (F_X11_ruled_b32 a1 k70 f l1_17 l2_18 l3_19 l4_20 D21)) l1 l2 l3 l4 D14) else (if l2 = 0 then (F_X11_ruled_b60 a1 (fun l1_34 l2_35 l3_36 l4_37 D38 => (F_X11_ruled_b32 a1 k70 f l1_34 l2_35 l3_36 l4_37 D38)) l1 l2 l4 l4 D14) else (F_X11_ruled_b60 a1 (fun l1_29 l2_30 l3_31 l4_32 D33 => (F_X11_ruled_b32 a1 k70 f l1_29 l2_30 l3_31 l4_32 D33)) l1 l2 l4 l3 D14))))))
set_option maxRecDepth 100000 in
set_option maxHeartbeats 4000000 in
theorem T_X11_ruled_b32 {r : Int32} {D' : Dt} {X : Ctx} {l : Launch} {G : Gt} {A : Nat → Prop} {lv : Nat} {a1 : Int32}  {k70 : Int32 → Int32 → Int32 → Dt → Option (Int32 × Dt)} (hG : Gok G A) (hlv : 10 ≤ lv)   (C : Cx X cX11_ruled RX11 G l A lv 5 (some .int) (some (.int r)) D') (hk70 : ∀ (l1 : Int32) (l2 : Int32) (l3 : Int32) (D : Dt), k70 l1 l2 l3 D = some (r, D') → J X (Rep G D) 70 [(1, .int l1), (2, .int l2), (3, .int l3)] []) : ∀ (f : Nat) (l1 : Int32) (l2 : Int32) (l3 : Int32) (l4 : Int32) (D : Dt), F_X11_ruled_b32 a1 k70 f l1 l2 l3 l4 D = some (r, D') → J X (Rep G D) 32 [(0, .ref (ad G (11, 0, 0, 0))), (1, .int l1), (2, .int l2), (3, .int l3), (4, .int l4)] [] := by
  intro f
  induction f with
  | zero =>
    intro l1 l2 l3 l4 D h
    exact nomatch h
  | succ f ih =>
    intro l1 l2 l3 l4 D h
    rw [F_X11_ruled_b32] at h
    refine j_iload C 4 dX11_ruled_32 rfl ?_
    refine j_aload_n C 0 dX11_ruled_34 rfl rfl ?_
    refine j_getI C fl_X11_311 dX11_ruled_35 (by decide) ⟨rfl, rfl⟩ rfl ?_
    refine j_icmp_ge C 70 dX11_ruled_38 (by decide) (fun c11 => ?_) (fun c11 => ?_)
    · have h := ite_t c11 h
      refine j_sub [1, 2, 3] [(1, .int l1), (2, .int l2), (3, .int l3)] rfl ?_
      exact hk70 l1 l2 l3 D h
    · have h := ite_f c11 h
      refine j_aload_n C 0 dX11_ruled_41 rfl rfl ?_
      refine j_iload C 4 dX11_ruled_42 rfl ?_
      obtain ⟨r13, D14, h12, h⟩ := cbd_x h
      refine j_callV C [.int l4] [] cl_X11_462 (M_X11_couldRule (lv := lv - 1) hG (by omega) h12) (by omega) dX11_ruled_44 (by decide) ⟨rfl, rfl⟩ rfl rfl (Nat.le_of_ble_eq_true rfl) ?_
      refine j_st (st' := [.int r13]) rfl ?_
      refine j_if_eq C 64 dX11_ruled_47 (by decide) (fun c15 => ?_) (fun c15 => ?_)
      · have h := ite_t c15 h
        refine T_X11_ruled_b64 hG hlv  C (fun l1_17 l2_18 l3_19 l4_20 D21 h => ?_) l1 l2 l3 l4 D14 h
        · exact ih l1_17 l2_18 l3_19 l4_20 D21 h
      · have h := ite_f c15 h
        refine j_iload_n C 2 dX11_ruled_50 rfl rfl ?_
        refine j_if_ne C 59 dX11_ruled_51 (by decide) (fun c22 => ?_) (fun c22 => ?_)
        · have h := ite_f c22 h
          refine j_iload_n C 3 dX11_ruled_59 rfl rfl ?_
          refine j_sub [0, 1, 2, 4] [(0, .ref (ad G (11, 0, 0, 0))), (1, .int l1), (2, .int l2), (4, .int l4)] rfl ?_
          refine T_X11_ruled_b60 hG hlv  C (fun l1_29 l2_30 l3_31 l4_32 D33 h => ?_) l1 l2 l4 l3 D14 h
          · exact ih l1_29 l2_30 l3_31 l4_32 D33 h
        · have h := ite_t c22 h
          refine j_iload C 4 dX11_ruled_54 rfl ?_
          refine j_goto C 60 dX11_ruled_56 (by decide) ?_
          refine j_sub [0, 1, 2, 4] [(0, .ref (ad G (11, 0, 0, 0))), (1, .int l1), (2, .int l2), (4, .int l4)] rfl ?_
          refine T_X11_ruled_b60 hG hlv  C (fun l1_34 l2_35 l3_36 l4_37 D38 h => ?_) l1 l2 l4 l4 D14 h
          · exact ih l1_34 l2_35 l3_36 l4_37 D38 h
def F_X11_ruled (a1 : Int32) (D : Dt) : Option (Int32 × Dt) := (cbd (F_X11_isTable  D) (fun r2 D3 => (if r2 = 0 then (some ((-3 : Int32), D3)) else (cbd (F_X11_in a1.toInt64 (0 : Int64) (1 : Int64) D3) (fun r6 D7 => (if r6 = 0 then (some ((-3 : Int32), D7)) else (vbd (F_X11_keepsAll  D7) (fun D10 => (F_X11_ruled_b32 a1 (fun l1_39 l2_40 l3_41 D42 => (if l1_39 = 0 then (some (l2_40, D42)) else (some (l3_41, D42)))) 2000 a1 (0 : Int32) (-2 : Int32) (-1 : Int32) D10)))))))))
set_option maxRecDepth 100000 in
set_option maxHeartbeats 4000000 in
theorem M_X11_ruled {l : Launch} {G : Gt} {A : Nat → Prop} {lv : Nat} {a1 : Int32} {D : Dt} {r : Int32} {D' : Dt} (hG : Gok G A) (hlv : 10 ≤ lv)  (h : F_X11_ruled a1 D = some (r, D')) : MD l G A lv yX11_ruled cX11_ruled 5 (some .int) [.ref (ad G (11, 0, 0, 0)), .int a1] D (some (.int r)) D' := by
  unfold F_X11_ruled at h
  refine md_start RX11 hG (by decide +kernel) rfl (Nat.le_of_ble_eq_true rfl) (L := [(0, .ref (ad G (11, 0, 0, 0))), (1, .int a1)]) rfl (fun X C => ?_)
  refine j_aload_n C 0 dX11_ruled_0 rfl rfl ?_
  obtain ⟨r2, D3, h1, h⟩ := cbd_x h
  refine j_callV C [] [] cl_X11_405 (M_X11_isTable (lv := lv - 1) hG (by omega) h1) (by omega) dX11_ruled_1 (by decide) ⟨rfl, rfl⟩ rfl rfl (Nat.le_of_ble_eq_true rfl) ?_
  refine j_st (st' := [.int r2]) rfl ?_
  refine j_if_eq C 17 dX11_ruled_4 (by decide) (fun c4 => ?_) (fun c4 => ?_)
  · have h := ite_t c4 h
    refine j_bipush C (-3 : Int32) (by decide) dX11_ruled_17 ?_
    obtain ⟨rfl, rfl⟩ := pr_x h
    exact j_iret C dX11_ruled_19
  · have h := ite_f c4 h
    refine j_iload_n C 1 dX11_ruled_7 rfl rfl ?_
    refine j_i2l C dX11_ruled_8 ?_
    refine j_lconst C (0 : Int64) (by decide) dX11_ruled_9 ?_
    refine j_lconst C (1 : Int64) (by decide) dX11_ruled_10 ?_
    obtain ⟨r6, D7, h5, h⟩ := cbd_x h
    refine j_callS C [.long a1.toInt64, .long (0 : Int64), .long (1 : Int64)] [] cl_X11_134 (M_X11_in (lv := lv - 1) hG (by omega) h5) (by omega) dX11_ruled_11 rfl rfl (Nat.le_of_ble_eq_true rfl) ?_
    refine j_st (st' := [.int r6]) rfl ?_
    refine j_if_ne C 20 dX11_ruled_14 (by decide) (fun c8 => ?_) (fun c8 => ?_)
    · have h := ite_f c8 h
      refine j_aload_n C 0 dX11_ruled_20 rfl rfl ?_
      obtain ⟨D10, h9, h⟩ := vbd_x h
      refine j_callV C [] [] cl_X11_432 (M_X11_keepsAll (lv := lv - 1) hG (by omega) h9) (by omega) dX11_ruled_21 (by decide) ⟨rfl, rfl⟩ rfl rfl (Nat.le_of_ble_eq_true rfl) ?_
      refine j_st (st' := []) rfl ?_
      refine j_iconst C (0 : Int32) (by decide) dX11_ruled_24 ?_
      refine j_istore_n C [(2, .int (0 : Int32)), (0, .ref (ad G (11, 0, 0, 0))), (1, .int a1)] dX11_ruled_25 rfl (Nat.le_of_ble_eq_true rfl) rfl rfl ?_
      refine j_bipush C (-2 : Int32) (by decide) dX11_ruled_26 ?_
      refine j_istore_n C [(3, .int (-2 : Int32)), (2, .int (0 : Int32)), (0, .ref (ad G (11, 0, 0, 0))), (1, .int a1)] dX11_ruled_28 rfl (Nat.le_of_ble_eq_true rfl) rfl rfl ?_
      refine j_iconst C (-1 : Int32) (by decide) dX11_ruled_29 ?_
      refine j_istore C [(4, .int (-1 : Int32)), (3, .int (-2 : Int32)), (2, .int (0 : Int32)), (0, .ref (ad G (11, 0, 0, 0))), (1, .int a1)] dX11_ruled_30 (Nat.le_of_ble_eq_true rfl) rfl rfl ?_
      refine j_sub [3, 4, 2, 1, 0] [(0, .ref (ad G (11, 0, 0, 0))), (1, .int a1), (2, .int (0 : Int32)), (3, .int (-2 : Int32)), (4, .int (-1 : Int32))] rfl ?_
      refine T_X11_ruled_b32 hG hlv  C (fun l1_39 l2_40 l3_41 D42 h => ?_) 2000 a1 (0 : Int32) (-2 : Int32) (-1 : Int32) D10 h
      · refine j_iload_n C 0 dX11_ruled_70 rfl rfl ?_
        refine j_if_ne C 78 dX11_ruled_71 (by decide) (fun c43 => ?_) (fun c43 => ?_)
        · have h := ite_f c43 h
          refine j_iload_n C 2 dX11_ruled_78 rfl rfl ?_
          obtain ⟨rfl, rfl⟩ := pr_x h
          exact j_iret C dX11_ruled_79
        · have h := ite_t c43 h
          refine j_iload_n C 1 dX11_ruled_74 rfl rfl ?_
          refine j_goto C 79 dX11_ruled_75 (by decide) ?_
          obtain ⟨rfl, rfl⟩ := pr_x h
          exact j_iret C dX11_ruled_79
    · have h := ite_t c8 h
      refine j_bipush C (-3 : Int32) (by decide) dX11_ruled_17 ?_
      obtain ⟨rfl, rfl⟩ := pr_x h
      exact j_iret C dX11_ruled_19
def F_X11_mostAlike_b55 (a1 : Int32) (a2 : Int32) (k17 : Int32 → Int32 → Int32 → Int32 → Int32 → Int32 → Dt → Option (Int32 × Dt)) (l1 : Int32) (l2 : Int32) (l3 : Int32) (l4 : Int32) (l6 : Int32) (s0 : Int32) (s1 : Int32) (D : Dt) : Option (Int32 × Dt) := (bnd (s0 + s1) (fun v6 => (bnd (l6 + (1 : Int32)) (fun v7 => (k17 l1 l2 l3 l4 v6 v7 D)))))
set_option maxRecDepth 100000 in
set_option maxHeartbeats 4000000 in
theorem T_X11_mostAlike_b55 {r : Int32} {D' : Dt} {X : Ctx} {l : Launch} {G : Gt} {A : Nat → Prop} {lv : Nat} {a1 : Int32} {a2 : Int32}  {k17 : Int32 → Int32 → Int32 → Int32 → Int32 → Int32 → Dt → Option (Int32 × Dt)} (hG : Gok G A) (hlv : 1 ≤ lv)   (C : Cx X cX11_mostAlike RX11 G l A lv 7 (some .int) (some (.int r)) D') (hk17 : ∀ (l1 : Int32) (l2 : Int32) (l3 : Int32) (l4 : Int32) (l5 : Int32) (l6 : Int32) (D : Dt), k17 l1 l2 l3 l4 l5 l6 D = some (r, D') → J X (Rep G D) 17 [(0, .ref (ad G (11, 0, 0, 0))), (1, .int l1), (2, .int l2), (3, .int l3), (4, .int l4), (5, .int l5), (6, .int l6)] []) : ∀ (l1 : Int32) (l2 : Int32) (l3 : Int32) (l4 : Int32) (l6 : Int32) (s0 : Int32) (s1 : Int32) (D : Dt), F_X11_mostAlike_b55 a1 a2 k17 l1 l2 l3 l4 l6 s0 s1 D = some (r, D') → J X (Rep G D) 55 [(0, .ref (ad G (11, 0, 0, 0))), (1, .int l1), (2, .int l2), (3, .int l3), (4, .int l4), (6, .int l6)] [.int s1, .int s0] := by
  intro l1 l2 l3 l4 l6 s0 s1 D h
  unfold F_X11_mostAlike_b55 at h
  refine j_iadd C dX11_mostAlike_55 ?_
  obtain ⟨v6, ev6, h⟩ := bnd_x h
  refine j_istore C [(5, .int v6), (0, .ref (ad G (11, 0, 0, 0))), (1, .int l1), (2, .int l2), (3, .int l3), (4, .int l4), (6, .int l6)] dX11_mostAlike_56 (Nat.le_of_ble_eq_true rfl) ev6 rfl ?_
  obtain ⟨v7, ev7, h⟩ := bnd_x h
  refine j_iinc C 6 [(6, .int v7), (5, .int v6), (0, .ref (ad G (11, 0, 0, 0))), (1, .int l1), (2, .int l2), (3, .int l3), (4, .int l4)] dX11_mostAlike_58 rfl (Nat.le_of_ble_eq_true rfl) (ev7.trans (congrArg (l6 + ·) (by decide))) rfl ?_
  refine j_goto C 17 dX11_mostAlike_61 (by decide) ?_
  refine j_sub [2, 3, 4, 5, 6, 1, 0] [(0, .ref (ad G (11, 0, 0, 0))), (1, .int l1), (2, .int l2), (3, .int l3), (4, .int l4), (5, .int v6), (6, .int v7)] rfl ?_
  exact hk17 l1 l2 l3 l4 v6 v7 D h
def F_X11_mostAlike_b17 (a1 : Int32) (a2 : Int32) (k64 : Int32 → Int32 → Int32 → Int32 → Int32 → Dt → Option (Int32 × Dt)) : Nat → Int32 → Int32 → Int32 → Int32 → Int32 → Int32 → Dt → Option (Int32 × Dt)
  | 0, _, _, _, _, _, _, _ => none
  | f + 1, l1, l2, l3, l4, l5, l6, D => (if l2 ≤ l6 then (k64 l1 l2 l3 l4 l5 D) else (grd (inB (((5 : Int32) * l6) + l1) 35 = true) (grd (inB (((5 : Int32) * l4) + l1) 35 = true) (if (D.1 (11, 0, 54, 0) ((((5 : Int32) * l6) + l1).toNatClampNeg)) = (D.1 (11, 0, 54, 0) ((((5 : Int32) * l4) + l1).toNatClampNeg)) then (F_X11_mostAlike_b55 a1 a2 (fun l1_15 l2_16 l3_17 l4_18 l5_19 l6_20 D21 => (F_X11_mostAlike_b17 a1 a2 k64 f l1_15 l2_16 l3_17 l4_18 l5_19 l6_20 D21)) l1 l2 l3 l4 l6 l5 (1 : Int32) D) else (F_X11_mostAlike_b55 a1 a2 (fun l1_8 l2_9 l3_10 l4_11 l5_12 l6_13 D14 => (F_X11_mostAlike_b17 a1 a2 k64 f l1_8 l2_9 l3_10 l4_11 l5_12 l6_13 D14)) l1 l2 l3 l4 l6 l5 (0 : Int32) D)))))
set_option maxRecDepth 100000 in
set_option maxHeartbeats 4000000 in
theorem T_X11_mostAlike_b17 {r : Int32} {D' : Dt} {X : Ctx} {l : Launch} {G : Gt} {A : Nat → Prop} {lv : Nat} {a1 : Int32} {a2 : Int32}  {k64 : Int32 → Int32 → Int32 → Int32 → Int32 → Dt → Option (Int32 × Dt)} (hG : Gok G A) (hlv : 1 ≤ lv)   (C : Cx X cX11_mostAlike RX11 G l A lv 7 (some .int) (some (.int r)) D') (hk64 : ∀ (l1 : Int32) (l2 : Int32) (l3 : Int32) (l4 : Int32) (l5 : Int32) (D : Dt), k64 l1 l2 l3 l4 l5 D = some (r, D') → J X (Rep G D) 64 [(0, .ref (ad G (11, 0, 0, 0))), (1, .int l1), (2, .int l2), (3, .int l3), (4, .int l4), (5, .int l5)] []) : ∀ (f : Nat) (l1 : Int32) (l2 : Int32) (l3 : Int32) (l4 : Int32) (l5 : Int32) (l6 : Int32) (D : Dt), F_X11_mostAlike_b17 a1 a2 k64 f l1 l2 l3 l4 l5 l6 D = some (r, D') → J X (Rep G D) 17 [(0, .ref (ad G (11, 0, 0, 0))), (1, .int l1), (2, .int l2), (3, .int l3), (4, .int l4), (5, .int l5), (6, .int l6)] [] := by
  intro f
  induction f with
  | zero =>
    intro l1 l2 l3 l4 l5 l6 D h
    exact nomatch h
  | succ f ih =>
    intro l1 l2 l3 l4 l5 l6 D h
    rw [F_X11_mostAlike_b17] at h
    refine j_iload C 6 dX11_mostAlike_17 rfl ?_
    refine j_iload_n C 2 dX11_mostAlike_19 rfl rfl ?_
    refine j_icmp_ge C 64 dX11_mostAlike_20 (by decide) (fun c2 => ?_) (fun c2 => ?_)
    · have h := ite_t c2 h
      refine j_sub [0, 1, 2, 3, 4, 5] [(0, .ref (ad G (11, 0, 0, 0))), (1, .int l1), (2, .int l2), (3, .int l3), (4, .int l4), (5, .int l5)] rfl ?_
      exact hk64 l1 l2 l3 l4 l5 D h
    · have h := ite_f c2 h
      refine j_iload C 5 dX11_mostAlike_23 rfl ?_
      refine j_aload_n C 0 dX11_mostAlike_25 rfl rfl ?_
      refine j_getS C (11, 0, 54, 0) fl_X11_121 dX11_mostAlike_26 (by decide) ⟨rfl, rfl⟩ rfl rfl ?_
      refine j_iconst C (5 : Int32) (by decide) dX11_mostAlike_29 ?_
      refine j_iload C 6 dX11_mostAlike_30 rfl ?_
      refine j_imul C dX11_mostAlike_32 ?_
      refine j_iload_n C 1 dX11_mostAlike_33 rfl rfl ?_
      refine j_iadd C dX11_mostAlike_34 ?_
      obtain ⟨g3, h⟩ := grd_x h
      refine j_ialdK C 35 ((((5 : Int32) * l6) + l1).toNatClampNeg) dX11_mostAlike_35 (V_f 53 (by decide) (by decide)) rfl g3 rfl ?_
      refine j_aload_n C 0 dX11_mostAlike_36 rfl rfl ?_
      refine j_getS C (11, 0, 54, 0) fl_X11_121 dX11_mostAlike_37 (by decide) ⟨rfl, rfl⟩ rfl rfl ?_
      refine j_iconst C (5 : Int32) (by decide) dX11_mostAlike_40 ?_
      refine j_iload C 4 dX11_mostAlike_41 rfl ?_
      refine j_imul C dX11_mostAlike_43 ?_
      refine j_iload_n C 1 dX11_mostAlike_44 rfl rfl ?_
      refine j_iadd C dX11_mostAlike_45 ?_
      obtain ⟨g4, h⟩ := grd_x h
      refine j_ialdK C 35 ((((5 : Int32) * l4) + l1).toNatClampNeg) dX11_mostAlike_46 (V_f 53 (by decide) (by decide)) rfl g4 rfl ?_
      refine j_icmp_ne C 54 dX11_mostAlike_47 (by decide) (fun c5 => ?_) (fun c5 => ?_)
      · have h := ite_f c5 h
        refine j_iconst C (0 : Int32) (by decide) dX11_mostAlike_54 ?_
        refine j_sub [0, 1, 2, 3, 4, 6] [(0, .ref (ad G (11, 0, 0, 0))), (1, .int l1), (2, .int l2), (3, .int l3), (4, .int l4), (6, .int l6)] rfl ?_
        refine T_X11_mostAlike_b55 hG hlv  C (fun l1_8 l2_9 l3_10 l4_11 l5_12 l6_13 D14 h => ?_) l1 l2 l3 l4 l6 l5 (0 : Int32) D h
        · exact ih l1_8 l2_9 l3_10 l4_11 l5_12 l6_13 D14 h
      · have h := ite_t c5 h
        refine j_iconst C (1 : Int32) (by decide) dX11_mostAlike_50 ?_
        refine j_goto C 55 dX11_mostAlike_51 (by decide) ?_
        refine j_sub [0, 1, 2, 3, 4, 6] [(0, .ref (ad G (11, 0, 0, 0))), (1, .int l1), (2, .int l2), (3, .int l3), (4, .int l4), (6, .int l6)] rfl ?_
        refine T_X11_mostAlike_b55 hG hlv  C (fun l1_15 l2_16 l3_17 l4_18 l5_19 l6_20 D21 h => ?_) l1 l2 l3 l4 l6 l5 (1 : Int32) D h
        · exact ih l1_15 l2_16 l3_17 l4_18 l5_19 l6_20 D21 h
def F_X11_mostAlike_b76 (a1 : Int32) (a2 : Int32) (k5 : Int32 → Int32 → Int32 → Int32 → Dt → Option (Int32 × Dt)) (l1 : Int32) (l2 : Int32) (l4 : Int32) (s0 : Int32) (D : Dt) : Option (Int32 × Dt) := (bnd (l4 + (1 : Int32)) (fun v29 => (k5 l1 l2 s0 v29 D)))
set_option maxRecDepth 100000 in
set_option maxHeartbeats 4000000 in
theorem T_X11_mostAlike_b76 {r : Int32} {D' : Dt} {X : Ctx} {l : Launch} {G : Gt} {A : Nat → Prop} {lv : Nat} {a1 : Int32} {a2 : Int32}  {k5 : Int32 → Int32 → Int32 → Int32 → Dt → Option (Int32 × Dt)} (hG : Gok G A) (hlv : 1 ≤ lv)   (C : Cx X cX11_mostAlike RX11 G l A lv 7 (some .int) (some (.int r)) D') (hk5 : ∀ (l1 : Int32) (l2 : Int32) (l3 : Int32) (l4 : Int32) (D : Dt), k5 l1 l2 l3 l4 D = some (r, D') → J X (Rep G D) 5 [(0, .ref (ad G (11, 0, 0, 0))), (1, .int l1), (2, .int l2), (3, .int l3), (4, .int l4)] []) : ∀ (l1 : Int32) (l2 : Int32) (l4 : Int32) (s0 : Int32) (D : Dt), F_X11_mostAlike_b76 a1 a2 k5 l1 l2 l4 s0 D = some (r, D') → J X (Rep G D) 76 [(0, .ref (ad G (11, 0, 0, 0))), (1, .int l1), (2, .int l2), (4, .int l4)] [.int s0] := by
  intro l1 l2 l4 s0 D h
  unfold F_X11_mostAlike_b76 at h
  refine j_istore_n C [(3, .int s0), (0, .ref (ad G (11, 0, 0, 0))), (1, .int l1), (2, .int l2), (4, .int l4)] dX11_mostAlike_76 rfl (Nat.le_of_ble_eq_true rfl) rfl rfl ?_
  obtain ⟨v29, ev29, h⟩ := bnd_x h
  refine j_iinc C 4 [(4, .int v29), (3, .int s0), (0, .ref (ad G (11, 0, 0, 0))), (1, .int l1), (2, .int l2)] dX11_mostAlike_77 rfl (Nat.le_of_ble_eq_true rfl) (ev29.trans (congrArg (l4 + ·) (by decide))) rfl ?_
  refine j_goto C 5 dX11_mostAlike_80 (by decide) ?_
  refine j_sub [2, 3, 4, 1, 0] [(0, .ref (ad G (11, 0, 0, 0))), (1, .int l1), (2, .int l2), (3, .int s0), (4, .int v29)] rfl ?_
  exact hk5 l1 l2 s0 v29 D h
def F_X11_mostAlike_b5 (a1 : Int32) (a2 : Int32)  : Nat → Int32 → Int32 → Int32 → Int32 → Dt → Option (Int32 × Dt)
  | 0, _, _, _, _, _ => none
  | f + 1, l1, l2, l3, l4, D => (if l2 ≤ l4 then (some (l3, D)) else (F_X11_mostAlike_b17 a1 a2 (fun l1_22 l2_23 l3_24 l4_25 l5_26 D27 => (if l5_26 ≤ l3_24 then (F_X11_mostAlike_b76 a1 a2 (fun l1_30 l2_31 l3_32 l4_33 D34 => (F_X11_mostAlike_b5 a1 a2 f l1_30 l2_31 l3_32 l4_33 D34)) l1_22 l2_23 l4_25 l3_24 D27) else (F_X11_mostAlike_b76 a1 a2 (fun l1_35 l2_36 l3_37 l4_38 D39 => (F_X11_mostAlike_b5 a1 a2 f l1_35 l2_36 l3_37 l4_38 D39)) l1_22 l2_23 l4_25 l5_26 D27))) 2000 l1 l2 l3 l4 (0 : Int32) (0 : Int32) D))
set_option maxRecDepth 100000 in
set_option maxHeartbeats 4000000 in
theorem T_X11_mostAlike_b5 {r : Int32} {D' : Dt} {X : Ctx} {l : Launch} {G : Gt} {A : Nat → Prop} {lv : Nat} {a1 : Int32} {a2 : Int32}   (hG : Gok G A) (hlv : 1 ≤ lv)   (C : Cx X cX11_mostAlike RX11 G l A lv 7 (some .int) (some (.int r)) D')  : ∀ (f : Nat) (l1 : Int32) (l2 : Int32) (l3 : Int32) (l4 : Int32) (D : Dt), F_X11_mostAlike_b5 a1 a2 f l1 l2 l3 l4 D = some (r, D') → J X (Rep G D) 5 [(0, .ref (ad G (11, 0, 0, 0))), (1, .int l1), (2, .int l2), (3, .int l3), (4, .int l4)] [] := by
  intro f
  induction f with
  | zero =>
    intro l1 l2 l3 l4 D h
    exact nomatch h
  | succ f ih =>
    intro l1 l2 l3 l4 D h
    rw [F_X11_mostAlike_b5] at h
    refine j_iload C 4 dX11_mostAlike_5 rfl ?_
    refine j_iload_n C 2 dX11_mostAlike_7 rfl rfl ?_
    refine j_icmp_ge C 83 dX11_mostAlike_8 (by decide) (fun c1 => ?_) (fun c1 => ?_)
    · have h := ite_t c1 h
      refine j_iload_n C 3 dX11_mostAlike_83 rfl rfl ?_
      obtain ⟨rfl, rfl⟩ := pr_x h
      exact j_iret C dX11_mostAlike_84
    · have h := ite_f c1 h
      refine j_iconst C (0 : Int32) (by decide) dX11_mostAlike_11 ?_
      refine j_istore C [(5, .int (0 : Int32)), (0, .ref (ad G (11, 0, 0, 0))), (1, .int l1), (2, .int l2), (3, .int l3), (4, .int l4)] dX11_mostAlike_12 (Nat.le_of_ble_eq_true rfl) rfl rfl ?_
      refine j_iconst C (0 : Int32) (by decide) dX11_mostAlike_14 ?_
      refine j_istore C [(6, .int (0 : Int32)), (5, .int (0 : Int32)), (0, .ref (ad G (11, 0, 0, 0))), (1, .int l1), (2, .int l2), (3, .int l3), (4, .int l4)] dX11_mostAlike_15 (Nat.le_of_ble_eq_true rfl) rfl rfl ?_
      refine j_sub [2, 3, 4, 5, 6, 1, 0] [(0, .ref (ad G (11, 0, 0, 0))), (1, .int l1), (2, .int l2), (3, .int l3), (4, .int l4), (5, .int (0 : Int32)), (6, .int (0 : Int32))] rfl ?_
      refine T_X11_mostAlike_b17 hG hlv  C (fun l1_22 l2_23 l3_24 l4_25 l5_26 D27 h => ?_) 2000 l1 l2 l3 l4 (0 : Int32) (0 : Int32) D h
      · refine j_iload C 5 dX11_mostAlike_64 rfl ?_
        refine j_iload_n C 3 dX11_mostAlike_66 rfl rfl ?_
        refine j_icmp_le C 75 dX11_mostAlike_67 (by decide) (fun c28 => ?_) (fun c28 => ?_)
        · have h := ite_t c28 h
          refine j_iload_n C 3 dX11_mostAlike_75 rfl rfl ?_
          refine j_sub [0, 1, 2, 4] [(0, .ref (ad G (11, 0, 0, 0))), (1, .int l1_22), (2, .int l2_23), (4, .int l4_25)] rfl ?_
          refine T_X11_mostAlike_b76 hG hlv  C (fun l1_30 l2_31 l3_32 l4_33 D34 h => ?_) l1_22 l2_23 l4_25 l3_24 D27 h
          · exact ih l1_30 l2_31 l3_32 l4_33 D34 h
        · have h := ite_f c28 h
          refine j_iload C 5 dX11_mostAlike_70 rfl ?_
          refine j_goto C 76 dX11_mostAlike_72 (by decide) ?_
          refine j_sub [0, 1, 2, 4] [(0, .ref (ad G (11, 0, 0, 0))), (1, .int l1_22), (2, .int l2_23), (4, .int l4_25)] rfl ?_
          refine T_X11_mostAlike_b76 hG hlv  C (fun l1_35 l2_36 l3_37 l4_38 D39 h => ?_) l1_22 l2_23 l4_25 l5_26 D27 h
          · exact ih l1_35 l2_36 l3_37 l4_38 D39 h
def F_X11_mostAlike (a1 : Int32) (a2 : Int32) (D : Dt) : Option (Int32 × Dt) := (F_X11_mostAlike_b5 a1 a2 2000 a1 a2 (0 : Int32) (0 : Int32) D)
set_option maxRecDepth 100000 in
set_option maxHeartbeats 4000000 in
theorem M_X11_mostAlike {l : Launch} {G : Gt} {A : Nat → Prop} {lv : Nat} {a1 : Int32} {a2 : Int32} {D : Dt} {r : Int32} {D' : Dt} (hG : Gok G A) (hlv : 1 ≤ lv)  (h : F_X11_mostAlike a1 a2 D = some (r, D')) : MD l G A lv yX11_mostAlike cX11_mostAlike 7 (some .int) [.ref (ad G (11, 0, 0, 0)), .int a1, .int a2] D (some (.int r)) D' := by
  unfold F_X11_mostAlike at h
  refine md_start RX11 hG (by decide +kernel) rfl (Nat.le_of_ble_eq_true rfl) (L := [(0, .ref (ad G (11, 0, 0, 0))), (1, .int a1), (2, .int a2)]) rfl (fun X C => ?_)
  refine j_iconst C (0 : Int32) (by decide) dX11_mostAlike_0 ?_
  refine j_istore_n C [(3, .int (0 : Int32)), (0, .ref (ad G (11, 0, 0, 0))), (1, .int a1), (2, .int a2)] dX11_mostAlike_1 rfl (Nat.le_of_ble_eq_true rfl) rfl rfl ?_
  refine j_iconst C (0 : Int32) (by decide) dX11_mostAlike_2 ?_
  refine j_istore C [(4, .int (0 : Int32)), (3, .int (0 : Int32)), (0, .ref (ad G (11, 0, 0, 0))), (1, .int a1), (2, .int a2)] dX11_mostAlike_3 (Nat.le_of_ble_eq_true rfl) rfl rfl ?_
  refine j_sub [2, 3, 4, 1, 0] [(0, .ref (ad G (11, 0, 0, 0))), (1, .int a1), (2, .int a2), (3, .int (0 : Int32)), (4, .int (0 : Int32))] rfl ?_
  refine T_X11_mostAlike_b5 hG hlv  C  2000 a1 a2 (0 : Int32) (0 : Int32) D h
def F_X11_look_b98 (a1 : Int32) (a2 : Int32) (k40 : Int32 → Int32 → Int32 → Int32 → Dt → Option (Int32 × Dt)) (l1 : Int32) (l2 : Int32) (l3 : Int32) (l4 : Int32) (D : Dt) : Option (Int32 × Dt) := (bnd (l4 + (1 : Int32)) (fun v20 => (k40 l1 l2 l3 v20 D)))
set_option maxRecDepth 100000 in
set_option maxHeartbeats 4000000 in
theorem T_X11_look_b98 {r : Int32} {D' : Dt} {X : Ctx} {l : Launch} {G : Gt} {A : Nat → Prop} {lv : Nat} {a1 : Int32} {a2 : Int32}  {k40 : Int32 → Int32 → Int32 → Int32 → Dt → Option (Int32 × Dt)} (hG : Gok G A) (hlv : 10 ≤ lv)   (C : Cx X cX11_look RX11 G l A lv 6 (some .int) (some (.int r)) D') (hk40 : ∀ (l1 : Int32) (l2 : Int32) (l3 : Int32) (l4 : Int32) (D : Dt), k40 l1 l2 l3 l4 D = some (r, D') → J X (Rep G D) 40 [(0, .ref (ad G (11, 0, 0, 0))), (1, .int l1), (2, .int l2), (3, .int l3), (4, .int l4)] []) : ∀ (l1 : Int32) (l2 : Int32) (l3 : Int32) (l4 : Int32) (D : Dt), F_X11_look_b98 a1 a2 k40 l1 l2 l3 l4 D = some (r, D') → J X (Rep G D) 98 [(0, .ref (ad G (11, 0, 0, 0))), (1, .int l1), (2, .int l2), (3, .int l3), (4, .int l4)] [] := by
  intro l1 l2 l3 l4 D h
  unfold F_X11_look_b98 at h
  obtain ⟨v20, ev20, h⟩ := bnd_x h
  refine j_iinc C 4 [(4, .int v20), (0, .ref (ad G (11, 0, 0, 0))), (1, .int l1), (2, .int l2), (3, .int l3)] dX11_look_98 rfl (Nat.le_of_ble_eq_true rfl) (ev20.trans (congrArg (l4 + ·) (by decide))) rfl ?_
  refine j_goto C 40 dX11_look_101 (by decide) ?_
  refine j_sub [1, 2, 3, 4, 0] [(0, .ref (ad G (11, 0, 0, 0))), (1, .int l1), (2, .int l2), (3, .int l3), (4, .int v20)] rfl ?_
  exact hk40 l1 l2 l3 v20 D h
def F_X11_look_b61 (a1 : Int32) (a2 : Int32) (k95 : Int32 → Int32 → Int32 → Int32 → Dt → Option (Int32 × Dt)) : Nat → Int32 → Int32 → Int32 → Int32 → Int32 → Dt → Option (Int32 × Dt)
  | 0, _, _, _, _, _, _ => none
  | f + 1, l1, l2, l3, l4, l5, D => (if (5 : Int32) ≤ l5 then (k95 l1 l2 l3 l4 D) else (grd (inB (((5 : Int32) * l1) + l5) 305 = true) (grd (inB (((5 : Int32) * l3) + l5) 35 = true) (bnd (setI D (11, 0, 54, 0) ((((5 : Int32) * l3) + l5).toNatClampNeg) (D.1 (11, 0, 53, 0) ((((5 : Int32) * l1) + l5).toNatClampNeg))) (fun D29 => (bnd (l5 + (1 : Int32)) (fun v30 => (F_X11_look_b61 a1 a2 k95 f l1 l2 l3 l4 v30 D29))))))))
set_option maxRecDepth 100000 in
set_option maxHeartbeats 4000000 in
theorem T_X11_look_b61 {r : Int32} {D' : Dt} {X : Ctx} {l : Launch} {G : Gt} {A : Nat → Prop} {lv : Nat} {a1 : Int32} {a2 : Int32}  {k95 : Int32 → Int32 → Int32 → Int32 → Dt → Option (Int32 × Dt)} (hG : Gok G A) (hlv : 10 ≤ lv)   (C : Cx X cX11_look RX11 G l A lv 6 (some .int) (some (.int r)) D') (hk95 : ∀ (l1 : Int32) (l2 : Int32) (l3 : Int32) (l4 : Int32) (D : Dt), k95 l1 l2 l3 l4 D = some (r, D') → J X (Rep G D) 95 [(0, .ref (ad G (11, 0, 0, 0))), (1, .int l1), (2, .int l2), (3, .int l3), (4, .int l4)] []) : ∀ (f : Nat) (l1 : Int32) (l2 : Int32) (l3 : Int32) (l4 : Int32) (l5 : Int32) (D : Dt), F_X11_look_b61 a1 a2 k95 f l1 l2 l3 l4 l5 D = some (r, D') → J X (Rep G D) 61 [(0, .ref (ad G (11, 0, 0, 0))), (1, .int l1), (2, .int l2), (3, .int l3), (4, .int l4), (5, .int l5)] [] := by
  intro f
  induction f with
  | zero =>
    intro l1 l2 l3 l4 l5 D h
    exact nomatch h
  | succ f ih =>
    intro l1 l2 l3 l4 l5 D h
    rw [F_X11_look_b61] at h
    refine j_iload C 5 dX11_look_61 rfl ?_
    refine j_iconst C (5 : Int32) (by decide) dX11_look_63 ?_
    refine j_icmp_ge C 95 dX11_look_64 (by decide) (fun c26 => ?_) (fun c26 => ?_)
    · have h := ite_t c26 h
      refine j_sub [0, 1, 2, 3, 4] [(0, .ref (ad G (11, 0, 0, 0))), (1, .int l1), (2, .int l2), (3, .int l3), (4, .int l4)] rfl ?_
      exact hk95 l1 l2 l3 l4 D h
    · have h := ite_f c26 h
      refine j_aload_n C 0 dX11_look_67 rfl rfl ?_
      refine j_getS C (11, 0, 54, 0) fl_X11_121 dX11_look_68 (by decide) ⟨rfl, rfl⟩ rfl rfl ?_
      refine j_iconst C (5 : Int32) (by decide) dX11_look_71 ?_
      refine j_iload_n C 3 dX11_look_72 rfl rfl ?_
      refine j_imul C dX11_look_73 ?_
      refine j_iload C 5 dX11_look_74 rfl ?_
      refine j_iadd C dX11_look_76 ?_
      refine j_aload_n C 0 dX11_look_77 rfl rfl ?_
      refine j_getS C (11, 0, 53, 0) fl_X11_118 dX11_look_78 (by decide) ⟨rfl, rfl⟩ rfl rfl ?_
      refine j_iconst C (5 : Int32) (by decide) dX11_look_81 ?_
      refine j_iload_n C 1 dX11_look_82 rfl rfl ?_
      refine j_imul C dX11_look_83 ?_
      refine j_iload C 5 dX11_look_84 rfl ?_
      refine j_iadd C dX11_look_86 ?_
      obtain ⟨g27, h⟩ := grd_x h
      refine j_ialdK C 305 ((((5 : Int32) * l1) + l5).toNatClampNeg) dX11_look_87 (V_f 52 (by decide) (by decide)) rfl g27 rfl ?_
      obtain ⟨g28, h⟩ := grd_x h
      obtain ⟨D29, eD29, h⟩ := bnd_x h
      refine j_iastK C 35 ((((5 : Int32) * l3) + l5).toNatClampNeg) dX11_look_88 (V_f 53 (by decide) (by decide)) rfl g28 rfl ?_
      refine j_rep eD29 ?_
      obtain ⟨v30, ev30, h⟩ := bnd_x h
      refine j_iinc C 5 [(5, .int v30), (0, .ref (ad G (11, 0, 0, 0))), (1, .int l1), (2, .int l2), (3, .int l3), (4, .int l4)] dX11_look_89 rfl (Nat.le_of_ble_eq_true rfl) (ev30.trans (congrArg (l5 + ·) (by decide))) rfl ?_
      refine j_goto C 61 dX11_look_92 (by decide) ?_
      refine j_sub [1, 2, 3, 4, 5, 0] [(0, .ref (ad G (11, 0, 0, 0))), (1, .int l1), (2, .int l2), (3, .int l3), (4, .int l4), (5, .int v30)] rfl ?_
      exact ih l1 l2 l3 l4 v30 D29 h
def F_X11_look_b40 (a1 : Int32) (a2 : Int32) (k104 : Int32 → Int32 → Dt → Option (Int32 × Dt)) : Nat → Int32 → Int32 → Int32 → Int32 → Dt → Option (Int32 × Dt)
  | 0, _, _, _, _, _ => none
  | f + 1, l1, l2, l3, l4, D => (if (D.1 (11, 0, 0, 0) 23) ≤ l4 then (k104 l2 l3 D) else (cbd (F_X11_couldRule l4 D) (fun r17 D18 => (if r17 = 0 then (F_X11_look_b98 a1 a2 (fun l1_21 l2_22 l3_23 l4_24 D25 => (F_X11_look_b40 a1 a2 k104 f l1_21 l2_22 l3_23 l4_24 D25)) l1 l2 l3 l4 D18) else (F_X11_look_b61 a1 a2 (fun l1_31 l2_32 l3_33 l4_34 D35 => (bnd (l3_33 + (1 : Int32)) (fun v36 => (F_X11_look_b98 a1 a2 (fun l1_37 l2_38 l3_39 l4_40 D41 => (F_X11_look_b40 a1 a2 k104 f l1_37 l2_38 l3_39 l4_40 D41)) l1_31 l2_32 v36 l4_34 D35)))) 2000 l1 l2 l3 l4 (0 : Int32) D18)))))
set_option maxRecDepth 100000 in
set_option maxHeartbeats 4000000 in
theorem T_X11_look_b40 {r : Int32} {D' : Dt} {X : Ctx} {l : Launch} {G : Gt} {A : Nat → Prop} {lv : Nat} {a1 : Int32} {a2 : Int32}  {k104 : Int32 → Int32 → Dt → Option (Int32 × Dt)} (hG : Gok G A) (hlv : 10 ≤ lv)   (C : Cx X cX11_look RX11 G l A lv 6 (some .int) (some (.int r)) D') (hk104 : ∀ (l2 : Int32) (l3 : Int32) (D : Dt), k104 l2 l3 D = some (r, D') → J X (Rep G D) 104 [(0, .ref (ad G (11, 0, 0, 0))), (2, .int l2), (3, .int l3)] []) : ∀ (f : Nat) (l1 : Int32) (l2 : Int32) (l3 : Int32) (l4 : Int32) (D : Dt), F_X11_look_b40 a1 a2 k104 f l1 l2 l3 l4 D = some (r, D') → J X (Rep G D) 40 [(0, .ref (ad G (11, 0, 0, 0))), (1, .int l1), (2, .int l2), (3, .int l3), (4, .int l4)] [] := by
  intro f
  induction f with
  | zero =>
    intro l1 l2 l3 l4 D h
    exact nomatch h
  | succ f ih =>
    intro l1 l2 l3 l4 D h
    rw [F_X11_look_b40] at h
    refine j_iload C 4 dX11_look_40 rfl ?_
    refine j_aload_n C 0 dX11_look_42 rfl rfl ?_
    refine j_getI C fl_X11_311 dX11_look_43 (by decide) ⟨rfl, rfl⟩ rfl ?_
    refine j_icmp_ge C 104 dX11_look_46 (by decide) (fun c15 => ?_) (fun c15 => ?_)
    · have h := ite_t c15 h
      refine j_sub [0, 2, 3] [(0, .ref (ad G (11, 0, 0, 0))), (2, .int l2), (3, .int l3)] rfl ?_
      exact hk104 l2 l3 D h
    · have h := ite_f c15 h
      refine j_aload_n C 0 dX11_look_49 rfl rfl ?_
      refine j_iload C 4 dX11_look_50 rfl ?_
      obtain ⟨r17, D18, h16, h⟩ := cbd_x h
      refine j_callV C [.int l4] [] cl_X11_462 (M_X11_couldRule (lv := lv - 1) hG (by omega) h16) (by omega) dX11_look_52 (by decide) ⟨rfl, rfl⟩ rfl rfl (Nat.le_of_ble_eq_true rfl) ?_
      refine j_st (st' := [.int r17]) rfl ?_
      refine j_if_eq C 98 dX11_look_55 (by decide) (fun c19 => ?_) (fun c19 => ?_)
      · have h := ite_t c19 h
        refine T_X11_look_b98 hG hlv  C (fun l1_21 l2_22 l3_23 l4_24 D25 h => ?_) l1 l2 l3 l4 D18 h
        · exact ih l1_21 l2_22 l3_23 l4_24 D25 h
      · have h := ite_f c19 h
        refine j_iconst C (0 : Int32) (by decide) dX11_look_58 ?_
        refine j_istore C [(5, .int (0 : Int32)), (0, .ref (ad G (11, 0, 0, 0))), (1, .int l1), (2, .int l2), (3, .int l3), (4, .int l4)] dX11_look_59 (Nat.le_of_ble_eq_true rfl) rfl rfl ?_
        refine j_sub [1, 2, 3, 4, 5, 0] [(0, .ref (ad G (11, 0, 0, 0))), (1, .int l1), (2, .int l2), (3, .int l3), (4, .int l4), (5, .int (0 : Int32))] rfl ?_
        refine T_X11_look_b61 hG hlv  C (fun l1_31 l2_32 l3_33 l4_34 D35 h => ?_) 2000 l1 l2 l3 l4 (0 : Int32) D18 h
        · obtain ⟨v36, ev36, h⟩ := bnd_x h
          refine j_iinc C 3 [(3, .int v36), (0, .ref (ad G (11, 0, 0, 0))), (1, .int l1_31), (2, .int l2_32), (4, .int l4_34)] dX11_look_95 rfl (Nat.le_of_ble_eq_true rfl) (ev36.trans (congrArg (l3_33 + ·) (by decide))) rfl ?_
          refine j_sub [1, 2, 3, 0, 4] [(0, .ref (ad G (11, 0, 0, 0))), (1, .int l1_31), (2, .int l2_32), (3, .int v36), (4, .int l4_34)] rfl ?_
          refine T_X11_look_b98 hG hlv  C (fun l1_37 l2_38 l3_39 l4_40 D41 h => ?_) l1_31 l2_32 v36 l4_34 D35 h
          · exact ih l1_37 l2_38 l3_39 l4_40 D41 h
def F_X11_look_b161 (a1 : Int32) (a2 : Int32) (k126 : Int32 → Int32 → Int32 → Int32 → Dt → Option (Int32 × Dt)) (l2 : Int32) (l3 : Int32) (l5 : Int32) (s0 : Int32) (D : Dt) : Option (Int32 × Dt) := (bnd (l5 + (1 : Int32)) (fun v55 => (k126 l2 l3 s0 v55 D)))
set_option maxRecDepth 100000 in
set_option maxHeartbeats 4000000 in
theorem T_X11_look_b161 {r : Int32} {D' : Dt} {X : Ctx} {l : Launch} {G : Gt} {A : Nat → Prop} {lv : Nat} {a1 : Int32} {a2 : Int32}  {k126 : Int32 → Int32 → Int32 → Int32 → Dt → Option (Int32 × Dt)} (hG : Gok G A) (hlv : 10 ≤ lv)   (C : Cx X cX11_look RX11 G l A lv 6 (some .int) (some (.int r)) D') (hk126 : ∀ (l2 : Int32) (l3 : Int32) (l4 : Int32) (l5 : Int32) (D : Dt), k126 l2 l3 l4 l5 D = some (r, D') → J X (Rep G D) 126 [(0, .ref (ad G (11, 0, 0, 0))), (2, .int l2), (3, .int l3), (4, .int l4), (5, .int l5)] []) : ∀ (l2 : Int32) (l3 : Int32) (l5 : Int32) (s0 : Int32) (D : Dt), F_X11_look_b161 a1 a2 k126 l2 l3 l5 s0 D = some (r, D') → J X (Rep G D) 161 [(0, .ref (ad G (11, 0, 0, 0))), (2, .int l2), (3, .int l3), (5, .int l5)] [.int s0] := by
  intro l2 l3 l5 s0 D h
  unfold F_X11_look_b161 at h
  refine j_istore C [(4, .int s0), (0, .ref (ad G (11, 0, 0, 0))), (2, .int l2), (3, .int l3), (5, .int l5)] dX11_look_161 (Nat.le_of_ble_eq_true rfl) rfl rfl ?_
  obtain ⟨v55, ev55, h⟩ := bnd_x h
  refine j_iinc C 4 [(5, .int v55), (4, .int s0), (0, .ref (ad G (11, 0, 0, 0))), (2, .int l2), (3, .int l3)] dX11_look_163 rfl (Nat.le_of_ble_eq_true rfl) (ev55.trans (congrArg (l5 + ·) (by decide))) rfl ?_
  refine j_goto C 126 dX11_look_166 (by decide) ?_
  refine j_sub [2, 3, 4, 1, 0] [(0, .ref (ad G (11, 0, 0, 0))), (2, .int l2), (3, .int l3), (4, .int s0), (5, .int v55)] rfl ?_
  exact hk126 l2 l3 s0 v55 D h
def F_X11_look_b126 (a1 : Int32) (a2 : Int32) (k169 : Int32 → Int32 → Int32 → Dt → Option (Int32 × Dt)) : Nat → Int32 → Int32 → Int32 → Int32 → Dt → Option (Int32 × Dt)
  | 0, _, _, _, _, _ => none
  | f + 1, l2, l3, l4, l5, D => (if (D.1 (11, 0, 2, 0) 2) ≤ l5 then (k169 l2 l3 l4 D) else (cbd (F_X11_mostAlike l5 l3 D) (fun r49 D50 => (cbd (F_X11_mostAlike l4 l3 D50) (fun r52 D53 => (if r52 ≤ r49 then (F_X11_look_b161 a1 a2 (fun l2_56 l3_57 l4_58 l5_59 D60 => (F_X11_look_b126 a1 a2 k169 f l2_56 l3_57 l4_58 l5_59 D60)) l2 l3 l5 l4 D53) else (F_X11_look_b161 a1 a2 (fun l2_61 l3_62 l4_63 l5_64 D65 => (F_X11_look_b126 a1 a2 k169 f l2_61 l3_62 l4_63 l5_64 D65)) l2 l3 l5 l5 D53)))))))
set_option maxRecDepth 100000 in
set_option maxHeartbeats 4000000 in
theorem T_X11_look_b126 {r : Int32} {D' : Dt} {X : Ctx} {l : Launch} {G : Gt} {A : Nat → Prop} {lv : Nat} {a1 : Int32} {a2 : Int32}  {k169 : Int32 → Int32 → Int32 → Dt → Option (Int32 × Dt)} (hG : Gok G A) (hlv : 10 ≤ lv)   (C : Cx X cX11_look RX11 G l A lv 6 (some .int) (some (.int r)) D') (hk169 : ∀ (l2 : Int32) (l3 : Int32) (l4 : Int32) (D : Dt), k169 l2 l3 l4 D = some (r, D') → J X (Rep G D) 169 [(0, .ref (ad G (11, 0, 0, 0))), (2, .int l2), (3, .int l3), (4, .int l4)] []) : ∀ (f : Nat) (l2 : Int32) (l3 : Int32) (l4 : Int32) (l5 : Int32) (D : Dt), F_X11_look_b126 a1 a2 k169 f l2 l3 l4 l5 D = some (r, D') → J X (Rep G D) 126 [(0, .ref (ad G (11, 0, 0, 0))), (2, .int l2), (3, .int l3), (4, .int l4), (5, .int l5)] [] := by
  intro f
  induction f with
  | zero =>
    intro l2 l3 l4 l5 D h
    exact nomatch h
  | succ f ih =>
    intro l2 l3 l4 l5 D h
    rw [F_X11_look_b126] at h
    refine j_iload C 4 dX11_look_126 rfl ?_
    refine j_aload_n C 0 dX11_look_128 rfl rfl ?_
    refine j_getS C (11, 0, 2, 0) fl_X11_9 dX11_look_129 (by decide) ⟨rfl, rfl⟩ rfl rfl ?_
    refine j_iconst C (2 : Int32) (by decide) dX11_look_132 ?_
    refine j_ialdK C 9 2 dX11_look_133 (V_f 1 (by decide) (by decide)) rfl (by decide) (by decide) ?_
    refine j_icmp_ge C 169 dX11_look_134 (by decide) (fun c47 => ?_) (fun c47 => ?_)
    · have h := ite_t c47 h
      refine j_sub [0, 1, 2, 3] [(0, .ref (ad G (11, 0, 0, 0))), (2, .int l2), (3, .int l3), (4, .int l4)] rfl ?_
      exact hk169 l2 l3 l4 D h
    · have h := ite_f c47 h
      refine j_aload_n C 0 dX11_look_137 rfl rfl ?_
      refine j_iload C 4 dX11_look_138 rfl ?_
      refine j_iload_n C 2 dX11_look_140 rfl rfl ?_
      obtain ⟨r49, D50, h48, h⟩ := cbd_x h
      refine j_callV C [.int l5, .int l3] [] cl_X11_465 (M_X11_mostAlike (lv := lv - 1) hG (by omega) h48) (by omega) dX11_look_141 (by decide) ⟨rfl, rfl⟩ rfl rfl (Nat.le_of_ble_eq_true rfl) ?_
      refine j_st (st' := [.int r49]) rfl ?_
      refine j_aload_n C 0 dX11_look_144 rfl rfl ?_
      refine j_iload C 3 dX11_look_145 rfl ?_
      refine j_iload_n C 2 dX11_look_147 rfl rfl ?_
      obtain ⟨r52, D53, h51, h⟩ := cbd_x h
      refine j_callV C [.int l4, .int l3] [.int r49] cl_X11_465 (M_X11_mostAlike (lv := lv - 1) hG (by omega) h51) (by omega) dX11_look_148 (by decide) ⟨rfl, rfl⟩ rfl rfl (Nat.le_of_ble_eq_true rfl) ?_
      refine j_st (st' := [.int r52, .int r49]) rfl ?_
      refine j_icmp_ge C 159 dX11_look_151 (by decide) (fun c54 => ?_) (fun c54 => ?_)
      · have h := ite_t c54 h
        refine j_iload C 3 dX11_look_159 rfl ?_
        refine j_sub [0, 1, 2, 4] [(0, .ref (ad G (11, 0, 0, 0))), (2, .int l2), (3, .int l3), (5, .int l5)] rfl ?_
        refine T_X11_look_b161 hG hlv  C (fun l2_56 l3_57 l4_58 l5_59 D60 h => ?_) l2 l3 l5 l4 D53 h
        · exact ih l2_56 l3_57 l4_58 l5_59 D60 h
      · have h := ite_f c54 h
        refine j_iload C 4 dX11_look_154 rfl ?_
        refine j_goto C 161 dX11_look_156 (by decide) ?_
        refine j_sub [0, 1, 2, 4] [(0, .ref (ad G (11, 0, 0, 0))), (2, .int l2), (3, .int l3), (5, .int l5)] rfl ?_
        refine T_X11_look_b161 hG hlv  C (fun l2_61 l3_62 l4_63 l5_64 D65 h => ?_) l2 l3 l5 l5 D53 h
        · exact ih l2_61 l3_62 l4_63 l5_64 D65 h
def F_X11_look (a1 : Int32) (a2 : Int32) (D : Dt) : Option (Int32 × Dt) := (cbd (F_X11_isTable  D) (fun r2 D3 => (if r2 = 0 then (some ((-1 : Int32), D3)) else (cbd (F_X11_in a1.toInt64 (0 : Int64) (60 : Int64) D3) (fun r6 D7 => (if r6 = 0 then (some ((-1 : Int32), D7)) else (cbd (F_X11_in a2.toInt64 (0 : Int64) (1 : Int64) D7) (fun r10 D11 => (if r10 = 0 then (some ((-1 : Int32), D11)) else (vbd (F_X11_keepsAll  D11) (fun D14 => (F_X11_look_b40 a1 a2 (fun l2_42 l3_43 D44 => (if l3_43 = 0 then (some ((-2 : Int32), D44)) else (if (D44.1 (11, 0, 2, 0) 2) = 0 then (some ((-2 : Int32), D44)) else (F_X11_look_b126 a1 a2 (fun l2_66 l3_67 l4_68 D69 => (if l2_66 = 0 then (some (l4_68, D69)) else (cbd (F_X11_mostAlike l4_68 l3_67 D69) (fun r72 D73 => (some (r72, D73)))))) 2000 l2_42 l3_43 (0 : Int32) (1 : Int32) D44)))) 2000 a1 a2 (0 : Int32) (-1 : Int32) D14))))))))))))
set_option maxRecDepth 100000 in
set_option maxHeartbeats 4000000 in
theorem M_X11_look {l : Launch} {G : Gt} {A : Nat → Prop} {lv : Nat} {a1 : Int32} {a2 : Int32} {D : Dt} {r : Int32} {D' : Dt} (hG : Gok G A) (hlv : 10 ≤ lv)  (h : F_X11_look a1 a2 D = some (r, D')) : MD l G A lv yX11_look cX11_look 6 (some .int) [.ref (ad G (11, 0, 0, 0)), .int a1, .int a2] D (some (.int r)) D' := by
  unfold F_X11_look at h
  refine md_start RX11 hG (by decide +kernel) rfl (Nat.le_of_ble_eq_true rfl) (L := [(0, .ref (ad G (11, 0, 0, 0))), (1, .int a1), (2, .int a2)]) rfl (fun X C => ?_)
  refine j_aload_n C 0 dX11_look_0 rfl rfl ?_
  obtain ⟨r2, D3, h1, h⟩ := cbd_x h
  refine j_callV C [] [] cl_X11_405 (M_X11_isTable (lv := lv - 1) hG (by omega) h1) (by omega) dX11_look_1 (by decide) ⟨rfl, rfl⟩ rfl rfl (Nat.le_of_ble_eq_true rfl) ?_
  refine j_st (st' := [.int r2]) rfl ?_
  refine j_if_eq C 29 dX11_look_4 (by decide) (fun c4 => ?_) (fun c4 => ?_)
  · have h := ite_t c4 h
    refine j_iconst C (-1 : Int32) (by decide) dX11_look_29 ?_
    obtain ⟨rfl, rfl⟩ := pr_x h
    exact j_iret C dX11_look_30
  · have h := ite_f c4 h
    refine j_iload_n C 1 dX11_look_7 rfl rfl ?_
    refine j_i2l C dX11_look_8 ?_
    refine j_lconst C (0 : Int64) (by decide) dX11_look_9 ?_
    refine j_ldc2 C (60 : Int64) kc_X11_347 dX11_look_10 ?_
    obtain ⟨r6, D7, h5, h⟩ := cbd_x h
    refine j_callS C [.long a1.toInt64, .long (0 : Int64), .long (60 : Int64)] [] cl_X11_134 (M_X11_in (lv := lv - 1) hG (by omega) h5) (by omega) dX11_look_13 rfl rfl (Nat.le_of_ble_eq_true rfl) ?_
    refine j_st (st' := [.int r6]) rfl ?_
    refine j_if_eq C 29 dX11_look_16 (by decide) (fun c8 => ?_) (fun c8 => ?_)
    · have h := ite_t c8 h
      refine j_iconst C (-1 : Int32) (by decide) dX11_look_29 ?_
      obtain ⟨rfl, rfl⟩ := pr_x h
      exact j_iret C dX11_look_30
    · have h := ite_f c8 h
      refine j_iload_n C 2 dX11_look_19 rfl rfl ?_
      refine j_i2l C dX11_look_20 ?_
      refine j_lconst C (0 : Int64) (by decide) dX11_look_21 ?_
      refine j_lconst C (1 : Int64) (by decide) dX11_look_22 ?_
      obtain ⟨r10, D11, h9, h⟩ := cbd_x h
      refine j_callS C [.long a2.toInt64, .long (0 : Int64), .long (1 : Int64)] [] cl_X11_134 (M_X11_in (lv := lv - 1) hG (by omega) h9) (by omega) dX11_look_23 rfl rfl (Nat.le_of_ble_eq_true rfl) ?_
      refine j_st (st' := [.int r10]) rfl ?_
      refine j_if_ne C 31 dX11_look_26 (by decide) (fun c12 => ?_) (fun c12 => ?_)
      · have h := ite_f c12 h
        refine j_aload_n C 0 dX11_look_31 rfl rfl ?_
        obtain ⟨D14, h13, h⟩ := vbd_x h
        refine j_callV C [] [] cl_X11_432 (M_X11_keepsAll (lv := lv - 1) hG (by omega) h13) (by omega) dX11_look_32 (by decide) ⟨rfl, rfl⟩ rfl rfl (Nat.le_of_ble_eq_true rfl) ?_
        refine j_st (st' := []) rfl ?_
        refine j_iconst C (0 : Int32) (by decide) dX11_look_35 ?_
        refine j_istore_n C [(3, .int (0 : Int32)), (0, .ref (ad G (11, 0, 0, 0))), (1, .int a1), (2, .int a2)] dX11_look_36 rfl (Nat.le_of_ble_eq_true rfl) rfl rfl ?_
        refine j_iconst C (-1 : Int32) (by decide) dX11_look_37 ?_
        refine j_istore C [(4, .int (-1 : Int32)), (3, .int (0 : Int32)), (0, .ref (ad G (11, 0, 0, 0))), (1, .int a1), (2, .int a2)] dX11_look_38 (Nat.le_of_ble_eq_true rfl) rfl rfl ?_
        refine j_sub [2, 3, 4, 1, 0] [(0, .ref (ad G (11, 0, 0, 0))), (1, .int a1), (2, .int a2), (3, .int (0 : Int32)), (4, .int (-1 : Int32))] rfl ?_
        refine T_X11_look_b40 hG hlv  C (fun l2_42 l3_43 D44 h => ?_) 2000 a1 a2 (0 : Int32) (-1 : Int32) D14 h
        · refine j_iload_n C 2 dX11_look_104 rfl rfl ?_
          refine j_if_eq C 117 dX11_look_105 (by decide) (fun c45 => ?_) (fun c45 => ?_)
          · have h := ite_t c45 h
            refine j_bipush C (-2 : Int32) (by decide) dX11_look_117 ?_
            obtain ⟨rfl, rfl⟩ := pr_x h
            exact j_iret C dX11_look_119
          · have h := ite_f c45 h
            refine j_aload_n C 0 dX11_look_108 rfl rfl ?_
            refine j_getS C (11, 0, 2, 0) fl_X11_9 dX11_look_109 (by decide) ⟨rfl, rfl⟩ rfl rfl ?_
            refine j_iconst C (2 : Int32) (by decide) dX11_look_112 ?_
            refine j_ialdK C 9 2 dX11_look_113 (V_f 1 (by decide) (by decide)) rfl (by decide) (by decide) ?_
            refine j_if_ne C 120 dX11_look_114 (by decide) (fun c46 => ?_) (fun c46 => ?_)
            · have h := ite_f c46 h
              refine j_iconst C (0 : Int32) (by decide) dX11_look_120 ?_
              refine j_istore C [(4, .int (0 : Int32)), (0, .ref (ad G (11, 0, 0, 0))), (2, .int l2_42), (3, .int l3_43)] dX11_look_121 (Nat.le_of_ble_eq_true rfl) rfl rfl ?_
              refine j_iconst C (1 : Int32) (by decide) dX11_look_123 ?_
              refine j_istore C [(5, .int (1 : Int32)), (4, .int (0 : Int32)), (0, .ref (ad G (11, 0, 0, 0))), (2, .int l2_42), (3, .int l3_43)] dX11_look_124 (Nat.le_of_ble_eq_true rfl) rfl rfl ?_
              refine j_sub [2, 3, 4, 1, 0] [(0, .ref (ad G (11, 0, 0, 0))), (2, .int l2_42), (3, .int l3_43), (4, .int (0 : Int32)), (5, .int (1 : Int32))] rfl ?_
              refine T_X11_look_b126 hG hlv  C (fun l2_66 l3_67 l4_68 D69 h => ?_) 2000 l2_42 l3_43 (0 : Int32) (1 : Int32) D44 h
              · refine j_iload_n C 1 dX11_look_169 rfl rfl ?_
                refine j_if_ne C 178 dX11_look_170 (by decide) (fun c70 => ?_) (fun c70 => ?_)
                · have h := ite_f c70 h
                  refine j_aload_n C 0 dX11_look_178 rfl rfl ?_
                  refine j_iload C 3 dX11_look_179 rfl ?_
                  refine j_iload_n C 2 dX11_look_181 rfl rfl ?_
                  obtain ⟨r72, D73, h71, h⟩ := cbd_x h
                  refine j_callV C [.int l4_68, .int l3_67] [] cl_X11_465 (M_X11_mostAlike (lv := lv - 1) hG (by omega) h71) (by omega) dX11_look_182 (by decide) ⟨rfl, rfl⟩ rfl rfl (Nat.le_of_ble_eq_true rfl) ?_
                  refine j_st (st' := [.int r72]) rfl ?_
                  obtain ⟨rfl, rfl⟩ := pr_x h
                  exact j_iret C dX11_look_185
                · have h := ite_t c70 h
                  refine j_iload C 3 dX11_look_173 rfl ?_
                  refine j_goto C 185 dX11_look_175 (by decide) ?_
                  obtain ⟨rfl, rfl⟩ := pr_x h
                  exact j_iret C dX11_look_185
            · have h := ite_t c46 h
              refine j_bipush C (-2 : Int32) (by decide) dX11_look_117 ?_
              obtain ⟨rfl, rfl⟩ := pr_x h
              exact j_iret C dX11_look_119
      · have h := ite_t c12 h
        refine j_iconst C (-1 : Int32) (by decide) dX11_look_29 ?_
        obtain ⟨rfl, rfl⟩ := pr_x h
        exact j_iret C dX11_look_30
def F_X11_seed (a1 : Int32) (D : Dt) : Option (Int32 × Dt) := (if 0 ≤ a1 then (bnd (D.1 (11, 0, 2, 0) 7) (fun v2 => (bnd (setI D (11, 0, 2, 0) 7 a1) (fun D3 => (some (v2, D3)))))) else (some ((-1 : Int32), D)))
set_option maxRecDepth 100000 in
set_option maxHeartbeats 4000000 in
theorem M_X11_seed {l : Launch} {G : Gt} {A : Nat → Prop} {lv : Nat} {a1 : Int32} {D : Dt} {r : Int32} {D' : Dt} (hG : Gok G A) (hlv : 1 ≤ lv)  (h : F_X11_seed a1 D = some (r, D')) : MD l G A lv yX11_seed cX11_seed 3 (some .int) [.ref (ad G (11, 0, 0, 0)), .int a1] D (some (.int r)) D' := by
  unfold F_X11_seed at h
  refine md_start RX11 hG (by decide +kernel) rfl (Nat.le_of_ble_eq_true rfl) (L := [(0, .ref (ad G (11, 0, 0, 0))), (1, .int a1)]) rfl (fun X C => ?_)
  refine j_iload_n C 1 dX11_seed_0 rfl rfl ?_
  refine j_if_ge C 6 dX11_seed_1 (by decide) (fun c1 => ?_) (fun c1 => ?_)
  · have h := ite_t c1 h
    refine j_aload_n C 0 dX11_seed_6 rfl rfl ?_
    refine j_getS C (11, 0, 2, 0) fl_X11_9 dX11_seed_7 (by decide) ⟨rfl, rfl⟩ rfl rfl ?_
    refine j_bipush C (7 : Int32) (by decide) dX11_seed_10 ?_
    refine j_ialdK C 9 7 dX11_seed_12 (V_f 1 (by decide) (by decide)) rfl (by decide) (by decide) ?_
    obtain ⟨v2, ev2, h⟩ := bnd_x h
    refine j_istore_n C [(2, .int v2), (0, .ref (ad G (11, 0, 0, 0))), (1, .int a1)] dX11_seed_13 rfl (Nat.le_of_ble_eq_true rfl) ev2 rfl ?_
    refine j_aload_n C 1 dX11_seed_14 rfl rfl ?_
    refine j_getS C (11, 0, 2, 0) fl_X11_9 dX11_seed_15 (by decide) ⟨rfl, rfl⟩ rfl rfl ?_
    refine j_bipush C (7 : Int32) (by decide) dX11_seed_18 ?_
    refine j_iload_n C 2 dX11_seed_20 rfl rfl ?_
    obtain ⟨D3, eD3, h⟩ := bnd_x h
    refine j_iastK C 9 7 dX11_seed_21 (V_f 1 (by decide) (by decide)) rfl (by decide) (by decide) ?_
    refine j_rep eD3 ?_
    refine j_iload_n C 0 dX11_seed_22 rfl rfl ?_
    obtain ⟨rfl, rfl⟩ := pr_x h
    exact j_iret C dX11_seed_23
  · have h := ite_f c1 h
    refine j_iconst C (-1 : Int32) (by decide) dX11_seed_4 ?_
    obtain ⟨rfl, rfl⟩ := pr_x h
    exact j_iret C dX11_seed_5
def F_X11_draws (a1 : Int32) (D : Dt) : Option (Int32 × Dt) := (bnd (setI D (11, 0, 2, 0) 7 ((((((D.1 (11, 0, 2, 0) 7).toInt64) * (1103515245 : Int64)) + (12345 : Int64)) - ((((D.1 (11, 0, 2, 0) 7).toInt64) * (1103515245 : Int64)) + (12345 : Int64)) / (2147483648 : Int64) * (2147483648 : Int64)).toInt32)) (fun D1 => (grd (¬ a1 = 0) (some ((((D1.1 (11, 0, 2, 0) 7) / (65536 : Int32)) - ((D1.1 (11, 0, 2, 0) 7) / (65536 : Int32)) / a1 * a1), D1)))))
set_option maxRecDepth 100000 in
set_option maxHeartbeats 4000000 in
theorem M_X11_draws {l : Launch} {G : Gt} {A : Nat → Prop} {lv : Nat} {a1 : Int32} {D : Dt} {r : Int32} {D' : Dt} (hG : Gok G A) (hlv : 1 ≤ lv)  (h : F_X11_draws a1 D = some (r, D')) : MD l G A lv yX11_draws cX11_draws 2 (some .int) [.ref (ad G (11, 0, 0, 0)), .int a1] D (some (.int r)) D' := by
  unfold F_X11_draws at h
  refine md_start RX11 hG (by decide +kernel) rfl (Nat.le_of_ble_eq_true rfl) (L := [(0, .ref (ad G (11, 0, 0, 0))), (1, .int a1)]) rfl (fun X C => ?_)
  refine j_aload_n C 0 dX11_draws_0 rfl rfl ?_
  refine j_getS C (11, 0, 2, 0) fl_X11_9 dX11_draws_1 (by decide) ⟨rfl, rfl⟩ rfl rfl ?_
  refine j_bipush C (7 : Int32) (by decide) dX11_draws_4 ?_
  refine j_aload_n C 0 dX11_draws_6 rfl rfl ?_
  refine j_getS C (11, 0, 2, 0) fl_X11_9 dX11_draws_7 (by decide) ⟨rfl, rfl⟩ rfl rfl ?_
  refine j_bipush C (7 : Int32) (by decide) dX11_draws_10 ?_
  refine j_ialdK C 9 7 dX11_draws_12 (V_f 1 (by decide) (by decide)) rfl (by decide) (by decide) ?_
  refine j_i2l C dX11_draws_13 ?_
  refine j_ldc2 C (1103515245 : Int64) kc_X11_468 dX11_draws_14 ?_
  refine j_lmul C dX11_draws_17 ?_
  refine j_ldc2 C (12345 : Int64) kc_X11_470 dX11_draws_18 ?_
  refine j_ladd C dX11_draws_21 ?_
  refine j_ldc2 C (2147483648 : Int64) kc_X11_472 dX11_draws_22 ?_
  refine j_lrem C (by decide) dX11_draws_25 ?_
  refine j_l2i C dX11_draws_26 ?_
  obtain ⟨D1, eD1, h⟩ := bnd_x h
  refine j_iastK C 9 7 dX11_draws_27 (V_f 1 (by decide) (by decide)) rfl (by decide) (by decide) ?_
  refine j_rep eD1 ?_
  refine j_aload_n C 0 dX11_draws_28 rfl rfl ?_
  refine j_getS C (11, 0, 2, 0) fl_X11_9 dX11_draws_29 (by decide) ⟨rfl, rfl⟩ rfl rfl ?_
  refine j_bipush C (7 : Int32) (by decide) dX11_draws_32 ?_
  refine j_ialdK C 9 7 dX11_draws_34 (V_f 1 (by decide) (by decide)) rfl (by decide) (by decide) ?_
  refine j_ldcw C (65536 : Int32) kc_X11_474 dX11_draws_35 ?_
  refine j_idiv C (by decide) dX11_draws_38 ?_
  refine j_iload_n C 1 dX11_draws_39 rfl rfl ?_
  obtain ⟨g2, h⟩ := grd_x h
  refine j_irem C g2 dX11_draws_40 ?_
  obtain ⟨rfl, rfl⟩ := pr_x h
  exact j_iret C dX11_draws_41
def F_X11_drawsSun (a1 : Int32) (D : Dt) : Option Dt := (cbd (F_X11_draws (100 : Int32) D) (fun r2 D3 => (if a1 ≤ r2 then (some D3) else (if (D3.1 (11, 0, 2, 0) 2) ≤ 0 then (some D3) else (cbd (F_X11_draws (D3.1 (11, 0, 2, 0) 2) D3) (fun r7 D8 => (grd (inB r7 5 = true) (cbd (F_X11_upTo ((D8.1 (11, 0, 4, 0) (r7.toNatClampNeg)) + (1 : Int32)) (99 : Int32) D8) (fun r11 D12 => (bnd (setI D12 (11, 0, 4, 0) (r7.toNatClampNeg) r11) (fun D13 => (some D13))))))))))))
set_option maxRecDepth 100000 in
set_option maxHeartbeats 4000000 in
theorem M_X11_drawsSun {l : Launch} {G : Gt} {A : Nat → Prop} {lv : Nat} {a1 : Int32} {D : Dt} {D' : Dt} (hG : Gok G A) (hlv : 2 ≤ lv)  (h : F_X11_drawsSun a1 D = some D') : MD l G A lv yX11_drawsSun cX11_drawsSun 3 none [.ref (ad G (11, 0, 0, 0)), .int a1] D none D' := by
  unfold F_X11_drawsSun at h
  refine md_start RX11 hG (by decide +kernel) rfl (Nat.le_of_ble_eq_true rfl) (L := [(0, .ref (ad G (11, 0, 0, 0))), (1, .int a1)]) rfl (fun X C => ?_)
  refine j_aload_n C 0 dX11_drawsSun_0 rfl rfl ?_
  refine j_bipush C (100 : Int32) (by decide) dX11_drawsSun_1 ?_
  obtain ⟨r2, D3, h1, h⟩ := cbd_x h
  refine j_callV C [.int (100 : Int32)] [] cl_X11_475 (M_X11_draws (lv := lv - 1) hG (by omega) h1) (by omega) dX11_drawsSun_3 (by decide) ⟨rfl, rfl⟩ rfl rfl (Nat.le_of_ble_eq_true rfl) ?_
  refine j_st (st' := [.int r2]) rfl ?_
  refine j_iload_n C 1 dX11_drawsSun_6 rfl rfl ?_
  refine j_icmp_ge C 49 dX11_drawsSun_7 (by decide) (fun c4 => ?_) (fun c4 => ?_)
  · have h := ite_t c4 h
    obtain rfl := Option.some.inj h
    exact j_vret C dX11_drawsSun_49
  · have h := ite_f c4 h
    refine j_aload_n C 0 dX11_drawsSun_10 rfl rfl ?_
    refine j_getS C (11, 0, 2, 0) fl_X11_9 dX11_drawsSun_11 (by decide) ⟨rfl, rfl⟩ rfl rfl ?_
    refine j_iconst C (2 : Int32) (by decide) dX11_drawsSun_14 ?_
    refine j_ialdK C 9 2 dX11_drawsSun_15 (V_f 1 (by decide) (by decide)) rfl (by decide) (by decide) ?_
    refine j_if_le C 49 dX11_drawsSun_16 (by decide) (fun c5 => ?_) (fun c5 => ?_)
    · have h := ite_t c5 h
      obtain rfl := Option.some.inj h
      exact j_vret C dX11_drawsSun_49
    · have h := ite_f c5 h
      refine j_aload_n C 0 dX11_drawsSun_19 rfl rfl ?_
      refine j_aload_n C 0 dX11_drawsSun_20 rfl rfl ?_
      refine j_getS C (11, 0, 2, 0) fl_X11_9 dX11_drawsSun_21 (by decide) ⟨rfl, rfl⟩ rfl rfl ?_
      refine j_iconst C (2 : Int32) (by decide) dX11_drawsSun_24 ?_
      refine j_ialdK C 9 2 dX11_drawsSun_25 (V_f 1 (by decide) (by decide)) rfl (by decide) (by decide) ?_
      obtain ⟨r7, D8, h6, h⟩ := cbd_x h
      refine j_callV C [.int (D3.1 (11, 0, 2, 0) 2)] [] cl_X11_475 (M_X11_draws (lv := lv - 1) hG (by omega) h6) (by omega) dX11_drawsSun_26 (by decide) ⟨rfl, rfl⟩ rfl rfl (Nat.le_of_ble_eq_true rfl) ?_
      refine j_st (st' := [.int r7]) rfl ?_
      refine j_istore_n C [(2, .int r7), (0, .ref (ad G (11, 0, 0, 0))), (1, .int a1)] dX11_drawsSun_29 rfl (Nat.le_of_ble_eq_true rfl) rfl rfl ?_
      refine j_aload_n C 1 dX11_drawsSun_30 rfl rfl ?_
      refine j_getS C (11, 0, 4, 0) fl_X11_16 dX11_drawsSun_31 (by decide) ⟨rfl, rfl⟩ rfl rfl ?_
      refine j_iload_n C 0 dX11_drawsSun_34 rfl rfl ?_
      refine j_aload_n C 1 dX11_drawsSun_35 rfl rfl ?_
      refine j_getS C (11, 0, 4, 0) fl_X11_16 dX11_drawsSun_36 (by decide) ⟨rfl, rfl⟩ rfl rfl ?_
      refine j_iload_n C 0 dX11_drawsSun_39 rfl rfl ?_
      obtain ⟨g9, h⟩ := grd_x h
      refine j_ialdK C 5 (r7.toNatClampNeg) dX11_drawsSun_40 (V_f 3 (by decide) (by decide)) rfl g9 rfl ?_
      refine j_iconst C (1 : Int32) (by decide) dX11_drawsSun_41 ?_
      refine j_iadd C dX11_drawsSun_42 ?_
      refine j_bipush C (99 : Int32) (by decide) dX11_drawsSun_43 ?_
      obtain ⟨r11, D12, h10, h⟩ := cbd_x h
      refine j_callS C [.int ((D8.1 (11, 0, 4, 0) (r7.toNatClampNeg)) + (1 : Int32)), .int (99 : Int32)] [.int r7, .ref (ad G (11, 0, 4, 0))] cl_X11_349 (M_X11_upTo (lv := lv - 1) hG (by omega) h10) (by omega) dX11_drawsSun_45 rfl rfl (Nat.le_of_ble_eq_true rfl) ?_
      refine j_st (st' := [.int r11, .int r7, .ref (ad G (11, 0, 4, 0))]) rfl ?_
      obtain ⟨D13, eD13, h⟩ := bnd_x h
      refine j_iastK C 5 (r7.toNatClampNeg) dX11_drawsSun_48 (V_f 3 (by decide) (by decide)) rfl g9 rfl ?_
      refine j_rep eD13 ?_
      obtain rfl := Option.some.inj h
      exact j_vret C dX11_drawsSun_49
def F_X11_summers_b100 (a1 : Int32) (a2 : Int32) (a3 : Int32) (a4 : Int32) (k126 : Int32 → Int32 → Int32 → Int32 → Int32 → Int32 → Int32 → Int32 → Dt → Option (Int32 × Dt)) : Nat → Int32 → Int32 → Int32 → Int32 → Int32 → Int32 → Int32 → Int32 → Int32 → Dt → Option (Int32 × Dt)
  | 0, _, _, _, _, _, _, _, _, _, _ => none
  | f + 1, l1, l2, l3, l4, l5, l7, l8, l9, l10, D => (if l2 ≤ l10 then (k126 l1 l2 l3 l4 l5 l7 l8 l9 D) else (vbd (F_X11_drawsSun l3 D) (fun D28 => (cbd (F_X11_goes  D28) (fun r30 D31 => (bnd (l8 + r30) (fun v32 => (bnd (l10 + (1 : Int32)) (fun v33 => (F_X11_summers_b100 a1 a2 a3 a4 k126 f l1 l2 l3 l4 l5 l7 v32 l9 v33 D31))))))))))
set_option maxRecDepth 100000 in
set_option maxHeartbeats 4000000 in
theorem T_X11_summers_b100 {r : Int32} {D' : Dt} {X : Ctx} {l : Launch} {G : Gt} {A : Nat → Prop} {lv : Nat} {a1 : Int32} {a2 : Int32} {a3 : Int32} {a4 : Int32}  {k126 : Int32 → Int32 → Int32 → Int32 → Int32 → Int32 → Int32 → Int32 → Dt → Option (Int32 × Dt)} (hG : Gok G A) (hlv : 9 ≤ lv)   (C : Cx X cX11_summers RX11 G l A lv 11 (some .int) (some (.int r)) D') (hk126 : ∀ (l1 : Int32) (l2 : Int32) (l3 : Int32) (l4 : Int32) (l5 : Int32) (l7 : Int32) (l8 : Int32) (l9 : Int32) (D : Dt), k126 l1 l2 l3 l4 l5 l7 l8 l9 D = some (r, D') → J X (Rep G D) 126 [(0, .ref (ad G (11, 0, 0, 0))), (1, .int l1), (2, .int l2), (3, .int l3), (4, .int l4), (5, .int l5), (7, .int l7), (8, .int l8), (9, .int l9)] []) : ∀ (f : Nat) (l1 : Int32) (l2 : Int32) (l3 : Int32) (l4 : Int32) (l5 : Int32) (l7 : Int32) (l8 : Int32) (l9 : Int32) (l10 : Int32) (D : Dt), F_X11_summers_b100 a1 a2 a3 a4 k126 f l1 l2 l3 l4 l5 l7 l8 l9 l10 D = some (r, D') → J X (Rep G D) 100 [(0, .ref (ad G (11, 0, 0, 0))), (1, .int l1), (2, .int l2), (3, .int l3), (4, .int l4), (5, .int l5), (7, .int l7), (8, .int l8), (9, .int l9), (10, .int l10)] [] := by
  intro f
  induction f with
  | zero =>
    intro l1 l2 l3 l4 l5 l7 l8 l9 l10 D h
    exact nomatch h
  | succ f ih =>
    intro l1 l2 l3 l4 l5 l7 l8 l9 l10 D h
    rw [F_X11_summers_b100] at h
    refine j_iload C 9 dX11_summers_100 rfl ?_
    refine j_iload_n C 2 dX11_summers_102 rfl rfl ?_
    refine j_icmp_ge C 126 dX11_summers_103 (by decide) (fun c26 => ?_) (fun c26 => ?_)
    · have h := ite_t c26 h
      refine j_sub [0, 1, 2, 3, 4, 5, 6, 7, 8] [(0, .ref (ad G (11, 0, 0, 0))), (1, .int l1), (2, .int l2), (3, .int l3), (4, .int l4), (5, .int l5), (7, .int l7), (8, .int l8), (9, .int l9)] rfl ?_
      exact hk126 l1 l2 l3 l4 l5 l7 l8 l9 D h
    · have h := ite_f c26 h
      refine j_aload_n C 0 dX11_summers_106 rfl rfl ?_
      refine j_iload_n C 3 dX11_summers_107 rfl rfl ?_
      obtain ⟨D28, h27, h⟩ := vbd_x h
      refine j_callV C [.int l3] [] cl_X11_480 (M_X11_drawsSun (lv := lv - 1) hG (by omega) h27) (by omega) dX11_summers_108 (by decide) ⟨rfl, rfl⟩ rfl rfl (Nat.le_of_ble_eq_true rfl) ?_
      refine j_st (st' := []) rfl ?_
      refine j_iload C 7 dX11_summers_111 rfl ?_
      refine j_aload_n C 0 dX11_summers_113 rfl rfl ?_
      obtain ⟨r30, D31, h29, h⟩ := cbd_x h
      refine j_callV C [] [.int l8] cl_X11_385 (M_X11_goes (lv := lv - 1) hG (by omega) h29) (by omega) dX11_summers_114 (by decide) ⟨rfl, rfl⟩ rfl rfl (Nat.le_of_ble_eq_true rfl) ?_
      refine j_st (st' := [.int r30, .int l8]) rfl ?_
      refine j_iadd C dX11_summers_117 ?_
      obtain ⟨v32, ev32, h⟩ := bnd_x h
      refine j_istore C [(8, .int v32), (0, .ref (ad G (11, 0, 0, 0))), (1, .int l1), (2, .int l2), (3, .int l3), (4, .int l4), (5, .int l5), (7, .int l7), (9, .int l9), (10, .int l10)] dX11_summers_118 (Nat.le_of_ble_eq_true rfl) ev32 rfl ?_
      obtain ⟨v33, ev33, h⟩ := bnd_x h
      refine j_iinc C 9 [(10, .int v33), (8, .int v32), (0, .ref (ad G (11, 0, 0, 0))), (1, .int l1), (2, .int l2), (3, .int l3), (4, .int l4), (5, .int l5), (7, .int l7), (9, .int l9)] dX11_summers_120 rfl (Nat.le_of_ble_eq_true rfl) (ev33.trans (congrArg (l10 + ·) (by decide))) rfl ?_
      refine j_goto C 100 dX11_summers_123 (by decide) ?_
      refine j_sub [2, 3, 4, 5, 6, 7, 8, 1, 9, 0] [(0, .ref (ad G (11, 0, 0, 0))), (1, .int l1), (2, .int l2), (3, .int l3), (4, .int l4), (5, .int l5), (7, .int l7), (8, .int v32), (9, .int l9), (10, .int v33)] rfl ?_
      exact ih l1 l2 l3 l4 l5 l7 v32 l9 v33 D31 h
def F_X11_summers_b82 (a1 : Int32) (a2 : Int32) (a3 : Int32) (a4 : Int32) (k158 : Int32 → Int32 → Int32 → Int32 → Dt → Option (Int32 × Dt)) : Nat → Int32 → Int32 → Int32 → Int32 → Int32 → Int32 → Int32 → Int32 → Int32 → Dt → Option (Int32 × Dt)
  | 0, _, _, _, _, _, _, _, _, _, _ => none
  | f + 1, l1, l2, l3, l4, l5, l6, l7, l8, l9, D => (if l1 ≤ l9 then (k158 l4 l5 l7 l8 D) else (bnd (setI D (11, 0, 2, 0) 7 l6) (fun D25 => (F_X11_summers_b100 a1 a2 a3 a4 (fun l1_34 l2_35 l3_36 l4_37 l5_38 l7_39 l8_40 l9_41 D42 => (cbd (F_X11_allOf (11, 0, 6, 0) D42) (fun r44 D45 => (bnd (l7_39 + r44) (fun v46 => (bnd (D45.1 (11, 0, 2, 0) 7) (fun v47 => (vbd (F_X11_laysBack  D45) (fun D49 => (bnd (l9_41 + (1 : Int32)) (fun v50 => (F_X11_summers_b82 a1 a2 a3 a4 k158 f l1_34 l2_35 l3_36 l4_37 l5_38 v47 v46 l8_40 v50 D49)))))))))))) 2000 l1 l2 l3 l4 l5 l7 l8 l9 (0 : Int32) D25))))
set_option maxRecDepth 100000 in
set_option maxHeartbeats 4000000 in
theorem T_X11_summers_b82 {r : Int32} {D' : Dt} {X : Ctx} {l : Launch} {G : Gt} {A : Nat → Prop} {lv : Nat} {a1 : Int32} {a2 : Int32} {a3 : Int32} {a4 : Int32}  {k158 : Int32 → Int32 → Int32 → Int32 → Dt → Option (Int32 × Dt)} (hG : Gok G A) (hlv : 9 ≤ lv)   (C : Cx X cX11_summers RX11 G l A lv 11 (some .int) (some (.int r)) D') (hk158 : ∀ (l4 : Int32) (l5 : Int32) (l7 : Int32) (l8 : Int32) (D : Dt), k158 l4 l5 l7 l8 D = some (r, D') → J X (Rep G D) 158 [(0, .ref (ad G (11, 0, 0, 0))), (4, .int l4), (5, .int l5), (7, .int l7), (8, .int l8)] []) : ∀ (f : Nat) (l1 : Int32) (l2 : Int32) (l3 : Int32) (l4 : Int32) (l5 : Int32) (l6 : Int32) (l7 : Int32) (l8 : Int32) (l9 : Int32) (D : Dt), F_X11_summers_b82 a1 a2 a3 a4 k158 f l1 l2 l3 l4 l5 l6 l7 l8 l9 D = some (r, D') → J X (Rep G D) 82 [(0, .ref (ad G (11, 0, 0, 0))), (1, .int l1), (2, .int l2), (3, .int l3), (4, .int l4), (5, .int l5), (6, .int l6), (7, .int l7), (8, .int l8), (9, .int l9)] [] := by
  intro f
  induction f with
  | zero =>
    intro l1 l2 l3 l4 l5 l6 l7 l8 l9 D h
    exact nomatch h
  | succ f ih =>
    intro l1 l2 l3 l4 l5 l6 l7 l8 l9 D h
    rw [F_X11_summers_b82] at h
    refine j_iload C 9 dX11_summers_82 rfl ?_
    refine j_iload_n C 1 dX11_summers_84 rfl rfl ?_
    refine j_icmp_ge C 158 dX11_summers_85 (by decide) (fun c24 => ?_) (fun c24 => ?_)
    · have h := ite_t c24 h
      refine j_sub [0, 4, 5, 7, 8] [(0, .ref (ad G (11, 0, 0, 0))), (4, .int l4), (5, .int l5), (7, .int l7), (8, .int l8)] rfl ?_
      exact hk158 l4 l5 l7 l8 D h
    · have h := ite_f c24 h
      refine j_aload_n C 0 dX11_summers_88 rfl rfl ?_
      refine j_getS C (11, 0, 2, 0) fl_X11_9 dX11_summers_89 (by decide) ⟨rfl, rfl⟩ rfl rfl ?_
      refine j_bipush C (7 : Int32) (by decide) dX11_summers_92 ?_
      refine j_iload C 6 dX11_summers_94 rfl ?_
      obtain ⟨D25, eD25, h⟩ := bnd_x h
      refine j_iastK C 9 7 dX11_summers_96 (V_f 1 (by decide) (by decide)) rfl (by decide) (by decide) ?_
      refine j_rep eD25 ?_
      refine j_iconst C (0 : Int32) (by decide) dX11_summers_97 ?_
      refine j_istore C [(10, .int (0 : Int32)), (0, .ref (ad G (11, 0, 0, 0))), (1, .int l1), (2, .int l2), (3, .int l3), (4, .int l4), (5, .int l5), (6, .int l6), (7, .int l7), (8, .int l8), (9, .int l9)] dX11_summers_98 (Nat.le_of_ble_eq_true rfl) rfl rfl ?_
      refine j_sub [1, 2, 3, 4, 5, 6, 8, 9, 10, 0] [(0, .ref (ad G (11, 0, 0, 0))), (1, .int l1), (2, .int l2), (3, .int l3), (4, .int l4), (5, .int l5), (7, .int l7), (8, .int l8), (9, .int l9), (10, .int (0 : Int32))] rfl ?_
      refine T_X11_summers_b100 hG hlv  C (fun l1_34 l2_35 l3_36 l4_37 l5_38 l7_39 l8_40 l9_41 D42 h => ?_) 2000 l1 l2 l3 l4 l5 l7 l8 l9 (0 : Int32) D25 h
      · refine j_iload C 6 dX11_summers_126 rfl ?_
        refine j_aload_n C 0 dX11_summers_128 rfl rfl ?_
        refine j_aload_n C 0 dX11_summers_129 rfl rfl ?_
        refine j_getS C (11, 0, 6, 0) fl_X11_22 dX11_summers_130 (by decide) ⟨rfl, rfl⟩ rfl rfl ?_
        obtain ⟨r44, D45, h43, h⟩ := cbd_x h
        refine j_callV C [.ref (ad G (11, 0, 6, 0))] [.int l7_39] cl_X11_421 (M_X11_allOf (lv := lv - 1) hG (by omega) h43) (by omega) dX11_summers_133 (by decide) ⟨rfl, rfl⟩ rfl rfl (Nat.le_of_ble_eq_true rfl) ?_
        refine j_st (st' := [.int r44, .int l7_39]) rfl ?_
        refine j_iadd C dX11_summers_136 ?_
        obtain ⟨v46, ev46, h⟩ := bnd_x h
        refine j_istore C [(7, .int v46), (0, .ref (ad G (11, 0, 0, 0))), (1, .int l1_34), (2, .int l2_35), (3, .int l3_36), (4, .int l4_37), (5, .int l5_38), (8, .int l8_40), (9, .int l9_41)] dX11_summers_137 (Nat.le_of_ble_eq_true rfl) ev46 rfl ?_
        refine j_aload_n C 1 dX11_summers_139 rfl rfl ?_
        refine j_getS C (11, 0, 2, 0) fl_X11_9 dX11_summers_140 (by decide) ⟨rfl, rfl⟩ rfl rfl ?_
        refine j_bipush C (7 : Int32) (by decide) dX11_summers_143 ?_
        refine j_ialdK C 9 7 dX11_summers_145 (V_f 1 (by decide) (by decide)) rfl (by decide) (by decide) ?_
        obtain ⟨v47, ev47, h⟩ := bnd_x h
        refine j_istore C [(6, .int v47), (7, .int v46), (0, .ref (ad G (11, 0, 0, 0))), (1, .int l1_34), (2, .int l2_35), (3, .int l3_36), (4, .int l4_37), (5, .int l5_38), (8, .int l8_40), (9, .int l9_41)] dX11_summers_146 (Nat.le_of_ble_eq_true rfl) ev47 rfl ?_
        refine j_aload_n C 2 dX11_summers_148 rfl rfl ?_
        obtain ⟨D49, h48, h⟩ := vbd_x h
        refine j_callV C [] [] cl_X11_425 (M_X11_laysBack (lv := lv - 1) hG (by omega) h48) (by omega) dX11_summers_149 (by decide) ⟨rfl, rfl⟩ rfl rfl (Nat.le_of_ble_eq_true rfl) ?_
        refine j_st (st' := []) rfl ?_
        obtain ⟨v50, ev50, h⟩ := bnd_x h
        refine j_iinc C 9 [(9, .int v50), (6, .int v47), (7, .int v46), (0, .ref (ad G (11, 0, 0, 0))), (1, .int l1_34), (2, .int l2_35), (3, .int l3_36), (4, .int l4_37), (5, .int l5_38), (8, .int l8_40)] dX11_summers_152 rfl (Nat.le_of_ble_eq_true rfl) (ev50.trans (congrArg (l9_41 + ·) (by decide))) rfl ?_
        refine j_goto C 82 dX11_summers_155 (by decide) ?_
        refine j_sub [3, 4, 5, 6, 7, 8, 1, 2, 9, 0] [(0, .ref (ad G (11, 0, 0, 0))), (1, .int l1_34), (2, .int l2_35), (3, .int l3_36), (4, .int l4_37), (5, .int l5_38), (6, .int v47), (7, .int v46), (8, .int l8_40), (9, .int v50)] rfl ?_
        exact ih l1_34 l2_35 l3_36 l4_37 l5_38 v47 v46 l8_40 v50 D49 h
def F_X11_summers (a1 : Int32) (a2 : Int32) (a3 : Int32) (a4 : Int32) (D : Dt) : Option (Int32 × Dt) := (cbd (F_X11_isTable  D) (fun r2 D3 => (if r2 = 0 then (some ((-1 : Int32), D3)) else (cbd (F_X11_in a1.toInt64 (1 : Int64) (10 : Int64) D3) (fun r6 D7 => (if r6 = 0 then (some ((-1 : Int32), D7)) else (cbd (F_X11_in a2.toInt64 (1 : Int64) (60 : Int64) D7) (fun r10 D11 => (if r10 = 0 then (some ((-1 : Int32), D11)) else (cbd (F_X11_in a3.toInt64 (0 : Int64) (100 : Int64) D11) (fun r14 D15 => (if r14 = 0 then (some ((-1 : Int32), D15)) else (cbd (F_X11_in a4.toInt64 (0 : Int64) (1 : Int64) D15) (fun r18 D19 => (if r18 = 0 then (some ((-1 : Int32), D19)) else (bnd (D19.1 (11, 0, 2, 0) 7) (fun v21 => (vbd (F_X11_keepsAll  D19) (fun D23 => (F_X11_summers_b82 a1 a2 a3 a4 (fun l4_51 l5_52 l7_53 l8_54 D55 => (bnd (setI D55 (11, 0, 2, 0) 7 l5_52) (fun D56 => (if l4_51 = 0 then (some (l7_53, D56)) else (some (l8_54, D56)))))) 2000 a1 a2 a3 a4 v21 v21 (0 : Int32) (0 : Int32) (0 : Int32) D23))))))))))))))))))))
set_option maxRecDepth 100000 in
set_option maxHeartbeats 4000000 in
theorem M_X11_summers {l : Launch} {G : Gt} {A : Nat → Prop} {lv : Nat} {a1 : Int32} {a2 : Int32} {a3 : Int32} {a4 : Int32} {D : Dt} {r : Int32} {D' : Dt} (hG : Gok G A) (hlv : 9 ≤ lv)  (h : F_X11_summers a1 a2 a3 a4 D = some (r, D')) : MD l G A lv yX11_summers cX11_summers 11 (some .int) [.ref (ad G (11, 0, 0, 0)), .int a1, .int a2, .int a3, .int a4] D (some (.int r)) D' := by
  unfold F_X11_summers at h
  refine md_start RX11 hG (by decide +kernel) rfl (Nat.le_of_ble_eq_true rfl) (L := [(0, .ref (ad G (11, 0, 0, 0))), (1, .int a1), (2, .int a2), (3, .int a3), (4, .int a4)]) rfl (fun X C => ?_)
  refine j_aload_n C 0 dX11_summers_0 rfl rfl ?_
  obtain ⟨r2, D3, h1, h⟩ := cbd_x h
  refine j_callV C [] [] cl_X11_405 (M_X11_isTable (lv := lv - 1) hG (by omega) h1) (by omega) dX11_summers_1 (by decide) ⟨rfl, rfl⟩ rfl rfl (Nat.le_of_ble_eq_true rfl) ?_
  refine j_st (st' := [.int r2]) rfl ?_
  refine j_if_eq C 54 dX11_summers_4 (by decide) (fun c4 => ?_) (fun c4 => ?_)
  · have h := ite_t c4 h
    refine j_iconst C (-1 : Int32) (by decide) dX11_summers_54 ?_
    obtain ⟨rfl, rfl⟩ := pr_x h
    exact j_iret C dX11_summers_55
  · have h := ite_f c4 h
    refine j_iload_n C 1 dX11_summers_7 rfl rfl ?_
    refine j_i2l C dX11_summers_8 ?_
    refine j_lconst C (1 : Int64) (by decide) dX11_summers_9 ?_
    refine j_ldc2 C (10 : Int64) kc_X11_478 dX11_summers_10 ?_
    obtain ⟨r6, D7, h5, h⟩ := cbd_x h
    refine j_callS C [.long a1.toInt64, .long (1 : Int64), .long (10 : Int64)] [] cl_X11_134 (M_X11_in (lv := lv - 1) hG (by omega) h5) (by omega) dX11_summers_13 rfl rfl (Nat.le_of_ble_eq_true rfl) ?_
    refine j_st (st' := [.int r6]) rfl ?_
    refine j_if_eq C 54 dX11_summers_16 (by decide) (fun c8 => ?_) (fun c8 => ?_)
    · have h := ite_t c8 h
      refine j_iconst C (-1 : Int32) (by decide) dX11_summers_54 ?_
      obtain ⟨rfl, rfl⟩ := pr_x h
      exact j_iret C dX11_summers_55
    · have h := ite_f c8 h
      refine j_iload_n C 2 dX11_summers_19 rfl rfl ?_
      refine j_i2l C dX11_summers_20 ?_
      refine j_lconst C (1 : Int64) (by decide) dX11_summers_21 ?_
      refine j_ldc2 C (60 : Int64) kc_X11_347 dX11_summers_22 ?_
      obtain ⟨r10, D11, h9, h⟩ := cbd_x h
      refine j_callS C [.long a2.toInt64, .long (1 : Int64), .long (60 : Int64)] [] cl_X11_134 (M_X11_in (lv := lv - 1) hG (by omega) h9) (by omega) dX11_summers_25 rfl rfl (Nat.le_of_ble_eq_true rfl) ?_
      refine j_st (st' := [.int r10]) rfl ?_
      refine j_if_eq C 54 dX11_summers_28 (by decide) (fun c12 => ?_) (fun c12 => ?_)
      · have h := ite_t c12 h
        refine j_iconst C (-1 : Int32) (by decide) dX11_summers_54 ?_
        obtain ⟨rfl, rfl⟩ := pr_x h
        exact j_iret C dX11_summers_55
      · have h := ite_f c12 h
        refine j_iload_n C 3 dX11_summers_31 rfl rfl ?_
        refine j_i2l C dX11_summers_32 ?_
        refine j_lconst C (0 : Int64) (by decide) dX11_summers_33 ?_
        refine j_ldc2 C (100 : Int64) kc_X11_428 dX11_summers_34 ?_
        obtain ⟨r14, D15, h13, h⟩ := cbd_x h
        refine j_callS C [.long a3.toInt64, .long (0 : Int64), .long (100 : Int64)] [] cl_X11_134 (M_X11_in (lv := lv - 1) hG (by omega) h13) (by omega) dX11_summers_37 rfl rfl (Nat.le_of_ble_eq_true rfl) ?_
        refine j_st (st' := [.int r14]) rfl ?_
        refine j_if_eq C 54 dX11_summers_40 (by decide) (fun c16 => ?_) (fun c16 => ?_)
        · have h := ite_t c16 h
          refine j_iconst C (-1 : Int32) (by decide) dX11_summers_54 ?_
          obtain ⟨rfl, rfl⟩ := pr_x h
          exact j_iret C dX11_summers_55
        · have h := ite_f c16 h
          refine j_iload C 4 dX11_summers_43 rfl ?_
          refine j_i2l C dX11_summers_45 ?_
          refine j_lconst C (0 : Int64) (by decide) dX11_summers_46 ?_
          refine j_lconst C (1 : Int64) (by decide) dX11_summers_47 ?_
          obtain ⟨r18, D19, h17, h⟩ := cbd_x h
          refine j_callS C [.long a4.toInt64, .long (0 : Int64), .long (1 : Int64)] [] cl_X11_134 (M_X11_in (lv := lv - 1) hG (by omega) h17) (by omega) dX11_summers_48 rfl rfl (Nat.le_of_ble_eq_true rfl) ?_
          refine j_st (st' := [.int r18]) rfl ?_
          refine j_if_ne C 56 dX11_summers_51 (by decide) (fun c20 => ?_) (fun c20 => ?_)
          · have h := ite_f c20 h
            refine j_aload_n C 0 dX11_summers_56 rfl rfl ?_
            refine j_getS C (11, 0, 2, 0) fl_X11_9 dX11_summers_57 (by decide) ⟨rfl, rfl⟩ rfl rfl ?_
            refine j_bipush C (7 : Int32) (by decide) dX11_summers_60 ?_
            refine j_ialdK C 9 7 dX11_summers_62 (V_f 1 (by decide) (by decide)) rfl (by decide) (by decide) ?_
            obtain ⟨v21, ev21, h⟩ := bnd_x h
            refine j_istore C [(5, .int v21), (0, .ref (ad G (11, 0, 0, 0))), (1, .int a1), (2, .int a2), (3, .int a3), (4, .int a4)] dX11_summers_63 (Nat.le_of_ble_eq_true rfl) ev21 rfl ?_
            refine j_iload C 0 dX11_summers_65 rfl ?_
            refine j_istore C [(6, .int v21), (5, .int v21), (0, .ref (ad G (11, 0, 0, 0))), (1, .int a1), (2, .int a2), (3, .int a3), (4, .int a4)] dX11_summers_67 (Nat.le_of_ble_eq_true rfl) rfl rfl ?_
            refine j_iconst C (0 : Int32) (by decide) dX11_summers_69 ?_
            refine j_istore C [(7, .int (0 : Int32)), (6, .int v21), (5, .int v21), (0, .ref (ad G (11, 0, 0, 0))), (1, .int a1), (2, .int a2), (3, .int a3), (4, .int a4)] dX11_summers_70 (Nat.le_of_ble_eq_true rfl) rfl rfl ?_
            refine j_iconst C (0 : Int32) (by decide) dX11_summers_72 ?_
            refine j_istore C [(8, .int (0 : Int32)), (7, .int (0 : Int32)), (6, .int v21), (5, .int v21), (0, .ref (ad G (11, 0, 0, 0))), (1, .int a1), (2, .int a2), (3, .int a3), (4, .int a4)] dX11_summers_73 (Nat.le_of_ble_eq_true rfl) rfl rfl ?_
            refine j_aload_n C 4 dX11_summers_75 rfl rfl ?_
            obtain ⟨D23, h22, h⟩ := vbd_x h
            refine j_callV C [] [] cl_X11_432 (M_X11_keepsAll (lv := lv - 1) hG (by omega) h22) (by omega) dX11_summers_76 (by decide) ⟨rfl, rfl⟩ rfl rfl (Nat.le_of_ble_eq_true rfl) ?_
            refine j_st (st' := []) rfl ?_
            refine j_iconst C (0 : Int32) (by decide) dX11_summers_79 ?_
            refine j_istore C [(9, .int (0 : Int32)), (8, .int (0 : Int32)), (7, .int (0 : Int32)), (6, .int v21), (5, .int v21), (0, .ref (ad G (11, 0, 0, 0))), (1, .int a1), (2, .int a2), (3, .int a3), (4, .int a4)] dX11_summers_80 (Nat.le_of_ble_eq_true rfl) rfl rfl ?_
            refine j_sub [5, 6, 7, 8, 9, 4, 3, 2, 1, 0] [(0, .ref (ad G (11, 0, 0, 0))), (1, .int a1), (2, .int a2), (3, .int a3), (4, .int a4), (5, .int v21), (6, .int v21), (7, .int (0 : Int32)), (8, .int (0 : Int32)), (9, .int (0 : Int32))] rfl ?_
            refine T_X11_summers_b82 hG hlv  C (fun l4_51 l5_52 l7_53 l8_54 D55 h => ?_) 2000 a1 a2 a3 a4 v21 v21 (0 : Int32) (0 : Int32) (0 : Int32) D23 h
            · refine j_aload_n C 0 dX11_summers_158 rfl rfl ?_
              refine j_getS C (11, 0, 2, 0) fl_X11_9 dX11_summers_159 (by decide) ⟨rfl, rfl⟩ rfl rfl ?_
              refine j_bipush C (7 : Int32) (by decide) dX11_summers_162 ?_
              refine j_iload C 2 dX11_summers_164 rfl ?_
              obtain ⟨D56, eD56, h⟩ := bnd_x h
              refine j_iastK C 9 7 dX11_summers_166 (V_f 1 (by decide) (by decide)) rfl (by decide) (by decide) ?_
              refine j_rep eD56 ?_
              refine j_iload C 1 dX11_summers_167 rfl ?_
              refine j_if_ne C 177 dX11_summers_169 (by decide) (fun c57 => ?_) (fun c57 => ?_)
              · have h := ite_f c57 h
                refine j_iload C 4 dX11_summers_177 rfl ?_
                obtain ⟨rfl, rfl⟩ := pr_x h
                exact j_iret C dX11_summers_179
              · have h := ite_t c57 h
                refine j_iload C 3 dX11_summers_172 rfl ?_
                refine j_goto C 179 dX11_summers_174 (by decide) ?_
                obtain ⟨rfl, rfl⟩ := pr_x h
                exact j_iret C dX11_summers_179
          · have h := ite_t c20 h
            refine j_iconst C (-1 : Int32) (by decide) dX11_summers_54 ?_
            obtain ⟨rfl, rfl⟩ := pr_x h
            exact j_iret C dX11_summers_55
def F_X11_count (a1 : Int32) (D : Dt) : Option (Int32 × Dt) := (if a1 = (0 : Int32) then (some ((D.1 (11, 0, 2, 0) 3), D)) else if a1 = (1 : Int32) then (some ((D.1 (11, 0, 2, 0) 1), D)) else if a1 = (2 : Int32) then (some ((D.1 (11, 0, 2, 0) 2), D)) else if a1 = (3 : Int32) then (some ((D.1 (11, 0, 0, 0) 23), D)) else if a1 = (4 : Int32) then (some ((D.1 (11, 0, 2, 0) 8), D)) else if a1 = (5 : Int32) then (some ((D.1 (11, 0, 2, 0) 4), D)) else if a1 = (6 : Int32) then (cbd (F_X11_allOf (11, 0, 3, 0) D) (fun r9 D10 => (some (r9, D10)))) else if a1 = (7 : Int32) then (cbd (F_X11_allOf (11, 0, 4, 0) D) (fun r13 D14 => (some (r13, D14)))) else if a1 = (8 : Int32) then (cbd (F_X11_allOf (11, 0, 5, 0) D) (fun r17 D18 => (some (r17, D18)))) else if a1 = (9 : Int32) then (cbd (F_X11_allOf (11, 0, 6, 0) D) (fun r21 D22 => (some (r21, D22)))) else if a1 = (10 : Int32) then (some ((D.1 (11, 0, 2, 0) 5), D)) else if a1 = (11 : Int32) then (some ((D.1 (11, 0, 2, 0) 6), D)) else if a1 = (12 : Int32) then (some ((D.1 (11, 0, 0, 0) 46), D)) else if a1 = (13 : Int32) then (some ((D.1 (11, 0, 2, 0) 7), D)) else if a1 = (14 : Int32) then (some ((D.1 (11, 0, 0, 0) 19), D)) else (some ((-1 : Int32), D)))
set_option maxRecDepth 100000 in
set_option maxHeartbeats 4000000 in
theorem M_X11_count {l : Launch} {G : Gt} {A : Nat → Prop} {lv : Nat} {a1 : Int32} {D : Dt} {r : Int32} {D' : Dt} (hG : Gok G A) (hlv : 2 ≤ lv)  (h : F_X11_count a1 D = some (r, D')) : MD l G A lv yX11_count cX11_count 2 (some .int) [.ref (ad G (11, 0, 0, 0)), .int a1] D (some (.int r)) D' := by
  unfold F_X11_count at h
  refine md_start RX11 hG (by decide +kernel) rfl (Nat.le_of_ble_eq_true rfl) (L := [(0, .ref (ad G (11, 0, 0, 0))), (1, .int a1)]) rfl (fun X C => ?_)
  refine j_iload_n C 1 dX11_count_0 rfl rfl ?_
  by_cases c1 : a1 = (0 : Int32)
  · have h := ite_t c1 h
    refine j_tabIn C (off := 75) (0 : Int32) 76 dX11_count_1 c1 ⟨by decide, by decide⟩ (by decide +kernel) (by decide) ?_
    refine j_aload_n C 0 dX11_count_76 rfl rfl ?_
    refine j_getS C (11, 0, 2, 0) fl_X11_9 dX11_count_77 (by decide) ⟨rfl, rfl⟩ rfl rfl ?_
    refine j_iconst C (3 : Int32) (by decide) dX11_count_80 ?_
    refine j_ialdK C 9 3 dX11_count_81 (V_f 1 (by decide) (by decide)) rfl (by decide) (by decide) ?_
    obtain ⟨rfl, rfl⟩ := pr_x h
    exact j_iret C dX11_count_82
  have h := ite_f c1 h
  by_cases c2 : a1 = (1 : Int32)
  · have h := ite_t c2 h
    refine j_tabIn C (off := 82) (1 : Int32) 83 dX11_count_1 c2 ⟨by decide, by decide⟩ (by decide +kernel) (by decide) ?_
    refine j_aload_n C 0 dX11_count_83 rfl rfl ?_
    refine j_getS C (11, 0, 2, 0) fl_X11_9 dX11_count_84 (by decide) ⟨rfl, rfl⟩ rfl rfl ?_
    refine j_iconst C (1 : Int32) (by decide) dX11_count_87 ?_
    refine j_ialdK C 9 1 dX11_count_88 (V_f 1 (by decide) (by decide)) rfl (by decide) (by decide) ?_
    obtain ⟨rfl, rfl⟩ := pr_x h
    exact j_iret C dX11_count_89
  have h := ite_f c2 h
  by_cases c3 : a1 = (2 : Int32)
  · have h := ite_t c3 h
    refine j_tabIn C (off := 89) (2 : Int32) 90 dX11_count_1 c3 ⟨by decide, by decide⟩ (by decide +kernel) (by decide) ?_
    refine j_aload_n C 0 dX11_count_90 rfl rfl ?_
    refine j_getS C (11, 0, 2, 0) fl_X11_9 dX11_count_91 (by decide) ⟨rfl, rfl⟩ rfl rfl ?_
    refine j_iconst C (2 : Int32) (by decide) dX11_count_94 ?_
    refine j_ialdK C 9 2 dX11_count_95 (V_f 1 (by decide) (by decide)) rfl (by decide) (by decide) ?_
    obtain ⟨rfl, rfl⟩ := pr_x h
    exact j_iret C dX11_count_96
  have h := ite_f c3 h
  by_cases c4 : a1 = (3 : Int32)
  · have h := ite_t c4 h
    refine j_tabIn C (off := 96) (3 : Int32) 97 dX11_count_1 c4 ⟨by decide, by decide⟩ (by decide +kernel) (by decide) ?_
    refine j_aload_n C 0 dX11_count_97 rfl rfl ?_
    refine j_getI C fl_X11_311 dX11_count_98 (by decide) ⟨rfl, rfl⟩ rfl ?_
    obtain ⟨rfl, rfl⟩ := pr_x h
    exact j_iret C dX11_count_101
  have h := ite_f c4 h
  by_cases c5 : a1 = (4 : Int32)
  · have h := ite_t c5 h
    refine j_tabIn C (off := 101) (4 : Int32) 102 dX11_count_1 c5 ⟨by decide, by decide⟩ (by decide +kernel) (by decide) ?_
    refine j_aload_n C 0 dX11_count_102 rfl rfl ?_
    refine j_getS C (11, 0, 2, 0) fl_X11_9 dX11_count_103 (by decide) ⟨rfl, rfl⟩ rfl rfl ?_
    refine j_bipush C (8 : Int32) (by decide) dX11_count_106 ?_
    refine j_ialdK C 9 8 dX11_count_108 (V_f 1 (by decide) (by decide)) rfl (by decide) (by decide) ?_
    obtain ⟨rfl, rfl⟩ := pr_x h
    exact j_iret C dX11_count_109
  have h := ite_f c5 h
  by_cases c6 : a1 = (5 : Int32)
  · have h := ite_t c6 h
    refine j_tabIn C (off := 109) (5 : Int32) 110 dX11_count_1 c6 ⟨by decide, by decide⟩ (by decide +kernel) (by decide) ?_
    refine j_aload_n C 0 dX11_count_110 rfl rfl ?_
    refine j_getS C (11, 0, 2, 0) fl_X11_9 dX11_count_111 (by decide) ⟨rfl, rfl⟩ rfl rfl ?_
    refine j_iconst C (4 : Int32) (by decide) dX11_count_114 ?_
    refine j_ialdK C 9 4 dX11_count_115 (V_f 1 (by decide) (by decide)) rfl (by decide) (by decide) ?_
    obtain ⟨rfl, rfl⟩ := pr_x h
    exact j_iret C dX11_count_116
  have h := ite_f c6 h
  by_cases c7 : a1 = (6 : Int32)
  · have h := ite_t c7 h
    refine j_tabIn C (off := 116) (6 : Int32) 117 dX11_count_1 c7 ⟨by decide, by decide⟩ (by decide +kernel) (by decide) ?_
    refine j_aload_n C 0 dX11_count_117 rfl rfl ?_
    refine j_aload_n C 0 dX11_count_118 rfl rfl ?_
    refine j_getS C (11, 0, 3, 0) fl_X11_13 dX11_count_119 (by decide) ⟨rfl, rfl⟩ rfl rfl ?_
    obtain ⟨r9, D10, h8, h⟩ := cbd_x h
    refine j_callV C [.ref (ad G (11, 0, 3, 0))] [] cl_X11_421 (M_X11_allOf (lv := lv - 1) hG (by omega) h8) (by omega) dX11_count_122 (by decide) ⟨rfl, rfl⟩ rfl rfl (Nat.le_of_ble_eq_true rfl) ?_
    refine j_st (st' := [.int r9]) rfl ?_
    obtain ⟨rfl, rfl⟩ := pr_x h
    exact j_iret C dX11_count_125
  have h := ite_f c7 h
  by_cases c11 : a1 = (7 : Int32)
  · have h := ite_t c11 h
    refine j_tabIn C (off := 125) (7 : Int32) 126 dX11_count_1 c11 ⟨by decide, by decide⟩ (by decide +kernel) (by decide) ?_
    refine j_aload_n C 0 dX11_count_126 rfl rfl ?_
    refine j_aload_n C 0 dX11_count_127 rfl rfl ?_
    refine j_getS C (11, 0, 4, 0) fl_X11_16 dX11_count_128 (by decide) ⟨rfl, rfl⟩ rfl rfl ?_
    obtain ⟨r13, D14, h12, h⟩ := cbd_x h
    refine j_callV C [.ref (ad G (11, 0, 4, 0))] [] cl_X11_421 (M_X11_allOf (lv := lv - 1) hG (by omega) h12) (by omega) dX11_count_131 (by decide) ⟨rfl, rfl⟩ rfl rfl (Nat.le_of_ble_eq_true rfl) ?_
    refine j_st (st' := [.int r13]) rfl ?_
    obtain ⟨rfl, rfl⟩ := pr_x h
    exact j_iret C dX11_count_134
  have h := ite_f c11 h
  by_cases c15 : a1 = (8 : Int32)
  · have h := ite_t c15 h
    refine j_tabIn C (off := 134) (8 : Int32) 135 dX11_count_1 c15 ⟨by decide, by decide⟩ (by decide +kernel) (by decide) ?_
    refine j_aload_n C 0 dX11_count_135 rfl rfl ?_
    refine j_aload_n C 0 dX11_count_136 rfl rfl ?_
    refine j_getS C (11, 0, 5, 0) fl_X11_19 dX11_count_137 (by decide) ⟨rfl, rfl⟩ rfl rfl ?_
    obtain ⟨r17, D18, h16, h⟩ := cbd_x h
    refine j_callV C [.ref (ad G (11, 0, 5, 0))] [] cl_X11_421 (M_X11_allOf (lv := lv - 1) hG (by omega) h16) (by omega) dX11_count_140 (by decide) ⟨rfl, rfl⟩ rfl rfl (Nat.le_of_ble_eq_true rfl) ?_
    refine j_st (st' := [.int r17]) rfl ?_
    obtain ⟨rfl, rfl⟩ := pr_x h
    exact j_iret C dX11_count_143
  have h := ite_f c15 h
  by_cases c19 : a1 = (9 : Int32)
  · have h := ite_t c19 h
    refine j_tabIn C (off := 143) (9 : Int32) 144 dX11_count_1 c19 ⟨by decide, by decide⟩ (by decide +kernel) (by decide) ?_
    refine j_aload_n C 0 dX11_count_144 rfl rfl ?_
    refine j_aload_n C 0 dX11_count_145 rfl rfl ?_
    refine j_getS C (11, 0, 6, 0) fl_X11_22 dX11_count_146 (by decide) ⟨rfl, rfl⟩ rfl rfl ?_
    obtain ⟨r21, D22, h20, h⟩ := cbd_x h
    refine j_callV C [.ref (ad G (11, 0, 6, 0))] [] cl_X11_421 (M_X11_allOf (lv := lv - 1) hG (by omega) h20) (by omega) dX11_count_149 (by decide) ⟨rfl, rfl⟩ rfl rfl (Nat.le_of_ble_eq_true rfl) ?_
    refine j_st (st' := [.int r21]) rfl ?_
    obtain ⟨rfl, rfl⟩ := pr_x h
    exact j_iret C dX11_count_152
  have h := ite_f c19 h
  by_cases c23 : a1 = (10 : Int32)
  · have h := ite_t c23 h
    refine j_tabIn C (off := 152) (10 : Int32) 153 dX11_count_1 c23 ⟨by decide, by decide⟩ (by decide +kernel) (by decide) ?_
    refine j_aload_n C 0 dX11_count_153 rfl rfl ?_
    refine j_getS C (11, 0, 2, 0) fl_X11_9 dX11_count_154 (by decide) ⟨rfl, rfl⟩ rfl rfl ?_
    refine j_iconst C (5 : Int32) (by decide) dX11_count_157 ?_
    refine j_ialdK C 9 5 dX11_count_158 (V_f 1 (by decide) (by decide)) rfl (by decide) (by decide) ?_
    obtain ⟨rfl, rfl⟩ := pr_x h
    exact j_iret C dX11_count_159
  have h := ite_f c23 h
  by_cases c24 : a1 = (11 : Int32)
  · have h := ite_t c24 h
    refine j_tabIn C (off := 159) (11 : Int32) 160 dX11_count_1 c24 ⟨by decide, by decide⟩ (by decide +kernel) (by decide) ?_
    refine j_aload_n C 0 dX11_count_160 rfl rfl ?_
    refine j_getS C (11, 0, 2, 0) fl_X11_9 dX11_count_161 (by decide) ⟨rfl, rfl⟩ rfl rfl ?_
    refine j_bipush C (6 : Int32) (by decide) dX11_count_164 ?_
    refine j_ialdK C 9 6 dX11_count_166 (V_f 1 (by decide) (by decide)) rfl (by decide) (by decide) ?_
    obtain ⟨rfl, rfl⟩ := pr_x h
    exact j_iret C dX11_count_167
  have h := ite_f c24 h
  by_cases c25 : a1 = (12 : Int32)
  · have h := ite_t c25 h
    refine j_tabIn C (off := 167) (12 : Int32) 168 dX11_count_1 c25 ⟨by decide, by decide⟩ (by decide +kernel) (by decide) ?_
    refine j_aload_n C 0 dX11_count_168 rfl rfl ?_
    refine j_getI C fl_X11_298 dX11_count_169 (by decide) ⟨rfl, rfl⟩ rfl ?_
    obtain ⟨rfl, rfl⟩ := pr_x h
    exact j_iret C dX11_count_172
  have h := ite_f c25 h
  by_cases c26 : a1 = (13 : Int32)
  · have h := ite_t c26 h
    refine j_tabIn C (off := 172) (13 : Int32) 173 dX11_count_1 c26 ⟨by decide, by decide⟩ (by decide +kernel) (by decide) ?_
    refine j_aload_n C 0 dX11_count_173 rfl rfl ?_
    refine j_getS C (11, 0, 2, 0) fl_X11_9 dX11_count_174 (by decide) ⟨rfl, rfl⟩ rfl rfl ?_
    refine j_bipush C (7 : Int32) (by decide) dX11_count_177 ?_
    refine j_ialdK C 9 7 dX11_count_179 (V_f 1 (by decide) (by decide)) rfl (by decide) (by decide) ?_
    obtain ⟨rfl, rfl⟩ := pr_x h
    exact j_iret C dX11_count_180
  have h := ite_f c26 h
  by_cases c27 : a1 = (14 : Int32)
  · have h := ite_t c27 h
    refine j_tabIn C (off := 180) (14 : Int32) 181 dX11_count_1 c27 ⟨by decide, by decide⟩ (by decide +kernel) (by decide) ?_
    refine j_aload_n C 0 dX11_count_181 rfl rfl ?_
    refine j_getI C fl_X11_138 dX11_count_182 (by decide) ⟨rfl, rfl⟩ rfl ?_
    obtain ⟨rfl, rfl⟩ := pr_x h
    exact j_iret C dX11_count_185
  have h := ite_f c27 h
  refine j_tabOut C 186 dX11_count_1 (by have z0 : a1.toInt ≠ 0 := ne_toInt c1; have z1 : a1.toInt ≠ 1 := ne_toInt c2; have z2 : a1.toInt ≠ 2 := ne_toInt c3; have z3 : a1.toInt ≠ 3 := ne_toInt c4; have z4 : a1.toInt ≠ 4 := ne_toInt c5; have z5 : a1.toInt ≠ 5 := ne_toInt c6; have z6 : a1.toInt ≠ 6 := ne_toInt c7; have z7 : a1.toInt ≠ 7 := ne_toInt c11; have z8 : a1.toInt ≠ 8 := ne_toInt c15; have z9 : a1.toInt ≠ 9 := ne_toInt c19; have z10 : a1.toInt ≠ 10 := ne_toInt c23; have z11 : a1.toInt ≠ 11 := ne_toInt c24; have z12 : a1.toInt ≠ 12 := ne_toInt c25; have z13 : a1.toInt ≠ 13 := ne_toInt c26; have z14 : a1.toInt ≠ 14 := ne_toInt c27; omega) (by decide) ?_
  refine j_iconst C (-1 : Int32) (by decide) dX11_count_186 ?_
  obtain ⟨rfl, rfl⟩ := pr_x h
  exact j_iret C dX11_count_187
def F_X11_image (a1 : Int32) (D : Dt) : Option (Int32 × Dt) := (cbd (F_X11_in a1.toInt64 (0 : Int64) (3 : Int64) D) (fun r2 D3 => (if r2 = 0 then (some ((-1 : Int32), D3)) else (grd (inB a1 4 = true) (bnd (setI D3 (11, 0, 56, 0) (a1.toNatClampNeg) (vp_nar .boolean (1 : Int32))) (fun D6 => (vbd (F_X11_carriesAll a1 (0 : Int32) D6) (fun D8 => (some ((D8.1 (11, 0, 2, 0) 4), D8))))))))))
set_option maxRecDepth 100000 in
set_option maxHeartbeats 4000000 in
theorem M_X11_image {l : Launch} {G : Gt} {A : Nat → Prop} {lv : Nat} {a1 : Int32} {D : Dt} {r : Int32} {D' : Dt} (hG : Gok G A) (hlv : 3 ≤ lv)  (h : F_X11_image a1 D = some (r, D')) : MD l G A lv yX11_image cX11_image 2 (some .int) [.ref (ad G (11, 0, 0, 0)), .int a1] D (some (.int r)) D' := by
  unfold F_X11_image at h
  refine md_start RX11 hG (by decide +kernel) rfl (Nat.le_of_ble_eq_true rfl) (L := [(0, .ref (ad G (11, 0, 0, 0))), (1, .int a1)]) rfl (fun X C => ?_)
  refine j_iload_n C 1 dX11_image_0 rfl rfl ?_
  refine j_i2l C dX11_image_1 ?_
  refine j_lconst C (0 : Int64) (by decide) dX11_image_2 ?_
  refine j_ldc2 C (3 : Int64) kc_X11_430 dX11_image_3 ?_
  obtain ⟨r2, D3, h1, h⟩ := cbd_x h
  refine j_callS C [.long a1.toInt64, .long (0 : Int64), .long (3 : Int64)] [] cl_X11_134 (M_X11_in (lv := lv - 1) hG (by omega) h1) (by omega) dX11_image_6 rfl rfl (Nat.le_of_ble_eq_true rfl) ?_
  refine j_st (st' := [.int r2]) rfl ?_
  refine j_if_ne C 14 dX11_image_9 (by decide) (fun c4 => ?_) (fun c4 => ?_)
  · have h := ite_f c4 h
    refine j_aload_n C 0 dX11_image_14 rfl rfl ?_
    refine j_getS C (11, 0, 56, 0) fl_X11_127 dX11_image_15 (by decide) ⟨rfl, rfl⟩ rfl rfl ?_
    refine j_iload_n C 1 dX11_image_18 rfl rfl ?_
    refine j_iconst C (1 : Int32) (by decide) dX11_image_19 ?_
    obtain ⟨g5, h⟩ := grd_x h
    obtain ⟨D6, eD6, h⟩ := bnd_x h
    refine j_zastK C 4 (a1.toNatClampNeg) dX11_image_20 (V_f 55 (by decide) (by decide)) rfl g5 rfl ?_
    refine j_rep eD6 ?_
    refine j_aload_n C 0 dX11_image_21 rfl rfl ?_
    refine j_iload_n C 1 dX11_image_22 rfl rfl ?_
    refine j_iconst C (0 : Int32) (by decide) dX11_image_23 ?_
    obtain ⟨D8, h7, h⟩ := vbd_x h
    refine j_callV C [.int a1, .int (0 : Int32)] [] cl_X11_415 (M_X11_carriesAll (lv := lv - 1) hG (by omega) h7) (by omega) dX11_image_24 (by decide) ⟨rfl, rfl⟩ rfl rfl (Nat.le_of_ble_eq_true rfl) ?_
    refine j_st (st' := []) rfl ?_
    refine j_aload_n C 0 dX11_image_27 rfl rfl ?_
    refine j_getS C (11, 0, 2, 0) fl_X11_9 dX11_image_28 (by decide) ⟨rfl, rfl⟩ rfl rfl ?_
    refine j_iconst C (4 : Int32) (by decide) dX11_image_31 ?_
    refine j_ialdK C 9 4 dX11_image_32 (V_f 1 (by decide) (by decide)) rfl (by decide) (by decide) ?_
    obtain ⟨rfl, rfl⟩ := pr_x h
    exact j_iret C dX11_image_33
  · have h := ite_t c4 h
    refine j_iconst C (-1 : Int32) (by decide) dX11_image_12 ?_
    obtain ⟨rfl, rfl⟩ := pr_x h
    exact j_iret C dX11_image_13
def F_X11_back (a1 : Int32) (D : Dt) : Option (Int32 × Dt) := (cbd (F_X11_in a1.toInt64 (0 : Int64) (3 : Int64) D) (fun r2 D3 => (if r2 = 0 then (some ((-1 : Int32), D3)) else (grd (inB a1 4 = true) (if (D3.1 (11, 0, 56, 0) (a1.toNatClampNeg)) = 0 then (some ((-1 : Int32), D3)) else (vbd (F_X11_carriesAll a1 (1 : Int32) D3) (fun D8 => (some ((D8.1 (11, 0, 2, 0) 4), D8)))))))))
set_option maxRecDepth 100000 in
set_option maxHeartbeats 4000000 in
theorem M_X11_back {l : Launch} {G : Gt} {A : Nat → Prop} {lv : Nat} {a1 : Int32} {D : Dt} {r : Int32} {D' : Dt} (hG : Gok G A) (hlv : 3 ≤ lv)  (h : F_X11_back a1 D = some (r, D')) : MD l G A lv yX11_back cX11_back 2 (some .int) [.ref (ad G (11, 0, 0, 0)), .int a1] D (some (.int r)) D' := by
  unfold F_X11_back at h
  refine md_start RX11 hG (by decide +kernel) rfl (Nat.le_of_ble_eq_true rfl) (L := [(0, .ref (ad G (11, 0, 0, 0))), (1, .int a1)]) rfl (fun X C => ?_)
  refine j_iload_n C 1 dX11_back_0 rfl rfl ?_
  refine j_i2l C dX11_back_1 ?_
  refine j_lconst C (0 : Int64) (by decide) dX11_back_2 ?_
  refine j_ldc2 C (3 : Int64) kc_X11_430 dX11_back_3 ?_
  obtain ⟨r2, D3, h1, h⟩ := cbd_x h
  refine j_callS C [.long a1.toInt64, .long (0 : Int64), .long (3 : Int64)] [] cl_X11_134 (M_X11_in (lv := lv - 1) hG (by omega) h1) (by omega) dX11_back_6 rfl rfl (Nat.le_of_ble_eq_true rfl) ?_
  refine j_st (st' := [.int r2]) rfl ?_
  refine j_if_eq C 21 dX11_back_9 (by decide) (fun c4 => ?_) (fun c4 => ?_)
  · have h := ite_t c4 h
    refine j_iconst C (-1 : Int32) (by decide) dX11_back_21 ?_
    obtain ⟨rfl, rfl⟩ := pr_x h
    exact j_iret C dX11_back_22
  · have h := ite_f c4 h
    refine j_aload_n C 0 dX11_back_12 rfl rfl ?_
    refine j_getS C (11, 0, 56, 0) fl_X11_127 dX11_back_13 (by decide) ⟨rfl, rfl⟩ rfl rfl ?_
    refine j_iload_n C 1 dX11_back_16 rfl rfl ?_
    obtain ⟨g5, h⟩ := grd_x h
    refine j_zaldK C 4 (a1.toNatClampNeg) dX11_back_17 (V_f 55 (by decide) (by decide)) rfl g5 rfl ?_
    refine j_if_ne C 23 dX11_back_18 (by decide) (fun c6 => ?_) (fun c6 => ?_)
    · have h := ite_f c6 h
      refine j_aload_n C 0 dX11_back_23 rfl rfl ?_
      refine j_iload_n C 1 dX11_back_24 rfl rfl ?_
      refine j_iconst C (1 : Int32) (by decide) dX11_back_25 ?_
      obtain ⟨D8, h7, h⟩ := vbd_x h
      refine j_callV C [.int a1, .int (1 : Int32)] [] cl_X11_415 (M_X11_carriesAll (lv := lv - 1) hG (by omega) h7) (by omega) dX11_back_26 (by decide) ⟨rfl, rfl⟩ rfl rfl (Nat.le_of_ble_eq_true rfl) ?_
      refine j_st (st' := []) rfl ?_
      refine j_aload_n C 0 dX11_back_29 rfl rfl ?_
      refine j_getS C (11, 0, 2, 0) fl_X11_9 dX11_back_30 (by decide) ⟨rfl, rfl⟩ rfl rfl ?_
      refine j_iconst C (4 : Int32) (by decide) dX11_back_33 ?_
      refine j_ialdK C 9 4 dX11_back_34 (V_f 1 (by decide) (by decide)) rfl (by decide) (by decide) ?_
      obtain ⟨rfl, rfl⟩ := pr_x h
      exact j_iret C dX11_back_35
    · have h := ite_t c6 h
      refine j_iconst C (-1 : Int32) (by decide) dX11_back_21 ?_
      obtain ⟨rfl, rfl⟩ := pr_x h
      exact j_iret C dX11_back_22
