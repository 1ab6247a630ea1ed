def F_X0_forgetFirst_b9 (i0 : Nat) (k35 : Nat → Dt → Option Dt) : Nat → Nat → Int32 → Dt → Option Dt
  | 0, _, _, _ => none
  | f + 1, l1, l2, D => grd (V (6, l1, 0, 0) = true) ((if (20 : Int32) ≤ l2 then (k35 l1 D) else (grd (inB l2 20 = true) (obd (D.2.2 (0, i0, 1, 0) (l2.toNatClampNeg)) (fun n5 => (grd (V (6, n5, 0, 0) = true) (grd (inB (l2 - (1 : Int32)) 20 = true) (bnd (setR D (0, i0, 1, 0) ((l2 - (1 : Int32)).toNatClampNeg) (some n5)) (fun D8 => (bnd (l2 + (1 : Int32)) (fun v9 => (F_X0_forgetFirst_b9 i0 k35 f l1 v9 D8))))))))))))
set_option maxRecDepth 100000 in
set_option maxHeartbeats 4000000 in
theorem T_X0_forgetFirst_b9 {D' : Dt} {X : Ctx} {l : Launch} {G : Gt} {A : Nat → Prop} {lv : Nat} {i0 : Nat}  {k35 : Nat → Dt → Option Dt} (hG : Gok G A) (hlv : 1 ≤ lv) (hv0 : V (0, i0, 0, 0) = true)  (C : Cx X cX0_forgetFirst RX0 G l A lv 3 none none D') (hk35 : ∀ (l1 : Nat) (D : Dt), k35 l1 D = some D' → J X (Rep G D) 35 [(0, .ref (ad G (0, i0, 0, 0))), (1, .ref (ad G (6, l1, 0, 0)))] []) : ∀ (f : Nat) (l1 : Nat) (l2 : Int32) (D : Dt), F_X0_forgetFirst_b9 i0 k35 f l1 l2 D = some D' → J X (Rep G D) 9 [(0, .ref (ad G (0, i0, 0, 0))), (1, .ref (ad G (6, l1, 0, 0))), (2, .int l2)] [] := by
  intro f
  induction f with
  | zero =>
    intro l1 l2 D h
    exact nomatch h
  | succ f ih =>
    intro l1 l2 D h
    rw [F_X0_forgetFirst_b9] at h
    obtain ⟨hvl1, h⟩ := grd_x h
    refine j_iload_n C 2 dX0_forgetFirst_9 rfl rfl ?_
    refine j_bipush C (20 : Int32) (by decide) dX0_forgetFirst_10 ?_
    refine j_icmp_ge C 35 dX0_forgetFirst_12 (by decide) (fun c3 => ?_) (fun c3 => ?_)
    · have h := ite_t c3 h
      refine j_sub [0, 1] [(0, .ref (ad G (0, i0, 0, 0))), (1, .ref (ad G (6, l1, 0, 0)))] rfl ?_
      exact hk35 l1 D h
    · have h := ite_f c3 h
      refine j_aload_n C 0 dX0_forgetFirst_15 rfl rfl ?_
      refine j_getS C (0, i0, 1, 0) fl_X0_11 dX0_forgetFirst_16 hv0 ⟨rfl, rfl⟩ rfl rfl ?_
      refine j_iload_n C 2 dX0_forgetFirst_19 rfl rfl ?_
      refine j_iconst C (1 : Int32) (by decide) dX0_forgetFirst_20 ?_
      refine j_isub C dX0_forgetFirst_21 ?_
      refine j_aload_n C 0 dX0_forgetFirst_22 rfl rfl ?_
      refine j_getS C (0, i0, 1, 0) fl_X0_11 dX0_forgetFirst_23 hv0 ⟨rfl, rfl⟩ rfl rfl ?_
      refine j_iload_n C 2 dX0_forgetFirst_26 rfl rfl ?_
      obtain ⟨g4, h⟩ := grd_x h
      refine j_aaldDK C 20 (l2.toNatClampNeg) dX0_forgetFirst_27 (V_f 0 hv0 (by decide)) rfl (fun _ => rfl) g4 rfl ?_
      obtain ⟨n5, en5, h⟩ := obd_x h
      obtain ⟨g6, h⟩ := grd_x h
      obtain ⟨g7, h⟩ := grd_x h
      obtain ⟨D8, eD8, h⟩ := bnd_x h
      refine j_some en5 ?_
      refine j_aastK C 20 ((l2 - (1 : Int32)).toNatClampNeg) dX0_forgetFirst_28 (V_f 0 hv0 (by decide)) rfl (fun _ => rfl) g7 g6 rfl ?_
      refine j_rep eD8 ?_
      obtain ⟨v9, ev9, h⟩ := bnd_x h
      refine j_iinc C 2 [(2, .int v9), (0, .ref (ad G (0, i0, 0, 0))), (1, .ref (ad G (6, l1, 0, 0)))] dX0_forgetFirst_29 rfl (Nat.le_of_ble_eq_true rfl) (ev9.trans (congrArg (l2 + ·) (by decide))) rfl ?_
      refine j_goto C 9 dX0_forgetFirst_32 (by decide) ?_
      refine j_sub [1, 2, 0] [(0, .ref (ad G (0, i0, 0, 0))), (1, .ref (ad G (6, l1, 0, 0))), (2, .int v9)] rfl ?_
      exact ih l1 v9 D8 h
def F_X0_forgetFirst (i0 : Nat) (D : Dt) : Option Dt := (grd (V (0, i0, 0, 0) = true) (obd (D.2.2 (0, i0, 1, 0) 0) (fun n1 => (grd (V (6, n1, 0, 0) = true) (F_X0_forgetFirst_b9 i0 (fun l1_10 D11 => (grd (V (6, l1_10, 0, 0) = true) (bnd (setR D11 (0, i0, 1, 0) 19 (some l1_10)) (fun D12 => (bnd (setI D12 (0, i0, 0, 0) 1 (19 : Int32)) (fun D13 => (some D13))))))) 1000 n1 (1 : Int32) D)))))
set_option maxRecDepth 100000 in
set_option maxHeartbeats 4000000 in
theorem M_X0_forgetFirst {l : Launch} {G : Gt} {A : Nat → Prop} {lv : Nat} {i0 : Nat} {D : Dt} {D' : Dt} (hG : Gok G A) (hlv : 1 ≤ lv)  (h : F_X0_forgetFirst i0 D = some D') : MD l G A lv yX0_forgetFirst cX0_forgetFirst 3 none [.ref (ad G (0, i0, 0, 0))] D none D' := by
  unfold F_X0_forgetFirst at h
  obtain ⟨hv0, h⟩ := grd_x h
  refine md_start RX0 hG (by decide +kernel) rfl (Nat.le_of_ble_eq_true rfl) (L := [(0, .ref (ad G (0, i0, 0, 0)))]) rfl (fun X C => ?_)
  refine j_aload_n C 0 dX0_forgetFirst_0 rfl rfl ?_
  refine j_getS C (0, i0, 1, 0) fl_X0_11 dX0_forgetFirst_1 hv0 ⟨rfl, rfl⟩ rfl rfl ?_
  refine j_iconst C (0 : Int32) (by decide) dX0_forgetFirst_4 ?_
  refine j_aaldDK C 20 0 dX0_forgetFirst_5 (V_f 0 hv0 (by decide)) rfl (fun _ => rfl) (by decide) (by decide) ?_
  obtain ⟨n1, en1, h⟩ := obd_x h
  obtain ⟨g2, h⟩ := grd_x h
  refine j_some en1 ?_
  refine j_astore_n C [(1, .ref (ad G (6, n1, 0, 0))), (0, .ref (ad G (0, i0, 0, 0)))] dX0_forgetFirst_6 rfl (Nat.le_of_ble_eq_true rfl) rfl rfl ?_
  refine j_iconst C (1 : Int32) (by decide) dX0_forgetFirst_7 ?_
  refine j_istore_n C [(2, .int (1 : Int32)), (1, .ref (ad G (6, n1, 0, 0))), (0, .ref (ad G (0, i0, 0, 0)))] dX0_forgetFirst_8 rfl (Nat.le_of_ble_eq_true rfl) rfl rfl ?_
  refine j_sub [2, 1, 0] [(0, .ref (ad G (0, i0, 0, 0))), (1, .ref (ad G (6, n1, 0, 0))), (2, .int (1 : Int32))] rfl ?_
  refine T_X0_forgetFirst_b9 hG hlv hv0 C (fun l1_10 D11 h => ?_) 1000 n1 (1 : Int32) D h
  · obtain ⟨hvl1, h⟩ := grd_x h
    refine j_aload_n C 0 dX0_forgetFirst_35 rfl rfl ?_
    refine j_getS C (0, i0, 1, 0) fl_X0_11 dX0_forgetFirst_36 hv0 ⟨rfl, rfl⟩ rfl rfl ?_
    refine j_bipush C (19 : Int32) (by decide) dX0_forgetFirst_39 ?_
    refine j_aload_n C 1 dX0_forgetFirst_41 rfl rfl ?_
    obtain ⟨D12, eD12, h⟩ := bnd_x h
    refine j_aastK C 20 19 dX0_forgetFirst_42 (V_f 0 hv0 (by decide)) rfl (fun _ => rfl) (by decide) hvl1 (by decide) ?_
    refine j_rep eD12 ?_
    refine j_aload_n C 0 dX0_forgetFirst_43 rfl rfl ?_
    refine j_bipush C (19 : Int32) (by decide) dX0_forgetFirst_44 ?_
    obtain ⟨D13, eD13, h⟩ := bnd_x h
    refine j_putI C fl_X0_18 dX0_forgetFirst_46 hv0 ⟨rfl, rfl⟩ rfl rfl rfl ?_
    refine j_rep eD13 ?_
    obtain rfl := Option.some.inj h
    exact j_vret C dX0_forgetFirst_49
def F_X10_copyRow (a1 : LA) (a2 : LA) (D : Dt) : Option Dt := (grd (V a1 = true ∧ sh a1 = .inr (0, lenOf a1)) (grd (V a2 = true ∧ sh a2 = .inr (0, lenOf a2)) (grd (¬ (0 : Int32) < 0 ∧ ¬ (0 : Int32) < 0 ∧ ¬ (if (Int32.ofNat (lenOf a2)) < (Int32.ofNat (lenOf a1)) then (Int32.ofNat (lenOf a2)) else (Int32.ofNat (lenOf a1))) < 0 ∧ (0 : Int32).toNatClampNeg + (if (Int32.ofNat (lenOf a2)) < (Int32.ofNat (lenOf a1)) then (Int32.ofNat (lenOf a2)) else (Int32.ofNat (lenOf a1))).toNatClampNeg ≤ lenOf a1 ∧ (0 : Int32).toNatClampNeg + (if (Int32.ofNat (lenOf a2)) < (Int32.ofNat (lenOf a1)) then (Int32.ofNat (lenOf a2)) else (Int32.ofNat (lenOf a1))).toNatClampNeg ≤ lenOf a2) (bnd (cpyI D a1 a2 (0 : Int32).toNatClampNeg (0 : Int32).toNatClampNeg (if (Int32.ofNat (lenOf a2)) < (Int32.ofNat (lenOf a1)) then (Int32.ofNat (lenOf a2)) else (Int32.ofNat (lenOf a1))).toNatClampNeg) (fun D2 => (some D2))))))
set_option maxRecDepth 100000 in
set_option maxHeartbeats 4000000 in
theorem M_X10_copyRow {l : Launch} {G : Gt} {A : Nat → Prop} {lv : Nat} {a1 : LA} {a2 : LA} {D : Dt} {D' : Dt} (hG : Gok G A) (hlv : 1 ≤ lv)  (h : F_X10_copyRow a1 a2 D = some D') : MD l G A lv yX10_copyRow cX10_copyRow 2 none [.ref (ad G a1), .ref (ad G a2)] D none D' := by
  unfold F_X10_copyRow at h
  obtain ⟨hv1, h⟩ := grd_x h
  obtain ⟨hv2, h⟩ := grd_x h
  refine md_start RX10 hG (by decide +kernel) rfl (Nat.le_of_ble_eq_true rfl) (L := [(0, .ref (ad G a1)), (1, .ref (ad G a2))]) rfl (fun X C => ?_)
  refine j_aload_n C 0 dX10_copyRow_0 rfl rfl ?_
  refine j_iconst C (0 : Int32) (by decide) dX10_copyRow_1 ?_
  refine j_aload_n C 1 dX10_copyRow_2 rfl rfl ?_
  refine j_iconst C (0 : Int32) (by decide) dX10_copyRow_3 ?_
  refine j_aload_n C 0 dX10_copyRow_4 rfl rfl ?_
  refine j_alen C (Int32.ofNat (lenOf a1)) dX10_copyRow_5 hv1.1 hv1.2 (by decide) rfl ?_
  refine j_aload_n C 1 dX10_copyRow_6 rfl rfl ?_
  refine j_alen C (Int32.ofNat (lenOf a2)) dX10_copyRow_7 hv2.1 hv2.2 (by decide) rfl ?_
  refine j_min C km_X10_196 (by omega) (Nat.le_of_ble_eq_true rfl) dX10_copyRow_8 ?_
  obtain ⟨g1, h⟩ := grd_x h
  obtain ⟨D2, eD2, h⟩ := bnd_x h
  refine j_copy C km_X10_298 (by omega) (Nat.le_of_ble_eq_true rfl) dX10_copyRow_11 hv1.1 hv1.2 hv2.1 hv2.2 g1 ?_
  refine j_rep eD2 ?_
  obtain rfl := Option.some.inj h
  exact j_vret C dX10_copyRow_14
def F_X6_copyFrom (i0 : Nat) (a1 : Nat) (D : Dt) : Option Dt := (grd (V (6, i0, 0, 0) = true) (grd (V (6, a1, 0, 0) = true) (vbd (F_X10_copyRow (6, a1, 1, 0) (6, i0, 1, 0) D) (fun D2 => (vbd (F_X10_copyRow (6, a1, 2, 0) (6, i0, 2, 0) D2) (fun D4 => (vbd (F_X10_copyRow (6, a1, 3, 0) (6, i0, 3, 0) D4) (fun D6 => (vbd (F_X10_copyRow (6, a1, 4, 0) (6, i0, 4, 0) D6) (fun D8 => (vbd (F_X10_copyRow (6, a1, 5, 0) (6, i0, 5, 0) D8) (fun D10 => (bnd (setI D10 (6, i0, 0, 0) 5 (D10.1 (6, a1, 0, 0) 5)) (fun D11 => (bnd (setI D11 (6, i0, 0, 0) 6 (D11.1 (6, a1, 0, 0) 6)) (fun D12 => (bnd (setI D12 (6, i0, 0, 0) 7 (D12.1 (6, a1, 0, 0) 7)) (fun D13 => (some D13)))))))))))))))))))
set_option maxRecDepth 100000 in
set_option maxHeartbeats 4000000 in
theorem M_X6_copyFrom {l : Launch} {G : Gt} {A : Nat → Prop} {lv : Nat} {i0 : Nat} {a1 : Nat} {D : Dt} {D' : Dt} (hG : Gok G A) (hlv : 2 ≤ lv)  (h : F_X6_copyFrom i0 a1 D = some D') : MD l G A lv yX6_copyFrom cX6_copyFrom 2 none [.ref (ad G (6, i0, 0, 0)), .ref (ad G (6, a1, 0, 0))] D none D' := by
  unfold F_X6_copyFrom at h
  obtain ⟨hv0, h⟩ := grd_x h
  obtain ⟨hv1, h⟩ := grd_x h
  refine md_start RX6 hG (by decide +kernel) rfl (Nat.le_of_ble_eq_true rfl) (L := [(0, .ref (ad G (6, i0, 0, 0))), (1, .ref (ad G (6, a1, 0, 0)))]) rfl (fun X C => ?_)
  refine j_aload_n C 1 dX6_copyFrom_0 rfl rfl ?_
  refine j_getS C (6, a1, 1, 0) fl_X6_9 dX6_copyFrom_1 hv1 ⟨rfl, rfl⟩ rfl rfl ?_
  refine j_aload_n C 0 dX6_copyFrom_4 rfl rfl ?_
  refine j_getS C (6, i0, 1, 0) fl_X6_9 dX6_copyFrom_5 hv0 ⟨rfl, rfl⟩ rfl rfl ?_
  obtain ⟨D2, h1, h⟩ := vbd_x h
  refine j_callS C [.ref (ad G (6, a1, 1, 0)), .ref (ad G (6, i0, 1, 0))] [] cl_X6_30 (M_X10_copyRow (lv := lv - 1) hG (by omega) h1) (by omega) dX6_copyFrom_8 rfl rfl (Nat.le_of_ble_eq_true rfl) ?_
  refine j_st (st' := []) rfl ?_
  refine j_aload_n C 1 dX6_copyFrom_11 rfl rfl ?_
  refine j_getS C (6, a1, 2, 0) fl_X6_15 dX6_copyFrom_12 hv1 ⟨rfl, rfl⟩ rfl rfl ?_
  refine j_aload_n C 0 dX6_copyFrom_15 rfl rfl ?_
  refine j_getS C (6, i0, 2, 0) fl_X6_15 dX6_copyFrom_16 hv0 ⟨rfl, rfl⟩ rfl rfl ?_
  obtain ⟨D4, h3, h⟩ := vbd_x h
  refine j_callS C [.ref (ad G (6, a1, 2, 0)), .ref (ad G (6, i0, 2, 0))] [] cl_X6_30 (M_X10_copyRow (lv := lv - 1) hG (by omega) h3) (by omega) dX6_copyFrom_19 rfl rfl (Nat.le_of_ble_eq_true rfl) ?_
  refine j_st (st' := []) rfl ?_
  refine j_aload_n C 1 dX6_copyFrom_22 rfl rfl ?_
  refine j_getS C (6, a1, 3, 0) fl_X6_18 dX6_copyFrom_23 hv1 ⟨rfl, rfl⟩ rfl rfl ?_
  refine j_aload_n C 0 dX6_copyFrom_26 rfl rfl ?_
  refine j_getS C (6, i0, 3, 0) fl_X6_18 dX6_copyFrom_27 hv0 ⟨rfl, rfl⟩ rfl rfl ?_
  obtain ⟨D6, h5, h⟩ := vbd_x h
  refine j_callS C [.ref (ad G (6, a1, 3, 0)), .ref (ad G (6, i0, 3, 0))] [] cl_X6_30 (M_X10_copyRow (lv := lv - 1) hG (by omega) h5) (by omega) dX6_copyFrom_30 rfl rfl (Nat.le_of_ble_eq_true rfl) ?_
  refine j_st (st' := []) rfl ?_
  refine j_aload_n C 1 dX6_copyFrom_33 rfl rfl ?_
  refine j_getS C (6, a1, 4, 0) fl_X6_21 dX6_copyFrom_34 hv1 ⟨rfl, rfl⟩ rfl rfl ?_
  refine j_aload_n C 0 dX6_copyFrom_37 rfl rfl ?_
  refine j_getS C (6, i0, 4, 0) fl_X6_21 dX6_copyFrom_38 hv0 ⟨rfl, rfl⟩ rfl rfl ?_
  obtain ⟨D8, h7, h⟩ := vbd_x h
  refine j_callS C [.ref (ad G (6, a1, 4, 0)), .ref (ad G (6, i0, 4, 0))] [] cl_X6_30 (M_X10_copyRow (lv := lv - 1) hG (by omega) h7) (by omega) dX6_copyFrom_41 rfl rfl (Nat.le_of_ble_eq_true rfl) ?_
  refine j_st (st' := []) rfl ?_
  refine j_aload_n C 1 dX6_copyFrom_44 rfl rfl ?_
  refine j_getS C (6, a1, 5, 0) fl_X6_24 dX6_copyFrom_45 hv1 ⟨rfl, rfl⟩ rfl rfl ?_
  refine j_aload_n C 0 dX6_copyFrom_48 rfl rfl ?_
  refine j_getS C (6, i0, 5, 0) fl_X6_24 dX6_copyFrom_49 hv0 ⟨rfl, rfl⟩ rfl rfl ?_
  obtain ⟨D10, h9, h⟩ := vbd_x h
  refine j_callS C [.ref (ad G (6, a1, 5, 0)), .ref (ad G (6, i0, 5, 0))] [] cl_X6_30 (M_X10_copyRow (lv := lv - 1) hG (by omega) h9) (by omega) dX6_copyFrom_52 rfl rfl (Nat.le_of_ble_eq_true rfl) ?_
  refine j_st (st' := []) rfl ?_
  refine j_aload_n C 0 dX6_copyFrom_55 rfl rfl ?_
  refine j_aload_n C 1 dX6_copyFrom_56 rfl rfl ?_
  refine j_getI C fl_X6_40 dX6_copyFrom_57 hv1 ⟨rfl, rfl⟩ rfl ?_
  obtain ⟨D11, eD11, h⟩ := bnd_x h
  refine j_putI C fl_X6_40 dX6_copyFrom_60 hv0 ⟨rfl, rfl⟩ rfl rfl rfl ?_
  refine j_rep eD11 ?_
  refine j_aload_n C 0 dX6_copyFrom_63 rfl rfl ?_
  refine j_aload_n C 1 dX6_copyFrom_64 rfl rfl ?_
  refine j_getI C fl_X6_41 dX6_copyFrom_65 hv1 ⟨rfl, rfl⟩ rfl ?_
  obtain ⟨D12, eD12, h⟩ := bnd_x h
  refine j_putI C fl_X6_41 dX6_copyFrom_68 hv0 ⟨rfl, rfl⟩ rfl rfl rfl ?_
  refine j_rep eD12 ?_
  refine j_aload_n C 0 dX6_copyFrom_71 rfl rfl ?_
  refine j_aload_n C 1 dX6_copyFrom_72 rfl rfl ?_
  refine j_getI C fl_X6_44 dX6_copyFrom_73 hv1 ⟨rfl, rfl⟩ rfl ?_
  obtain ⟨D13, eD13, h⟩ := bnd_x h
  refine j_putI C fl_X6_44 dX6_copyFrom_76 hv0 ⟨rfl, rfl⟩ rfl rfl rfl ?_
  refine j_rep eD13 ?_
  obtain rfl := Option.some.inj h
  exact j_vret C dX6_copyFrom_79
