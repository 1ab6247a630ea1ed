def F_X0_forgetFirst_b9 (i0 : Nat) (k35 : Nat → Dt → Option Dt) : Nat → Nat → Int32 → Dt → Option Dt
  | 0, _, _, _ => none
  | f + 1, l1, l2, D => grd (V (6, l1, 0, 0) = true) ((if (20 : Int32) ≤ l2 then (k35 l1 D) else (grd (inB l2 20 = true) (obd (D.2.2 (0, i0, 1, 0) (l2.toNatClampNeg)) (fun n5 => (grd (V (6, n5, 0, 0) = true) (grd (inB (l2 - (1 : Int32)) 20 = true) (bnd (setR D (0, i0, 1, 0) ((l2 - (1 : Int32)).toNatClampNeg) (some n5)) (fun D8 => (bnd (l2 + (1 : Int32)) (fun v9 => (F_X0_forgetFirst_b9 i0 k35 f l1 v9 D8))))))))))))
set_option maxRecDepth 100000 in
set_option maxHeartbeats 4000000 in
theorem T_X0_forgetFirst_b9 {D' : Dt} {X : Ctx} {l : Launch} {G : Gt} {A : Nat → Prop} {lv : Nat} {i0 : Nat}  {k35 : Nat → Dt → Option Dt} (hG : Gok G A) (hlv : 1 ≤ lv) (hv0 : V (0, i0, 0, 0) = true)  (C : Cx X cX0_forgetFirst RX0 G l A lv 3 none none D') (hk35 : ∀ (l1 : Nat) (D : Dt), k35 l1 D = some D' → J X (Rep G D) 35 [(0, .ref (ad G (0, i0, 0, 0))), (1, .ref (ad G (6, l1, 0, 0)))] []) : ∀ (f : Nat) (l1 : Nat) (l2 : Int32) (D : Dt), F_X0_forgetFirst_b9 i0 k35 f l1 l2 D = some D' → J X (Rep G D) 9 [(0, .ref (ad G (0, i0, 0, 0))), (1, .ref (ad G (6, l1, 0, 0))), (2, .int l2)] [] := by
  intro f
  induction f with
  | zero =>
    intro l1 l2 D h
    exact nomatch h
  | succ f ih =>
    intro l1 l2 D h
    rw [F_X0_forgetFirst_b9] at h
    obtain ⟨hvl1, h⟩ := grd_x h
    refine j_iload_n C 2 dX0_forgetFirst_9 rfl rfl ?_
    refine j_bipush C (20 : Int32) (by decide) dX0_forgetFirst_10 ?_
    refine j_icmp_ge C 35 dX0_forgetFirst_12 (by decide) (fun c3 => ?_) (fun c3 => ?_)
    · have h := ite_t c3 h
      refine j_sub [0, 1] [(0, .ref (ad G (0, i0, 0, 0))), (1, .ref (ad G (6, l1, 0, 0)))] rfl ?_
      exact hk35 l1 D h
    · have h := ite_f c3 h
      refine j_aload_n C 0 dX0_forgetFirst_15 rfl rfl ?_
      refine j_getS C (0, i0, 1, 0) fl_X0_11 dX0_forgetFirst_16 hv0 ⟨rfl, rfl⟩ rfl rfl ?_
      refine j_iload_n C 2 dX0_forgetFirst_19 rfl rfl ?_
      refine j_iconst C (1 : Int32) (by decide) dX0_forgetFirst_20 ?_
      refine j_isub C dX0_forgetFirst_21 ?_
      refine j_aload_n C 0 dX0_forgetFirst_22 rfl rfl ?_
      refine j_getS C (0, i0, 1, 0) fl_X0_11 dX0_forgetFirst_23 hv0 ⟨rfl, rfl⟩ rfl rfl ?_
      refine j_iload_n C 2 dX0_forgetFirst_26 rfl rfl ?_
      obtain ⟨g4, h⟩ := grd_x h
      refine j_aaldDK C 20 (l2.toNatClampNeg) dX0_forgetFirst_27 (V_f 0 hv0 (by decide)) rfl (fun _ => rfl) g4 rfl ?_
      obtain ⟨n5, en5, h⟩ := obd_x h
      obtain ⟨g6, h⟩ := grd_x h
      obtain ⟨g7, h⟩ := grd_x h
      obtain ⟨D8, eD8, h⟩ := bnd_x h
      refine j_some en5 ?_
      refine j_aastK C 20 ((l2 - (1 : Int32)).toNatClampNeg) dX0_forgetFirst_28 (V_f 0 hv0 (by decide)) rfl (fun _ => rfl) g7 g6 rfl ?_
      refine j_rep eD8 ?_
      obtain ⟨v9, ev9, h⟩ := bnd_x h
      refine j_iinc C 2 [(2, .int v9), (0, .ref (ad G (0, i0, 0, 0))), (1, .ref (ad G (6, l1, 0, 0)))] dX0_forgetFirst_29 rfl (Nat.le_of_ble_eq_true rfl) (ev9.trans (congrArg (l2 + ·) (by decide))) rfl ?_
      refine j_goto C 9 dX0_forgetFirst_32 (by decide) ?_
      refine j_sub [1, 2, 0] [(0, .ref (ad G (0, i0, 0, 0))), (1, .ref (ad G (6, l1, 0, 0))), (2, .int v9)] rfl ?_
      exact ih l1 v9 D8 h
def F_X0_forgetFirst (i0 : Nat) (D : Dt) : Option Dt := (grd (V (0, i0, 0, 0) = true) (obd (D.2.2 (0, i0, 1, 0) 0) (fun n1 => (grd (V (6, n1, 0, 0) = true) (F_X0_forgetFirst_b9 i0 (fun l1_10 D11 => (grd (V (6, l1_10, 0, 0) = true) (bnd (setR D11 (0, i0, 1, 0) 19 (some l1_10)) (fun D12 => (bnd (setI D12 (0, i0, 0, 0) 1 (19 : Int32)) (fun D13 => (some D13))))))) 2000 n1 (1 : Int32) D)))))
set_option maxRecDepth 100000 in
set_option maxHeartbeats 4000000 in
theorem M_X0_forgetFirst {l : Launch} {G : Gt} {A : Nat → Prop} {lv : Nat} {i0 : Nat} {D : Dt} {D' : Dt} (hG : Gok G A) (hlv : 1 ≤ lv)  (h : F_X0_forgetFirst i0 D = some D') : MD l G A lv yX0_forgetFirst cX0_forgetFirst 3 none [.ref (ad G (0, i0, 0, 0))] D none D' := by
  unfold F_X0_forgetFirst at h
  obtain ⟨hv0, h⟩ := grd_x h
  refine md_start RX0 hG (by decide +kernel) rfl (Nat.le_of_ble_eq_true rfl) (L := [(0, .ref (ad G (0, i0, 0, 0)))]) rfl (fun X C => ?_)
  refine j_aload_n C 0 dX0_forgetFirst_0 rfl rfl ?_
  refine j_getS C (0, i0, 1, 0) fl_X0_11 dX0_forgetFirst_1 hv0 ⟨rfl, rfl⟩ rfl rfl ?_
  refine j_iconst C (0 : Int32) (by decide) dX0_forgetFirst_4 ?_
  refine j_aaldDK C 20 0 dX0_forgetFirst_5 (V_f 0 hv0 (by decide)) rfl (fun _ => rfl) (by decide) (by decide) ?_
  obtain ⟨n1, en1, h⟩ := obd_x h
  obtain ⟨g2, h⟩ := grd_x h
  refine j_some en1 ?_
  refine j_astore_n C [(1, .ref (ad G (6, n1, 0, 0))), (0, .ref (ad G (0, i0, 0, 0)))] dX0_forgetFirst_6 rfl (Nat.le_of_ble_eq_true rfl) rfl rfl ?_
  refine j_iconst C (1 : Int32) (by decide) dX0_forgetFirst_7 ?_
  refine j_istore_n C [(2, .int (1 : Int32)), (1, .ref (ad G (6, n1, 0, 0))), (0, .ref (ad G (0, i0, 0, 0)))] dX0_forgetFirst_8 rfl (Nat.le_of_ble_eq_true rfl) rfl rfl ?_
  refine j_sub [2, 1, 0] [(0, .ref (ad G (0, i0, 0, 0))), (1, .ref (ad G (6, n1, 0, 0))), (2, .int (1 : Int32))] rfl ?_
  refine T_X0_forgetFirst_b9 hG hlv hv0 C (fun l1_10 D11 h => ?_) 2000 n1 (1 : Int32) D h
  · obtain ⟨hvl1, h⟩ := grd_x h
    refine j_aload_n C 0 dX0_forgetFirst_35 rfl rfl ?_
    refine j_getS C (0, i0, 1, 0) fl_X0_11 dX0_forgetFirst_36 hv0 ⟨rfl, rfl⟩ rfl rfl ?_
    refine j_bipush C (19 : Int32) (by decide) dX0_forgetFirst_39 ?_
    refine j_aload_n C 1 dX0_forgetFirst_41 rfl rfl ?_
    obtain ⟨D12, eD12, h⟩ := bnd_x h
    refine j_aastK C 20 19 dX0_forgetFirst_42 (V_f 0 hv0 (by decide)) rfl (fun _ => rfl) (by decide) hvl1 (by decide) ?_
    refine j_rep eD12 ?_
    refine j_aload_n C 0 dX0_forgetFirst_43 rfl rfl ?_
    refine j_bipush C (19 : Int32) (by decide) dX0_forgetFirst_44 ?_
    obtain ⟨D13, eD13, h⟩ := bnd_x h
    refine j_putI C fl_X0_18 dX0_forgetFirst_46 hv0 ⟨rfl, rfl⟩ rfl rfl rfl ?_
    refine j_rep eD13 ?_
    obtain rfl := Option.some.inj h
    exact j_vret C dX0_forgetFirst_49
def F_X10_copyRow (a1 : LA) (a2 : LA) (D : Dt) : Option Dt := (grd (V a1 = true ∧ sh a1 = .inr (0, lenOf a1)) (grd (V a2 = true ∧ sh a2 = .inr (0, lenOf a2)) (grd (¬ (0 : Int32) < 0 ∧ ¬ (0 : Int32) < 0 ∧ ¬ (if (Int32.ofNat (lenOf a2)) < (Int32.ofNat (lenOf a1)) then (Int32.ofNat (lenOf a2)) else (Int32.ofNat (lenOf a1))) < 0 ∧ (0 : Int32).toNatClampNeg + (if (Int32.ofNat (lenOf a2)) < (Int32.ofNat (lenOf a1)) then (Int32.ofNat (lenOf a2)) else (Int32.ofNat (lenOf a1))).toNatClampNeg ≤ lenOf a1 ∧ (0 : Int32).toNatClampNeg + (if (Int32.ofNat (lenOf a2)) < (Int32.ofNat (lenOf a1)) then (Int32.ofNat (lenOf a2)) else (Int32.ofNat (lenOf a1))).toNatClampNeg ≤ lenOf a2) (bnd (cpyI D a1 a2 (0 : Int32).toNatClampNeg (0 : Int32).toNatClampNeg (if (Int32.ofNat (lenOf a2)) < (Int32.ofNat (lenOf a1)) then (Int32.ofNat (lenOf a2)) else (Int32.ofNat (lenOf a1))).toNatClampNeg) (fun D2 => (some D2))))))
set_option maxRecDepth 100000 in
set_option maxHeartbeats 4000000 in
theorem M_X10_copyRow {l : Launch} {G : Gt} {A : Nat → Prop} {lv : Nat} {a1 : LA} {a2 : LA} {D : Dt} {D' : Dt} (hG : Gok G A) (hlv : 1 ≤ lv)  (h : F_X10_copyRow a1 a2 D = some D') : MD l G A lv yX10_copyRow cX10_copyRow 2 none [.ref (ad G a1), .ref (ad G a2)] D none D' := by
  unfold F_X10_copyRow at h
  obtain ⟨hv1, h⟩ := grd_x h
  obtain ⟨hv2, h⟩ := grd_x h
  refine md_start RX10 hG (by decide +kernel) rfl (Nat.le_of_ble_eq_true rfl) (L := [(0, .ref (ad G a1)), (1, .ref (ad G a2))]) rfl (fun X C => ?_)
  refine j_aload_n C 0 dX10_copyRow_0 rfl rfl ?_
  refine j_iconst C (0 : Int32) (by decide) dX10_copyRow_1 ?_
  refine j_aload_n C 1 dX10_copyRow_2 rfl rfl ?_
  refine j_iconst C (0 : Int32) (by decide) dX10_copyRow_3 ?_
  refine j_aload_n C 0 dX10_copyRow_4 rfl rfl ?_
  refine j_alen C (Int32.ofNat (lenOf a1)) dX10_copyRow_5 hv1.1 hv1.2 (by decide) rfl ?_
  refine j_aload_n C 1 dX10_copyRow_6 rfl rfl ?_
  refine j_alen C (Int32.ofNat (lenOf a2)) dX10_copyRow_7 hv2.1 hv2.2 (by decide) rfl ?_
  refine j_min C km_X10_196 (by omega) (Nat.le_of_ble_eq_true rfl) dX10_copyRow_8 ?_
  obtain ⟨g1, h⟩ := grd_x h
  obtain ⟨D2, eD2, h⟩ := bnd_x h
  refine j_copy C km_X10_298 (by omega) (Nat.le_of_ble_eq_true rfl) dX10_copyRow_11 hv1.1 hv1.2 hv2.1 hv2.2 g1 ?_
  refine j_rep eD2 ?_
  obtain rfl := Option.some.inj h
  exact j_vret C dX10_copyRow_14
def F_X6_copyFrom (i0 : Nat) (a1 : Nat) (D : Dt) : Option Dt := (grd (V (6, i0, 0, 0) = true) (grd (V (6, a1, 0, 0) = true) (vbd (F_X10_copyRow (6, a1, 1, 0) (6, i0, 1, 0) D) (fun D2 => (vbd (F_X10_copyRow (6, a1, 2, 0) (6, i0, 2, 0) D2) (fun D4 => (vbd (F_X10_copyRow (6, a1, 3, 0) (6, i0, 3, 0) D4) (fun D6 => (vbd (F_X10_copyRow (6, a1, 4, 0) (6, i0, 4, 0) D6) (fun D8 => (vbd (F_X10_copyRow (6, a1, 5, 0) (6, i0, 5, 0) D8) (fun D10 => (bnd (setI D10 (6, i0, 0, 0) 5 (D10.1 (6, a1, 0, 0) 5)) (fun D11 => (bnd (setI D11 (6, i0, 0, 0) 6 (D11.1 (6, a1, 0, 0) 6)) (fun D12 => (bnd (setI D12 (6, i0, 0, 0) 7 (D12.1 (6, a1, 0, 0) 7)) (fun D13 => (some D13)))))))))))))))))))
set_option maxRecDepth 100000 in
set_option maxHeartbeats 4000000 in
theorem M_X6_copyFrom {l : Launch} {G : Gt} {A : Nat → Prop} {lv : Nat} {i0 : Nat} {a1 : Nat} {D : Dt} {D' : Dt} (hG : Gok G A) (hlv : 2 ≤ lv)  (h : F_X6_copyFrom i0 a1 D = some D') : MD l G A lv yX6_copyFrom cX6_copyFrom 2 none [.ref (ad G (6, i0, 0, 0)), .ref (ad G (6, a1, 0, 0))] D none D' := by
  unfold F_X6_copyFrom at h
  obtain ⟨hv0, h⟩ := grd_x h
  obtain ⟨hv1, h⟩ := grd_x h
  refine md_start RX6 hG (by decide +kernel) rfl (Nat.le_of_ble_eq_true rfl) (L := [(0, .ref (ad G (6, i0, 0, 0))), (1, .ref (ad G (6, a1, 0, 0)))]) rfl (fun X C => ?_)
  refine j_aload_n C 1 dX6_copyFrom_0 rfl rfl ?_
  refine j_getS C (6, a1, 1, 0) fl_X6_9 dX6_copyFrom_1 hv1 ⟨rfl, rfl⟩ rfl rfl ?_
  refine j_aload_n C 0 dX6_copyFrom_4 rfl rfl ?_
  refine j_getS C (6, i0, 1, 0) fl_X6_9 dX6_copyFrom_5 hv0 ⟨rfl, rfl⟩ rfl rfl ?_
  obtain ⟨D2, h1, h⟩ := vbd_x h
  refine j_callS C [.ref (ad G (6, a1, 1, 0)), .ref (ad G (6, i0, 1, 0))] [] cl_X6_30 (M_X10_copyRow (lv := lv - 1) hG (by omega) h1) (by omega) dX6_copyFrom_8 rfl rfl (Nat.le_of_ble_eq_true rfl) ?_
  refine j_st (st' := []) rfl ?_
  refine j_aload_n C 1 dX6_copyFrom_11 rfl rfl ?_
  refine j_getS C (6, a1, 2, 0) fl_X6_15 dX6_copyFrom_12 hv1 ⟨rfl, rfl⟩ rfl rfl ?_
  refine j_aload_n C 0 dX6_copyFrom_15 rfl rfl ?_
  refine j_getS C (6, i0, 2, 0) fl_X6_15 dX6_copyFrom_16 hv0 ⟨rfl, rfl⟩ rfl rfl ?_
  obtain ⟨D4, h3, h⟩ := vbd_x h
  refine j_callS C [.ref (ad G (6, a1, 2, 0)), .ref (ad G (6, i0, 2, 0))] [] cl_X6_30 (M_X10_copyRow (lv := lv - 1) hG (by omega) h3) (by omega) dX6_copyFrom_19 rfl rfl (Nat.le_of_ble_eq_true rfl) ?_
  refine j_st (st' := []) rfl ?_
  refine j_aload_n C 1 dX6_copyFrom_22 rfl rfl ?_
  refine j_getS C (6, a1, 3, 0) fl_X6_18 dX6_copyFrom_23 hv1 ⟨rfl, rfl⟩ rfl rfl ?_
  refine j_aload_n C 0 dX6_copyFrom_26 rfl rfl ?_
  refine j_getS C (6, i0, 3, 0) fl_X6_18 dX6_copyFrom_27 hv0 ⟨rfl, rfl⟩ rfl rfl ?_
  obtain ⟨D6, h5, h⟩ := vbd_x h
  refine j_callS C [.ref (ad G (6, a1, 3, 0)), .ref (ad G (6, i0, 3, 0))] [] cl_X6_30 (M_X10_copyRow (lv := lv - 1) hG (by omega) h5) (by omega) dX6_copyFrom_30 rfl rfl (Nat.le_of_ble_eq_true rfl) ?_
  refine j_st (st' := []) rfl ?_
  refine j_aload_n C 1 dX6_copyFrom_33 rfl rfl ?_
  refine j_getS C (6, a1, 4, 0) fl_X6_21 dX6_copyFrom_34 hv1 ⟨rfl, rfl⟩ rfl rfl ?_
  refine j_aload_n C 0 dX6_copyFrom_37 rfl rfl ?_
  refine j_getS C (6, i0, 4, 0) fl_X6_21 dX6_copyFrom_38 hv0 ⟨rfl, rfl⟩ rfl rfl ?_
  obtain ⟨D8, h7, h⟩ := vbd_x h
  refine j_callS C [.ref (ad G (6, a1, 4, 0)), .ref (ad G (6, i0, 4, 0))] [] cl_X6_30 (M_X10_copyRow (lv := lv - 1) hG (by omega) h7) (by omega) dX6_copyFrom_41 rfl rfl (Nat.le_of_ble_eq_true rfl) ?_
  refine j_st (st' := []) rfl ?_
  refine j_aload_n C 1 dX6_copyFrom_44 rfl rfl ?_
  refine j_getS C (6, a1, 5, 0) fl_X6_24 dX6_copyFrom_45 hv1 ⟨rfl, rfl⟩ rfl rfl ?_
  refine j_aload_n C 0 dX6_copyFrom_48 rfl rfl ?_
  refine j_getS C (6, i0, 5, 0) fl_X6_24 dX6_copyFrom_49 hv0 ⟨rfl, rfl⟩ rfl rfl ?_
  obtain ⟨D10, h9, h⟩ := vbd_x h
  refine j_callS C [.ref (ad G (6, a1, 5, 0)), .ref (ad G (6, i0, 5, 0))] [] cl_X6_30 (M_X10_copyRow (lv := lv - 1) hG (by omega) h9) (by omega) dX6_copyFrom_52 rfl rfl (Nat.le_of_ble_eq_true rfl) ?_
  refine j_st (st' := []) rfl ?_
  refine j_aload_n C 0 dX6_copyFrom_55 rfl rfl ?_
  refine j_aload_n C 1 dX6_copyFrom_56 rfl rfl ?_
  refine j_getI C fl_X6_40 dX6_copyFrom_57 hv1 ⟨rfl, rfl⟩ rfl ?_
  obtain ⟨D11, eD11, h⟩ := bnd_x h
  refine j_putI C fl_X6_40 dX6_copyFrom_60 hv0 ⟨rfl, rfl⟩ rfl rfl rfl ?_
  refine j_rep eD11 ?_
  refine j_aload_n C 0 dX6_copyFrom_63 rfl rfl ?_
  refine j_aload_n C 1 dX6_copyFrom_64 rfl rfl ?_
  refine j_getI C fl_X6_41 dX6_copyFrom_65 hv1 ⟨rfl, rfl⟩ rfl ?_
  obtain ⟨D12, eD12, h⟩ := bnd_x h
  refine j_putI C fl_X6_41 dX6_copyFrom_68 hv0 ⟨rfl, rfl⟩ rfl rfl rfl ?_
  refine j_rep eD12 ?_
  refine j_aload_n C 0 dX6_copyFrom_71 rfl rfl ?_
  refine j_aload_n C 1 dX6_copyFrom_72 rfl rfl ?_
  refine j_getI C fl_X6_44 dX6_copyFrom_73 hv1 ⟨rfl, rfl⟩ rfl ?_
  obtain ⟨D13, eD13, h⟩ := bnd_x h
  refine j_putI C fl_X6_44 dX6_copyFrom_76 hv0 ⟨rfl, rfl⟩ rfl rfl rfl ?_
  refine j_rep eD13 ?_
  obtain rfl := Option.some.inj h
  exact j_vret C dX6_copyFrom_79
def F_X0_keep_b13 (i0 : Nat) (a1 : Nat)   (D : Dt) : Option Dt := (grd (inB (D.1 (0, i0, 0, 0) 1) 20 = true) (obd (D.2.2 (0, i0, 1, 0) ((D.1 (0, i0, 0, 0) 1).toNatClampNeg)) (fun n3 => (grd (V (6, n3, 0, 0) = true) (vbd (F_X6_copyFrom n3 a1 D) (fun D6 => (bnd (setI D6 (0, i0, 0, 0) 1 ((D6.1 (0, i0, 0, 0) 1) + (1 : Int32))) (fun D7 => (some D7)))))))))
set_option maxRecDepth 100000 in
set_option maxHeartbeats 4000000 in
theorem T_X0_keep_b13 {D' : Dt} {X : Ctx} {l : Launch} {G : Gt} {A : Nat → Prop} {lv : Nat} {i0 : Nat} {a1 : Nat}   (hG : Gok G A) (hlv : 3 ≤ lv) (hv0 : V (0, i0, 0, 0) = true) (hv1 : V (6, a1, 0, 0) = true)  (C : Cx X cX0_keep RX0 G l A lv 2 none none D')  : ∀  (D : Dt), F_X0_keep_b13 i0 a1  D = some D' → J X (Rep G D) 13 [(0, .ref (ad G (0, i0, 0, 0))), (1, .ref (ad G (6, a1, 0, 0)))] [] := by
  intro D h
  unfold F_X0_keep_b13 at h
  refine j_aload_n C 0 dX0_keep_13 rfl rfl ?_
  refine j_getS C (0, i0, 1, 0) fl_X0_11 dX0_keep_14 hv0 ⟨rfl, rfl⟩ rfl rfl ?_
  refine j_aload_n C 0 dX0_keep_17 rfl rfl ?_
  refine j_getI C fl_X0_18 dX0_keep_18 hv0 ⟨rfl, rfl⟩ rfl ?_
  obtain ⟨g2, h⟩ := grd_x h
  refine j_aaldDK C 20 ((D.1 (0, i0, 0, 0) 1).toNatClampNeg) dX0_keep_21 (V_f 0 hv0 (by decide)) rfl (fun _ => rfl) g2 rfl ?_
  refine j_aload_n C 1 dX0_keep_22 rfl rfl ?_
  obtain ⟨n3, en3, h⟩ := obd_x h
  obtain ⟨g4, h⟩ := grd_x h
  obtain ⟨D6, h5, h⟩ := vbd_x h
  refine j_st (st' := [.ref (ad G (6, a1, 0, 0)), .ref (ad G (6, n3, 0, 0))]) (by rw [en3]; rfl) ?_
  refine j_callV C [.ref (ad G (6, a1, 0, 0))] [] cl_X0_25 (M_X6_copyFrom (lv := lv - 1) hG (by omega) h5) (by omega) dX0_keep_23 g4 ⟨rfl, rfl⟩ rfl rfl (Nat.le_of_ble_eq_true rfl) ?_
  refine j_st (st' := []) rfl ?_
  refine j_aload_n C 0 dX0_keep_26 rfl rfl ?_
  refine j_dup C rfl dX0_keep_27 ?_
  refine j_getI C fl_X0_18 dX0_keep_28 hv0 ⟨rfl, rfl⟩ rfl ?_
  refine j_iconst C (1 : Int32) (by decide) dX0_keep_31 ?_
  refine j_iadd C dX0_keep_32 ?_
  obtain ⟨D7, eD7, h⟩ := bnd_x h
  refine j_putI C fl_X0_18 dX0_keep_33 hv0 ⟨rfl, rfl⟩ rfl rfl rfl ?_
  refine j_rep eD7 ?_
  obtain rfl := Option.some.inj h
  exact j_vret C dX0_keep_36
def F_X0_keep (i0 : Nat) (a1 : Nat) (D : Dt) : Option Dt := (grd (V (0, i0, 0, 0) = true) (grd (V (6, a1, 0, 0) = true) (if (D.1 (0, i0, 0, 0) 1) < (20 : Int32) then (F_X0_keep_b13 i0 a1  D) else (vbd (F_X0_forgetFirst i0 D) (fun D9 => (F_X0_keep_b13 i0 a1  D9))))))
set_option maxRecDepth 100000 in
set_option maxHeartbeats 4000000 in
theorem M_X0_keep {l : Launch} {G : Gt} {A : Nat → Prop} {lv : Nat} {i0 : Nat} {a1 : Nat} {D : Dt} {D' : Dt} (hG : Gok G A) (hlv : 3 ≤ lv)  (h : F_X0_keep i0 a1 D = some D') : MD l G A lv yX0_keep cX0_keep 2 none [.ref (ad G (0, i0, 0, 0)), .ref (ad G (6, a1, 0, 0))] D none D' := by
  unfold F_X0_keep at h
  obtain ⟨hv0, h⟩ := grd_x h
  obtain ⟨hv1, h⟩ := grd_x h
  refine md_start RX0 hG (by decide +kernel) rfl (Nat.le_of_ble_eq_true rfl) (L := [(0, .ref (ad G (0, i0, 0, 0))), (1, .ref (ad G (6, a1, 0, 0)))]) rfl (fun X C => ?_)
  refine j_aload_n C 0 dX0_keep_0 rfl rfl ?_
  refine j_getI C fl_X0_18 dX0_keep_1 hv0 ⟨rfl, rfl⟩ rfl ?_
  refine j_bipush C (20 : Int32) (by decide) dX0_keep_4 ?_
  refine j_icmp_lt C 13 dX0_keep_6 (by decide) (fun c1 => ?_) (fun c1 => ?_)
  · have h := ite_t c1 h
    refine T_X0_keep_b13 hG hlv hv0 hv1 C   D h
  · have h := ite_f c1 h
    refine j_aload_n C 0 dX0_keep_9 rfl rfl ?_
    obtain ⟨D9, h8, h⟩ := vbd_x h
    refine j_callV C [] [] cl_X0_22 (M_X0_forgetFirst (lv := lv - 1) hG (by omega) h8) (by omega) dX0_keep_10 hv0 ⟨rfl, rfl⟩ rfl rfl (Nat.le_of_ble_eq_true rfl) ?_
    refine j_st (st' := []) rfl ?_
    refine T_X0_keep_b13 hG hlv hv0 hv1 C   D9 h
def F_X0_takeBack (i0 : Nat) (a1 : Nat) (D : Dt) : Option (Int32 × Dt) := (grd (V (0, i0, 0, 0) = true) (grd (V (6, a1, 0, 0) = true) (if (1 : Int32) ≤ (D.1 (0, i0, 0, 0) 1) then (bnd (setI D (0, i0, 0, 0) 1 ((D.1 (0, i0, 0, 0) 1) - (1 : Int32))) (fun D2 => (grd (inB (D2.1 (0, i0, 0, 0) 1) 20 = true) (obd (D2.2.2 (0, i0, 1, 0) ((D2.1 (0, i0, 0, 0) 1).toNatClampNeg)) (fun n4 => (grd (V (6, n4, 0, 0) = true) (vbd (F_X6_copyFrom a1 n4 D2) (fun D7 => (some ((1 : Int32), D7)))))))))) else (some ((0 : Int32), D)))))
set_option maxRecDepth 100000 in
set_option maxHeartbeats 4000000 in
theorem M_X0_takeBack {l : Launch} {G : Gt} {A : Nat → Prop} {lv : Nat} {i0 : Nat} {a1 : Nat} {D : Dt} {r : Int32} {D' : Dt} (hG : Gok G A) (hlv : 3 ≤ lv)  (h : F_X0_takeBack i0 a1 D = some (r, D')) : MD l G A lv yX0_takeBack cX0_takeBack 2 (some .boolean) [.ref (ad G (0, i0, 0, 0)), .ref (ad G (6, a1, 0, 0))] D (some (.int r)) D' := by
  unfold F_X0_takeBack at h
  obtain ⟨hv0, h⟩ := grd_x h
  obtain ⟨hv1, h⟩ := grd_x h
  refine md_start RX0 hG (by decide +kernel) rfl (Nat.le_of_ble_eq_true rfl) (L := [(0, .ref (ad G (0, i0, 0, 0))), (1, .ref (ad G (6, a1, 0, 0)))]) rfl (fun X C => ?_)
  refine j_aload_n C 0 dX0_takeBack_0 rfl rfl ?_
  refine j_getI C fl_X0_18 dX0_takeBack_1 hv0 ⟨rfl, rfl⟩ rfl ?_
  refine j_iconst C (1 : Int32) (by decide) dX0_takeBack_4 ?_
  refine j_icmp_ge C 10 dX0_takeBack_5 (by decide) (fun c1 => ?_) (fun c1 => ?_)
  · have h := ite_t c1 h
    refine j_aload_n C 0 dX0_takeBack_10 rfl rfl ?_
    refine j_dup C rfl dX0_takeBack_11 ?_
    refine j_getI C fl_X0_18 dX0_takeBack_12 hv0 ⟨rfl, rfl⟩ rfl ?_
    refine j_iconst C (1 : Int32) (by decide) dX0_takeBack_15 ?_
    refine j_isub C dX0_takeBack_16 ?_
    obtain ⟨D2, eD2, h⟩ := bnd_x h
    refine j_putI C fl_X0_18 dX0_takeBack_17 hv0 ⟨rfl, rfl⟩ rfl rfl rfl ?_
    refine j_rep eD2 ?_
    refine j_aload_n C 1 dX0_takeBack_20 rfl rfl ?_
    refine j_aload_n C 0 dX0_takeBack_21 rfl rfl ?_
    refine j_getS C (0, i0, 1, 0) fl_X0_11 dX0_takeBack_22 hv0 ⟨rfl, rfl⟩ rfl rfl ?_
    refine j_aload_n C 0 dX0_takeBack_25 rfl rfl ?_
    refine j_getI C fl_X0_18 dX0_takeBack_26 hv0 ⟨rfl, rfl⟩ rfl ?_
    obtain ⟨g3, h⟩ := grd_x h
    refine j_aaldDK C 20 ((D2.1 (0, i0, 0, 0) 1).toNatClampNeg) dX0_takeBack_29 (V_f 0 hv0 (by decide)) rfl (fun _ => rfl) g3 rfl ?_
    obtain ⟨n4, en4, h⟩ := obd_x h
    obtain ⟨g5, h⟩ := grd_x h
    obtain ⟨D7, h6, h⟩ := vbd_x h
    refine j_st (st' := [.ref (ad G (6, n4, 0, 0)), .ref (ad G (6, a1, 0, 0))]) (by rw [en4]; rfl) ?_
    refine j_callV C [.ref (ad G (6, n4, 0, 0))] [] cl_X0_25 (M_X6_copyFrom (lv := lv - 1) hG (by omega) h6) (by omega) dX0_takeBack_30 hv1 ⟨rfl, rfl⟩ rfl rfl (Nat.le_of_ble_eq_true rfl) ?_
    refine j_st (st' := []) rfl ?_
    refine j_iconst C (1 : Int32) (by decide) dX0_takeBack_33 ?_
    obtain ⟨rfl, rfl⟩ := pr_x h
    exact j_zret C (Or.inr rfl) dX0_takeBack_34
  · have h := ite_f c1 h
    refine j_iconst C (0 : Int32) (by decide) dX0_takeBack_8 ?_
    obtain ⟨rfl, rfl⟩ := pr_x h
    exact j_zret C (Or.inl rfl) dX0_takeBack_9
def F_X0_copyFrom_b10 (i0 : Nat) (a1 : Nat)  : Nat → Int32 → Dt → Option Dt
  | 0, _, _ => none
  | f + 1, l2, D => (if (D.1 (0, i0, 0, 0) 1) ≤ l2 then (some D) else (grd (inB l2 20 = true) (obd (D.2.2 (0, i0, 1, 0) (l2.toNatClampNeg)) (fun n4 => (grd (V (6, n4, 0, 0) = true) (obd (D.2.2 (0, a1, 1, 0) (l2.toNatClampNeg)) (fun n6 => (grd (V (6, n6, 0, 0) = true) (vbd (F_X6_copyFrom n4 n6 D) (fun D9 => (bnd (l2 + (1 : Int32)) (fun v10 => (F_X0_copyFrom_b10 i0 a1 f v10 D9)))))))))))))
set_option maxRecDepth 100000 in
set_option maxHeartbeats 4000000 in
theorem T_X0_copyFrom_b10 {D' : Dt} {X : Ctx} {l : Launch} {G : Gt} {A : Nat → Prop} {lv : Nat} {i0 : Nat} {a1 : Nat}   (hG : Gok G A) (hlv : 3 ≤ lv) (hv0 : V (0, i0, 0, 0) = true) (hv1 : V (0, a1, 0, 0) = true)  (C : Cx X cX0_copyFrom RX0 G l A lv 3 none none D')  : ∀ (f : Nat) (l2 : Int32) (D : Dt), F_X0_copyFrom_b10 i0 a1 f l2 D = some D' → J X (Rep G D) 10 [(0, .ref (ad G (0, i0, 0, 0))), (1, .ref (ad G (0, a1, 0, 0))), (2, .int l2)] [] := by
  intro f
  induction f with
  | zero =>
    intro l2 D h
    exact nomatch h
  | succ f ih =>
    intro l2 D h
    rw [F_X0_copyFrom_b10] at h
    refine j_iload_n C 2 dX0_copyFrom_10 rfl rfl ?_
    refine j_aload_n C 0 dX0_copyFrom_11 rfl rfl ?_
    refine j_getI C fl_X0_18 dX0_copyFrom_12 hv0 ⟨rfl, rfl⟩ rfl ?_
    refine j_icmp_ge C 39 dX0_copyFrom_15 (by decide) (fun c2 => ?_) (fun c2 => ?_)
    · have h := ite_t c2 h
      obtain rfl := Option.some.inj h
      exact j_vret C dX0_copyFrom_39
    · have h := ite_f c2 h
      refine j_aload_n C 0 dX0_copyFrom_18 rfl rfl ?_
      refine j_getS C (0, i0, 1, 0) fl_X0_11 dX0_copyFrom_19 hv0 ⟨rfl, rfl⟩ rfl rfl ?_
      refine j_iload_n C 2 dX0_copyFrom_22 rfl rfl ?_
      obtain ⟨g3, h⟩ := grd_x h
      refine j_aaldDK C 20 (l2.toNatClampNeg) dX0_copyFrom_23 (V_f 0 hv0 (by decide)) rfl (fun _ => rfl) g3 rfl ?_
      refine j_aload_n C 1 dX0_copyFrom_24 rfl rfl ?_
      refine j_getS C (0, a1, 1, 0) fl_X0_11 dX0_copyFrom_25 hv1 ⟨rfl, rfl⟩ rfl rfl ?_
      refine j_iload_n C 2 dX0_copyFrom_28 rfl rfl ?_
      refine j_aaldDK C 20 (l2.toNatClampNeg) dX0_copyFrom_29 (V_f 0 hv1 (by decide)) rfl (fun _ => rfl) g3 rfl ?_
      obtain ⟨n4, en4, h⟩ := obd_x h
      obtain ⟨g5, h⟩ := grd_x h
      obtain ⟨n6, en6, h⟩ := obd_x h
      obtain ⟨g7, h⟩ := grd_x h
      obtain ⟨D9, h8, h⟩ := vbd_x h
      refine j_st (st' := [.ref (ad G (6, n6, 0, 0)), .ref (ad G (6, n4, 0, 0))]) (by rw [en4, en6]; rfl) ?_
      refine j_callV C [.ref (ad G (6, n6, 0, 0))] [] cl_X0_25 (M_X6_copyFrom (lv := lv - 1) hG (by omega) h8) (by omega) dX0_copyFrom_30 g5 ⟨rfl, rfl⟩ rfl rfl (Nat.le_of_ble_eq_true rfl) ?_
      refine j_st (st' := []) rfl ?_
      obtain ⟨v10, ev10, h⟩ := bnd_x h
      refine j_iinc C 2 [(2, .int v10), (0, .ref (ad G (0, i0, 0, 0))), (1, .ref (ad G (0, a1, 0, 0)))] dX0_copyFrom_33 rfl (Nat.le_of_ble_eq_true rfl) (ev10.trans (congrArg (l2 + ·) (by decide))) rfl ?_
      refine j_goto C 10 dX0_copyFrom_36 (by decide) ?_
      refine j_sub [1, 2, 0] [(0, .ref (ad G (0, i0, 0, 0))), (1, .ref (ad G (0, a1, 0, 0))), (2, .int v10)] rfl ?_
      exact ih v10 D9 h
def F_X0_copyFrom (i0 : Nat) (a1 : Nat) (D : Dt) : Option Dt := (grd (V (0, i0, 0, 0) = true) (grd (V (0, a1, 0, 0) = true) (bnd (setI D (0, i0, 0, 0) 1 (D.1 (0, a1, 0, 0) 1)) (fun D1 => (F_X0_copyFrom_b10 i0 a1 2000 (0 : Int32) D1)))))
set_option maxRecDepth 100000 in
set_option maxHeartbeats 4000000 in
theorem M_X0_copyFrom {l : Launch} {G : Gt} {A : Nat → Prop} {lv : Nat} {i0 : Nat} {a1 : Nat} {D : Dt} {D' : Dt} (hG : Gok G A) (hlv : 3 ≤ lv)  (h : F_X0_copyFrom i0 a1 D = some D') : MD l G A lv yX0_copyFrom cX0_copyFrom 3 none [.ref (ad G (0, i0, 0, 0)), .ref (ad G (0, a1, 0, 0))] D none D' := by
  unfold F_X0_copyFrom at h
  obtain ⟨hv0, h⟩ := grd_x h
  obtain ⟨hv1, h⟩ := grd_x h
  refine md_start RX0 hG (by decide +kernel) rfl (Nat.le_of_ble_eq_true rfl) (L := [(0, .ref (ad G (0, i0, 0, 0))), (1, .ref (ad G (0, a1, 0, 0)))]) rfl (fun X C => ?_)
  refine j_aload_n C 0 dX0_copyFrom_0 rfl rfl ?_
  refine j_aload_n C 1 dX0_copyFrom_1 rfl rfl ?_
  refine j_getI C fl_X0_18 dX0_copyFrom_2 hv1 ⟨rfl, rfl⟩ rfl ?_
  obtain ⟨D1, eD1, h⟩ := bnd_x h
  refine j_putI C fl_X0_18 dX0_copyFrom_5 hv0 ⟨rfl, rfl⟩ rfl rfl rfl ?_
  refine j_rep eD1 ?_
  refine j_iconst C (0 : Int32) (by decide) dX0_copyFrom_8 ?_
  refine j_istore_n C [(2, .int (0 : Int32)), (0, .ref (ad G (0, i0, 0, 0))), (1, .ref (ad G (0, a1, 0, 0)))] dX0_copyFrom_9 rfl (Nat.le_of_ble_eq_true rfl) rfl rfl ?_
  refine j_sub [1, 2, 0] [(0, .ref (ad G (0, i0, 0, 0))), (1, .ref (ad G (0, a1, 0, 0))), (2, .int (0 : Int32))] rfl ?_
  refine T_X0_copyFrom_b10 hG hlv hv0 hv1 C  2000 (0 : Int32) D1 h
def F_X10_within (a1 : Int32) (a2 : Int32) (a3 : Int32) (D : Dt) : Option (Int32 × Dt) := (if a1 < a2 then (some ((0 : Int32), D)) else (if a3 < a1 then (some ((0 : Int32), D)) else (some ((1 : Int32), D))))
set_option maxRecDepth 100000 in
set_option maxHeartbeats 4000000 in
theorem M_X10_within {l : Launch} {G : Gt} {A : Nat → Prop} {lv : Nat} {a1 : Int32} {a2 : Int32} {a3 : Int32} {D : Dt} {r : Int32} {D' : Dt} (hG : Gok G A) (hlv : 1 ≤ lv)  (h : F_X10_within a1 a2 a3 D = some (r, D')) : MD l G A lv yX10_within cX10_within 3 (some .boolean) [.int a1, .int a2, .int a3] D (some (.int r)) D' := by
  unfold F_X10_within at h
  refine md_start RX10 hG (by decide +kernel) rfl (Nat.le_of_ble_eq_true rfl) (L := [(0, .int a1), (1, .int a2), (2, .int a3)]) rfl (fun X C => ?_)
  refine j_iload_n C 0 dX10_within_0 rfl rfl ?_
  refine j_iload_n C 1 dX10_within_1 rfl rfl ?_
  refine j_icmp_lt C 14 dX10_within_2 (by decide) (fun c1 => ?_) (fun c1 => ?_)
  · have h := ite_t c1 h
    refine j_iconst C (0 : Int32) (by decide) dX10_within_14 ?_
    obtain ⟨rfl, rfl⟩ := pr_x h
    exact j_zret C (Or.inl rfl) dX10_within_15
  · have h := ite_f c1 h
    refine j_iload_n C 0 dX10_within_5 rfl rfl ?_
    refine j_iload_n C 2 dX10_within_6 rfl rfl ?_
    refine j_icmp_gt C 14 dX10_within_7 (by decide) (fun c2 => ?_) (fun c2 => ?_)
    · have h := ite_t c2 h
      refine j_iconst C (0 : Int32) (by decide) dX10_within_14 ?_
      obtain ⟨rfl, rfl⟩ := pr_x h
      exact j_zret C (Or.inl rfl) dX10_within_15
    · have h := ite_f c2 h
      refine j_iconst C (1 : Int32) (by decide) dX10_within_10 ?_
      refine j_goto C 15 dX10_within_11 (by decide) ?_
      obtain ⟨rfl, rfl⟩ := pr_x h
      exact j_zret C (Or.inr rfl) dX10_within_15
def F_X10_ruleOf (a2 : Int32) (D : Dt) : Option (Option Nat × Dt) := (cbd (F_X10_within a2 (0 : Int32) ((6 : Int32) - (1 : Int32)) D) (fun r2 D3 => (if r2 = 0 then (some (none, D3)) else (grd (inB a2 6 = true) (some (some a2.toNatClampNeg, D3))))))
set_option maxRecDepth 100000 in
set_option maxHeartbeats 4000000 in
theorem M_X10_ruleOf {l : Launch} {G : Gt} {A : Nat → Prop} {lv : Nat} {a2 : Int32} {D : Dt} {r : Option Nat} {D' : Dt} (hG : Gok G A) (hlv : 2 ≤ lv)  (h : F_X10_ruleOf a2 D = some (r, D')) : MD l G A lv yX10_ruleOf cX10_ruleOf 2 (some (.object "SunTable$Rule")) [.ref (ad G (10, 0, 5, 0)), .int a2] D (some (va_rf (Option.map (fun n => ad G (3, n, 0, 0)) r))) D' := by
  unfold F_X10_ruleOf at h
  refine md_start RX10 hG (by decide +kernel) rfl (Nat.le_of_ble_eq_true rfl) (L := [(0, .ref (ad G (10, 0, 5, 0))), (1, .int a2)]) rfl (fun X C => ?_)
  refine j_iload_n C 1 dX10_ruleOf_0 rfl rfl ?_
  refine j_iconst C (0 : Int32) (by decide) dX10_ruleOf_1 ?_
  refine j_aload_n C 0 dX10_ruleOf_2 rfl rfl ?_
  refine j_alen C (6 : Int32) dX10_ruleOf_3 (by decide) rfl (by decide) (by decide) ?_
  refine j_iconst C (1 : Int32) (by decide) dX10_ruleOf_4 ?_
  refine j_isub C dX10_ruleOf_5 ?_
  obtain ⟨r2, D3, h1, h⟩ := cbd_x h
  refine j_callS C [.int a2, .int (0 : Int32), .int ((6 : Int32) - (1 : Int32))] [] cl_X10_85 (M_X10_within (lv := lv - 1) hG (by omega) h1) (by omega) dX10_ruleOf_6 rfl rfl (Nat.le_of_ble_eq_true rfl) ?_
  refine j_st (st' := [.int r2]) rfl ?_
  refine j_if_eq C 18 dX10_ruleOf_9 (by decide) (fun c4 => ?_) (fun c4 => ?_)
  · have h := ite_t c4 h
    refine j_null C dX10_ruleOf_18 ?_
    obtain ⟨rfl, rfl⟩ := pr_x h
    exact j_aret C (Or.inl rfl) dX10_ruleOf_19
  · have h := ite_f c4 h
    refine j_aload_n C 0 dX10_ruleOf_12 rfl rfl ?_
    refine j_iload_n C 1 dX10_ruleOf_13 rfl rfl ?_
    obtain ⟨g5, h⟩ := grd_x h
    refine j_aald C 5 6 (3, a2.toNatClampNeg, 0, 0) dX10_ruleOf_14 (by decide) rfl (by decide) g5 rfl ?_
    refine j_goto C 19 dX10_ruleOf_15 (by decide) ?_
    obtain ⟨rfl, rfl⟩ := pr_x h
    exact j_aret C (Or.inr ⟨_, rfl⟩) dX10_ruleOf_19
def F_X8_follow (i0 : Nat) (a1 : Nat) (a2 : Option Nat) (D : Dt) : Option Dt := (grd (V (8, i0, 0, 0) = true) (grd (V (5, a1, 0, 0) = true) (bnd (setR D (8, i0, 0, 0) 0 (some a1)) (fun D1 => (bnd (setR D1 (8, i0, 0, 0) 1 a2) (fun D2 => (bnd (setI D2 (8, i0, 0, 0) 2 (0 : Int32)) (fun D3 => (bnd (setI D3 (8, i0, 0, 0) 3 (0 : Int32)) (fun D4 => (bnd (setI D4 (8, i0, 0, 0) 4 (-1 : Int32)) (fun D5 => (bnd (setI D5 (8, i0, 0, 0) 5 (-1 : Int32)) (fun D6 => (bnd (setI D6 (8, i0, 0, 0) 6 (0 : Int32)) (fun D7 => (bnd (setI D7 (8, i0, 0, 0) 7 (0 : Int32)) (fun D8 => (some D8)))))))))))))))))))
set_option maxRecDepth 100000 in
set_option maxHeartbeats 4000000 in
theorem M_X8_follow {l : Launch} {G : Gt} {A : Nat → Prop} {lv : Nat} {i0 : Nat} {a1 : Nat} {a2 : Option Nat} {D : Dt} {D' : Dt} (hG : Gok G A) (hlv : 1 ≤ lv)  (h : F_X8_follow i0 a1 a2 D = some D') : MD l G A lv yX8_follow cX8_follow 3 none [.ref (ad G (8, i0, 0, 0)), .ref (ad G (5, a1, 0, 0)), va_rf (Option.map (fun n => ad G (3, n, 0, 0)) a2)] D none D' := by
  cases a2 with
  | none =>
    unfold F_X8_follow at h
    obtain ⟨hv0, h⟩ := grd_x h
    obtain ⟨hv1, h⟩ := grd_x h
    refine md_start RX8 hG (by decide +kernel) rfl (Nat.le_of_ble_eq_true rfl) (L := [(0, .ref (ad G (8, i0, 0, 0))), (1, .ref (ad G (5, a1, 0, 0))), (2, va_rf (Option.map (fun n => ad G (3, n, 0, 0)) none))]) rfl (fun X C => ?_)
    refine j_aload_n C 0 dX8_follow_0 rfl rfl ?_
    refine j_aload_n C 1 dX8_follow_1 rfl rfl ?_
    obtain ⟨D1, eD1, h⟩ := bnd_x h
    refine j_putR C (v := (some a1)) 5 fl_X8_15 dX8_follow_2 hv0 ⟨rfl, rfl⟩ rfl rfl rfl rfl ?_
    refine j_rep eD1 ?_
    refine j_aload_n C 0 dX8_follow_5 rfl rfl ?_
    refine j_aloadO_n C 2 dX8_follow_6 rfl rfl ?_
    obtain ⟨D2, eD2, h⟩ := bnd_x h
    refine j_putR C (v := none) 3 fl_X8_19 dX8_follow_7 hv0 ⟨rfl, rfl⟩ rfl rfl rfl rfl ?_
    refine j_rep eD2 ?_
    refine j_aload_n C 0 dX8_follow_10 rfl rfl ?_
    refine j_iconst C (0 : Int32) (by decide) dX8_follow_11 ?_
    obtain ⟨D3, eD3, h⟩ := bnd_x h
    refine j_putI C fl_X8_23 dX8_follow_12 hv0 ⟨rfl, rfl⟩ rfl rfl rfl ?_
    refine j_rep eD3 ?_
    refine j_aload_n C 0 dX8_follow_15 rfl rfl ?_
    refine j_iconst C (0 : Int32) (by decide) dX8_follow_16 ?_
    obtain ⟨D4, eD4, h⟩ := bnd_x h
    refine j_putI C fl_X8_27 dX8_follow_17 hv0 ⟨rfl, rfl⟩ rfl rfl rfl ?_
    refine j_rep eD4 ?_
    refine j_aload_n C 0 dX8_follow_20 rfl rfl ?_
    refine j_iconst C (-1 : Int32) (by decide) dX8_follow_21 ?_
    obtain ⟨D5, eD5, h⟩ := bnd_x h
    refine j_putI C fl_X8_30 dX8_follow_22 hv0 ⟨rfl, rfl⟩ rfl rfl rfl ?_
    refine j_rep eD5 ?_
    refine j_aload_n C 0 dX8_follow_25 rfl rfl ?_
    refine j_iconst C (-1 : Int32) (by decide) dX8_follow_26 ?_
    obtain ⟨D6, eD6, h⟩ := bnd_x h
    refine j_putI C fl_X8_33 dX8_follow_27 hv0 ⟨rfl, rfl⟩ rfl rfl rfl ?_
    refine j_rep eD6 ?_
    refine j_aload_n C 0 dX8_follow_30 rfl rfl ?_
    refine j_iconst C (0 : Int32) (by decide) dX8_follow_31 ?_
    obtain ⟨D7, eD7, h⟩ := bnd_x h
    refine j_putZ C fl_X8_36 dX8_follow_32 hv0 ⟨rfl, rfl⟩ rfl rfl rfl (Or.inl rfl) ?_
    refine j_rep eD7 ?_
    refine j_aload_n C 0 dX8_follow_35 rfl rfl ?_
    refine j_iconst C (0 : Int32) (by decide) dX8_follow_36 ?_
    obtain ⟨D8, eD8, h⟩ := bnd_x h
    refine j_putI C fl_X8_40 dX8_follow_37 hv0 ⟨rfl, rfl⟩ rfl rfl rfl ?_
    refine j_rep eD8 ?_
    obtain rfl := Option.some.inj h
    exact j_vret C dX8_follow_40
  | some z =>
    unfold F_X8_follow at h
    obtain ⟨hv0, h⟩ := grd_x h
    obtain ⟨hv1, h⟩ := grd_x h
    refine md_start RX8 hG (by decide +kernel) rfl (Nat.le_of_ble_eq_true rfl) (L := [(0, .ref (ad G (8, i0, 0, 0))), (1, .ref (ad G (5, a1, 0, 0))), (2, va_rf (Option.map (fun n => ad G (3, n, 0, 0)) (some z)))]) rfl (fun X C => ?_)
    refine j_aload_n C 0 dX8_follow_0 rfl rfl ?_
    refine j_aload_n C 1 dX8_follow_1 rfl rfl ?_
    obtain ⟨D1, eD1, h⟩ := bnd_x h
    refine j_putR C (v := (some a1)) 5 fl_X8_15 dX8_follow_2 hv0 ⟨rfl, rfl⟩ rfl rfl rfl rfl ?_
    refine j_rep eD1 ?_
    refine j_aload_n C 0 dX8_follow_5 rfl rfl ?_
    refine j_aloadO_n C 2 dX8_follow_6 rfl rfl ?_
    obtain ⟨D2, eD2, h⟩ := bnd_x h
    refine j_putR C (v := (some z)) 3 fl_X8_19 dX8_follow_7 hv0 ⟨rfl, rfl⟩ rfl rfl rfl rfl ?_
    refine j_rep eD2 ?_
    refine j_aload_n C 0 dX8_follow_10 rfl rfl ?_
    refine j_iconst C (0 : Int32) (by decide) dX8_follow_11 ?_
    obtain ⟨D3, eD3, h⟩ := bnd_x h
    refine j_putI C fl_X8_23 dX8_follow_12 hv0 ⟨rfl, rfl⟩ rfl rfl rfl ?_
    refine j_rep eD3 ?_
    refine j_aload_n C 0 dX8_follow_15 rfl rfl ?_
    refine j_iconst C (0 : Int32) (by decide) dX8_follow_16 ?_
    obtain ⟨D4, eD4, h⟩ := bnd_x h
    refine j_putI C fl_X8_27 dX8_follow_17 hv0 ⟨rfl, rfl⟩ rfl rfl rfl ?_
    refine j_rep eD4 ?_
    refine j_aload_n C 0 dX8_follow_20 rfl rfl ?_
    refine j_iconst C (-1 : Int32) (by decide) dX8_follow_21 ?_
    obtain ⟨D5, eD5, h⟩ := bnd_x h
    refine j_putI C fl_X8_30 dX8_follow_22 hv0 ⟨rfl, rfl⟩ rfl rfl rfl ?_
    refine j_rep eD5 ?_
    refine j_aload_n C 0 dX8_follow_25 rfl rfl ?_
    refine j_iconst C (-1 : Int32) (by decide) dX8_follow_26 ?_
    obtain ⟨D6, eD6, h⟩ := bnd_x h
    refine j_putI C fl_X8_33 dX8_follow_27 hv0 ⟨rfl, rfl⟩ rfl rfl rfl ?_
    refine j_rep eD6 ?_
    refine j_aload_n C 0 dX8_follow_30 rfl rfl ?_
    refine j_iconst C (0 : Int32) (by decide) dX8_follow_31 ?_
    obtain ⟨D7, eD7, h⟩ := bnd_x h
    refine j_putZ C fl_X8_36 dX8_follow_32 hv0 ⟨rfl, rfl⟩ rfl rfl rfl (Or.inl rfl) ?_
    refine j_rep eD7 ?_
    refine j_aload_n C 0 dX8_follow_35 rfl rfl ?_
    refine j_iconst C (0 : Int32) (by decide) dX8_follow_36 ?_
    obtain ⟨D8, eD8, h⟩ := bnd_x h
    refine j_putI C fl_X8_40 dX8_follow_37 hv0 ⟨rfl, rfl⟩ rfl rfl rfl ?_
    refine j_rep eD8 ?_
    obtain rfl := Option.some.inj h
    exact j_vret C dX8_follow_40
def F_X1_startOn (a1 : Nat) (D : Dt) : Option Dt := (grd (V (6, a1, 0, 0) = true) (vbd (F_X6_copyFrom a1 0 D) (fun D2 => (cbd (F_X10_ruleOf (D2.1 (9, 0, 0, 0) 7) D2) (fun r4 D5 => (vbd (F_X8_follow 1 0 r4 D5) (fun D7 => (some D7))))))))
set_option maxRecDepth 100000 in
set_option maxHeartbeats 4000000 in
theorem M_X1_startOn {l : Launch} {G : Gt} {A : Nat → Prop} {lv : Nat} {a1 : Nat} {D : Dt} {D' : Dt} (hG : Gok G A) (hlv : 3 ≤ lv)  (h : F_X1_startOn a1 D = some D') : MD l G A lv yX1_startOn cX1_startOn 2 none [.ref (ad G (1, 0, 0, 0)), .ref (ad G (6, a1, 0, 0))] D none D' := by
  unfold F_X1_startOn at h
  obtain ⟨hv1, h⟩ := grd_x h
  refine md_start RX1 hG (by decide +kernel) rfl (Nat.le_of_ble_eq_true rfl) (L := [(0, .ref (ad G (1, 0, 0, 0))), (1, .ref (ad G (6, a1, 0, 0)))]) rfl (fun X C => ?_)
  refine j_aload_n C 1 dX1_startOn_0 rfl rfl ?_
  refine j_aload_n C 0 dX1_startOn_1 rfl rfl ?_
  refine j_getS C (9, 0, 0, 0) fl_X1_48 dX1_startOn_2 (by decide) ⟨rfl, rfl⟩ rfl rfl ?_
  refine j_getS C (6, 0, 0, 0) fl_X1_56 dX1_startOn_5 (by decide) ⟨rfl, rfl⟩ rfl rfl ?_
  obtain ⟨D2, h1, h⟩ := vbd_x h
  refine j_callV C [.ref (ad G (6, 0, 0, 0))] [] cl_X1_61 (M_X6_copyFrom (lv := lv - 1) hG (by omega) h1) (by omega) dX1_startOn_8 hv1 ⟨rfl, rfl⟩ rfl rfl (Nat.le_of_ble_eq_true rfl) ?_
  refine j_st (st' := []) rfl ?_
  refine j_aload_n C 0 dX1_startOn_11 rfl rfl ?_
  refine j_getS C (8, 1, 0, 0) fl_X1_12 dX1_startOn_12 (by decide) ⟨rfl, rfl⟩ rfl rfl ?_
  refine j_aload_n C 0 dX1_startOn_15 rfl rfl ?_
  refine j_getS C (9, 0, 0, 0) fl_X1_48 dX1_startOn_16 (by decide) ⟨rfl, rfl⟩ rfl rfl ?_
  refine j_getS C (5, 0, 0, 0) fl_X1_65 dX1_startOn_19 (by decide) ⟨rfl, rfl⟩ rfl rfl ?_
  refine j_aload_n C 0 dX1_startOn_22 rfl rfl ?_
  refine j_getS C (10, 0, 5, 0) fl_X1_52 dX1_startOn_23 (by decide) ⟨rfl, rfl⟩ rfl rfl ?_
  refine j_aload_n C 0 dX1_startOn_26 rfl rfl ?_
  refine j_getS C (9, 0, 0, 0) fl_X1_48 dX1_startOn_27 (by decide) ⟨rfl, rfl⟩ rfl rfl ?_
  refine j_getI C fl_X1_69 dX1_startOn_30 (by decide) ⟨rfl, rfl⟩ rfl ?_
  obtain ⟨r4, D5, h3, h⟩ := cbd_x h
  refine j_callS C [.ref (ad G (10, 0, 5, 0)), .int (D2.1 (9, 0, 0, 0) 7)] [.ref (ad G (5, 0, 0, 0)), .ref (ad G (8, 1, 0, 0))] cl_X1_73 (M_X10_ruleOf (lv := lv - 1) hG (by omega) h3) (by omega) dX1_startOn_33 rfl rfl (Nat.le_of_ble_eq_true rfl) ?_
  refine j_st (st' := [va_rf (Option.map (fun n => ad G (3, n, 0, 0)) r4), .ref (ad G (5, 0, 0, 0)), .ref (ad G (8, 1, 0, 0))]) rfl ?_
  obtain ⟨D7, h6, h⟩ := vbd_x h
  refine j_callV C [.ref (ad G (5, 0, 0, 0)), va_rf (Option.map (fun n => ad G (3, n, 0, 0)) r4)] [] cl_X1_77 (M_X8_follow (lv := lv - 1) hG (by omega) h6) (by omega) dX1_startOn_36 (by decide) ⟨rfl, rfl⟩ rfl rfl (Nat.le_of_ble_eq_true rfl) ?_
  refine j_st (st' := []) rfl ?_
  obtain rfl := Option.some.inj h
  exact j_vret C dX1_startOn_39
def F_X5_toldFor (i0 : Nat) (a1 : Int32) (a2 : Int32) (D : Dt) : Option (Int32 × Dt) := (grd (V (5, i0, 0, 0) = true) (cbd (F_X10_within a2 (0 : Int32) (60 : Int32) D) (fun r2 D3 => (if r2 = 0 then (some ((0 : Int32), D3)) else (grd (inB a1 5 = true) (grd (inB a2 61 = true) (some ((D3.1 (5, i0, 8, a1.toNatClampNeg + 1) (a2.toNatClampNeg)), D3))))))))
set_option maxRecDepth 100000 in
set_option maxHeartbeats 4000000 in
theorem M_X5_toldFor {l : Launch} {G : Gt} {A : Nat → Prop} {lv : Nat} {i0 : Nat} {a1 : Int32} {a2 : Int32} {D : Dt} {r : Int32} {D' : Dt} (hG : Gok G A) (hlv : 2 ≤ lv)  (h : F_X5_toldFor i0 a1 a2 D = some (r, D')) : MD l G A lv yX5_toldFor cX5_toldFor 3 (some .int) [.ref (ad G (5, i0, 0, 0)), .int a1, .int a2] D (some (.int r)) D' := by
  unfold F_X5_toldFor at h
  obtain ⟨hv0, h⟩ := grd_x h
  refine md_start RX5 hG (by decide +kernel) rfl (Nat.le_of_ble_eq_true rfl) (L := [(0, .ref (ad G (5, i0, 0, 0))), (1, .int a1), (2, .int a2)]) rfl (fun X C => ?_)
  refine j_iload_n C 2 dX5_toldFor_0 rfl rfl ?_
  refine j_iconst C (0 : Int32) (by decide) dX5_toldFor_1 ?_
  refine j_bipush C (60 : Int32) (by decide) dX5_toldFor_2 ?_
  obtain ⟨r2, D3, h1, h⟩ := cbd_x h
  refine j_callS C [.int a2, .int (0 : Int32), .int (60 : Int32)] [] cl_X5_47 (M_X10_within (lv := lv - 1) hG (by omega) h1) (by omega) dX5_toldFor_4 rfl rfl (Nat.le_of_ble_eq_true rfl) ?_
  refine j_st (st' := [.int r2]) rfl ?_
  refine j_if_eq C 21 dX5_toldFor_7 (by decide) (fun c4 => ?_) (fun c4 => ?_)
  · have h := ite_t c4 h
    refine j_iconst C (0 : Int32) (by decide) dX5_toldFor_21 ?_
    obtain ⟨rfl, rfl⟩ := pr_x h
    exact j_iret C dX5_toldFor_22
  · have h := ite_f c4 h
    refine j_aload_n C 0 dX5_toldFor_10 rfl rfl ?_
    refine j_getS C (5, i0, 8, 0) fl_X5_23 dX5_toldFor_11 hv0 ⟨rfl, rfl⟩ rfl rfl ?_
    refine j_iload_n C 1 dX5_toldFor_14 rfl rfl ?_
    obtain ⟨g5, h⟩ := grd_x h
    refine j_aald C 7 5 (5, i0, 8, a1.toNatClampNeg + 1) dX5_toldFor_15 (V_f 7 hv0 (by decide)) rfl (by decide) g5 rfl ?_
    refine j_iload_n C 2 dX5_toldFor_16 rfl rfl ?_
    obtain ⟨g6, h⟩ := grd_x h
    refine j_ialdK C 61 (a2.toNatClampNeg) dX5_toldFor_17 (V_w hv0 rfl (inB_lt g5)) rfl g6 rfl ?_
    refine j_goto C 22 dX5_toldFor_18 (by decide) ?_
    obtain ⟨rfl, rfl⟩ := pr_x h
    exact j_iret C dX5_toldFor_22
def F_X6_addSun (i0 : Nat) (a1 : Int32) (a2 : Int32) (D : Dt) : Option Dt := (grd (V (6, i0, 0, 0) = true) (grd (inB a1 5 = true) (bnd (setI D (6, i0, 2, 0) (a1.toNatClampNeg) (if ((D.1 (6, i0, 2, 0) (a1.toNatClampNeg)) + a2) < (99 : Int32) then ((D.1 (6, i0, 2, 0) (a1.toNatClampNeg)) + a2) else (99 : Int32))) (fun D2 => (some D2)))))
set_option maxRecDepth 100000 in
set_option maxHeartbeats 4000000 in
theorem M_X6_addSun {l : Launch} {G : Gt} {A : Nat → Prop} {lv : Nat} {i0 : Nat} {a1 : Int32} {a2 : Int32} {D : Dt} {D' : Dt} (hG : Gok G A) (hlv : 1 ≤ lv)  (h : F_X6_addSun i0 a1 a2 D = some D') : MD l G A lv yX6_addSun cX6_addSun 3 none [.ref (ad G (6, i0, 0, 0)), .int a1, .int a2] D none D' := by
  unfold F_X6_addSun at h
  obtain ⟨hv0, h⟩ := grd_x h
  refine md_start RX6 hG (by decide +kernel) rfl (Nat.le_of_ble_eq_true rfl) (L := [(0, .ref (ad G (6, i0, 0, 0))), (1, .int a1), (2, .int a2)]) rfl (fun X C => ?_)
  refine j_aload_n C 0 dX6_addSun_0 rfl rfl ?_
  refine j_getS C (6, i0, 2, 0) fl_X6_15 dX6_addSun_1 hv0 ⟨rfl, rfl⟩ rfl rfl ?_
  refine j_iload_n C 1 dX6_addSun_4 rfl rfl ?_
  refine j_bipush C (99 : Int32) (by decide) dX6_addSun_5 ?_
  refine j_aload_n C 0 dX6_addSun_7 rfl rfl ?_
  refine j_getS C (6, i0, 2, 0) fl_X6_15 dX6_addSun_8 hv0 ⟨rfl, rfl⟩ rfl rfl ?_
  refine j_iload_n C 1 dX6_addSun_11 rfl rfl ?_
  obtain ⟨g1, h⟩ := grd_x h
  refine j_ialdK C 5 (a1.toNatClampNeg) dX6_addSun_12 (V_f 1 hv0 (by decide)) rfl g1 rfl ?_
  refine j_iload_n C 2 dX6_addSun_13 rfl rfl ?_
  refine j_iadd C dX6_addSun_14 ?_
  refine j_min C km_X6_62 (by omega) (Nat.le_of_ble_eq_true rfl) dX6_addSun_15 ?_
  obtain ⟨D2, eD2, h⟩ := bnd_x h
  refine j_iastK C 5 (a1.toNatClampNeg) dX6_addSun_18 (V_f 1 hv0 (by decide)) rfl g1 rfl ?_
  refine j_rep eD2 ?_
  obtain rfl := Option.some.inj h
  exact j_vret C dX6_addSun_19
def F_X6_addMen (i0 : Nat) (a1 : Int32) (a2 : Int32) (D : Dt) : Option Dt := (grd (V (6, i0, 0, 0) = true) (grd (inB a1 5 = true) (bnd (setI D (6, i0, 1, 0) (a1.toNatClampNeg) (if ((D.1 (6, i0, 1, 0) (a1.toNatClampNeg)) + a2) < (999 : Int32) then ((D.1 (6, i0, 1, 0) (a1.toNatClampNeg)) + a2) else (999 : Int32))) (fun D2 => (some D2)))))
set_option maxRecDepth 100000 in
set_option maxHeartbeats 4000000 in
theorem M_X6_addMen {l : Launch} {G : Gt} {A : Nat → Prop} {lv : Nat} {i0 : Nat} {a1 : Int32} {a2 : Int32} {D : Dt} {D' : Dt} (hG : Gok G A) (hlv : 1 ≤ lv)  (h : F_X6_addMen i0 a1 a2 D = some D') : MD l G A lv yX6_addMen cX6_addMen 3 none [.ref (ad G (6, i0, 0, 0)), .int a1, .int a2] D none D' := by
  unfold F_X6_addMen at h
  obtain ⟨hv0, h⟩ := grd_x h
  refine md_start RX6 hG (by decide +kernel) rfl (Nat.le_of_ble_eq_true rfl) (L := [(0, .ref (ad G (6, i0, 0, 0))), (1, .int a1), (2, .int a2)]) rfl (fun X C => ?_)
  refine j_aload_n C 0 dX6_addMen_0 rfl rfl ?_
  refine j_getS C (6, i0, 1, 0) fl_X6_9 dX6_addMen_1 hv0 ⟨rfl, rfl⟩ rfl rfl ?_
  refine j_iload_n C 1 dX6_addMen_4 rfl rfl ?_
  refine j_sipush C (999 : Int32) (by decide) dX6_addMen_5 ?_
  refine j_aload_n C 0 dX6_addMen_8 rfl rfl ?_
  refine j_getS C (6, i0, 1, 0) fl_X6_9 dX6_addMen_9 hv0 ⟨rfl, rfl⟩ rfl rfl ?_
  refine j_iload_n C 1 dX6_addMen_12 rfl rfl ?_
  obtain ⟨g1, h⟩ := grd_x h
  refine j_ialdK C 5 (a1.toNatClampNeg) dX6_addMen_13 (V_f 0 hv0 (by decide)) rfl g1 rfl ?_
  refine j_iload_n C 2 dX6_addMen_14 rfl rfl ?_
  refine j_iadd C dX6_addMen_15 ?_
  refine j_min C km_X6_62 (by omega) (Nat.le_of_ble_eq_true rfl) dX6_addMen_16 ?_
  obtain ⟨D2, eD2, h⟩ := bnd_x h
  refine j_iastK C 5 (a1.toNatClampNeg) dX6_addMen_19 (V_f 0 hv0 (by decide)) rfl g1 rfl ?_
  refine j_rep eD2 ?_
  obtain rfl := Option.some.inj h
  exact j_vret C dX6_addMen_20
def F_X6_moveMen (i0 : Nat) (a1 : Int32) (a2 : Int32) (a3 : Int32) (D : Dt) : Option Dt := (grd (V (6, i0, 0, 0) = true) (grd (inB a1 5 = true) (bnd (setI D (6, i0, 1, 0) (a1.toNatClampNeg) ((D.1 (6, i0, 1, 0) (a1.toNatClampNeg)) - a3)) (fun D2 => (vbd (F_X6_addMen i0 a2 a3 D2) (fun D4 => (some D4)))))))
set_option maxRecDepth 100000 in
set_option maxHeartbeats 4000000 in
theorem M_X6_moveMen {l : Launch} {G : Gt} {A : Nat → Prop} {lv : Nat} {i0 : Nat} {a1 : Int32} {a2 : Int32} {a3 : Int32} {D : Dt} {D' : Dt} (hG : Gok G A) (hlv : 2 ≤ lv)  (h : F_X6_moveMen i0 a1 a2 a3 D = some D') : MD l G A lv yX6_moveMen cX6_moveMen 4 none [.ref (ad G (6, i0, 0, 0)), .int a1, .int a2, .int a3] D none D' := by
  unfold F_X6_moveMen at h
  obtain ⟨hv0, h⟩ := grd_x h
  refine md_start RX6 hG (by decide +kernel) rfl (Nat.le_of_ble_eq_true rfl) (L := [(0, .ref (ad G (6, i0, 0, 0))), (1, .int a1), (2, .int a2), (3, .int a3)]) rfl (fun X C => ?_)
  refine j_aload_n C 0 dX6_moveMen_0 rfl rfl ?_
  refine j_getS C (6, i0, 1, 0) fl_X6_9 dX6_moveMen_1 hv0 ⟨rfl, rfl⟩ rfl rfl ?_
  refine j_iload_n C 1 dX6_moveMen_4 rfl rfl ?_
  refine j_dup2 C rfl rfl dX6_moveMen_5 ?_
  obtain ⟨g1, h⟩ := grd_x h
  refine j_ialdK C 5 (a1.toNatClampNeg) dX6_moveMen_6 (V_f 0 hv0 (by decide)) rfl g1 rfl ?_
  refine j_iload_n C 3 dX6_moveMen_7 rfl rfl ?_
  refine j_isub C dX6_moveMen_8 ?_
  obtain ⟨D2, eD2, h⟩ := bnd_x h
  refine j_iastK C 5 (a1.toNatClampNeg) dX6_moveMen_9 (V_f 0 hv0 (by decide)) rfl g1 rfl ?_
  refine j_rep eD2 ?_
  refine j_aload_n C 0 dX6_moveMen_10 rfl rfl ?_
  refine j_iload_n C 2 dX6_moveMen_11 rfl rfl ?_
  refine j_iload_n C 3 dX6_moveMen_12 rfl rfl ?_
  obtain ⟨D4, h3, h⟩ := vbd_x h
  refine j_callV C [.int a2, .int a3] [] cl_X6_59 (M_X6_addMen (lv := lv - 1) hG (by omega) h3) (by omega) dX6_moveMen_13 hv0 ⟨rfl, rfl⟩ rfl rfl (Nat.le_of_ble_eq_true rfl) ?_
  refine j_st (st' := []) rfl ?_
  obtain rfl := Option.some.inj h
  exact j_vret C dX6_moveMen_16
def F_X6_buy (i0 : Nat) (a1 : Int32) (a2 : Int32) (D : Dt) : Option Dt := (grd (V (6, i0, 0, 0) = true) (vbd (F_X6_moveMen i0 a1 a2 (D.1 (6, i0, 0, 0) 5) D) (fun D2 => (grd (inB a2 5 = true) (bnd (setI D2 (6, i0, 2, 0) (a2.toNatClampNeg) ((D2.1 (6, i0, 2, 0) (a2.toNatClampNeg)) - (1 : Int32))) (fun D4 => (vbd (F_X6_addSun i0 a1 (1 : Int32) D4) (fun D6 => (bnd (setI D6 (6, i0, 0, 0) 7 ((D6.1 (6, i0, 0, 0) 7) + (1 : Int32))) (fun D7 => (some D7)))))))))))
set_option maxRecDepth 100000 in
set_option maxHeartbeats 4000000 in
theorem M_X6_buy {l : Launch} {G : Gt} {A : Nat → Prop} {lv : Nat} {i0 : Nat} {a1 : Int32} {a2 : Int32} {D : Dt} {D' : Dt} (hG : Gok G A) (hlv : 3 ≤ lv)  (h : F_X6_buy i0 a1 a2 D = some D') : MD l G A lv yX6_buy cX6_buy 3 none [.ref (ad G (6, i0, 0, 0)), .int a1, .int a2] D none D' := by
  unfold F_X6_buy at h
  obtain ⟨hv0, h⟩ := grd_x h
  refine md_start RX6 hG (by decide +kernel) rfl (Nat.le_of_ble_eq_true rfl) (L := [(0, .ref (ad G (6, i0, 0, 0))), (1, .int a1), (2, .int a2)]) rfl (fun X C => ?_)
  refine j_aload_n C 0 dX6_buy_0 rfl rfl ?_
  refine j_iload_n C 1 dX6_buy_1 rfl rfl ?_
  refine j_iload_n C 2 dX6_buy_2 rfl rfl ?_
  refine j_aload_n C 0 dX6_buy_3 rfl rfl ?_
  refine j_getI C fl_X6_40 dX6_buy_4 hv0 ⟨rfl, rfl⟩ rfl ?_
  obtain ⟨D2, h1, h⟩ := vbd_x h
  refine j_callV C [.int a1, .int a2, .int (D.1 (6, i0, 0, 0) 5)] [] cl_X6_51 (M_X6_moveMen (lv := lv - 1) hG (by omega) h1) (by omega) dX6_buy_7 hv0 ⟨rfl, rfl⟩ rfl rfl (Nat.le_of_ble_eq_true rfl) ?_
  refine j_st (st' := []) rfl ?_
  refine j_aload_n C 0 dX6_buy_10 rfl rfl ?_
  refine j_getS C (6, i0, 2, 0) fl_X6_15 dX6_buy_11 hv0 ⟨rfl, rfl⟩ rfl rfl ?_
  refine j_iload_n C 2 dX6_buy_14 rfl rfl ?_
  refine j_dup2 C rfl rfl dX6_buy_15 ?_
  obtain ⟨g3, h⟩ := grd_x h
  refine j_ialdK C 5 (a2.toNatClampNeg) dX6_buy_16 (V_f 1 hv0 (by decide)) rfl g3 rfl ?_
  refine j_iconst C (1 : Int32) (by decide) dX6_buy_17 ?_
  refine j_isub C dX6_buy_18 ?_
  obtain ⟨D4, eD4, h⟩ := bnd_x h
  refine j_iastK C 5 (a2.toNatClampNeg) dX6_buy_19 (V_f 1 hv0 (by decide)) rfl g3 rfl ?_
  refine j_rep eD4 ?_
  refine j_aload_n C 0 dX6_buy_20 rfl rfl ?_
  refine j_iload_n C 1 dX6_buy_21 rfl rfl ?_
  refine j_iconst C (1 : Int32) (by decide) dX6_buy_22 ?_
  obtain ⟨D6, h5, h⟩ := vbd_x h
  refine j_callV C [.int a1, .int (1 : Int32)] [] cl_X6_55 (M_X6_addSun (lv := lv - 1) hG (by omega) h5) (by omega) dX6_buy_23 hv0 ⟨rfl, rfl⟩ rfl rfl (Nat.le_of_ble_eq_true rfl) ?_
  refine j_st (st' := []) rfl ?_
  refine j_aload_n C 0 dX6_buy_26 rfl rfl ?_
  refine j_dup C rfl dX6_buy_27 ?_
  refine j_getI C fl_X6_44 dX6_buy_28 hv0 ⟨rfl, rfl⟩ rfl ?_
  refine j_iconst C (1 : Int32) (by decide) dX6_buy_31 ?_
  refine j_iadd C dX6_buy_32 ?_
  obtain ⟨D7, eD7, h⟩ := bnd_x h
  refine j_putI C fl_X6_44 dX6_buy_33 hv0 ⟨rfl, rfl⟩ rfl rfl rfl ?_
  refine j_rep eD7 ?_
  obtain rfl := Option.some.inj h
  exact j_vret C dX6_buy_36
def F_X6_harvest (i0 : Nat) (a1 : Int32) (D : Dt) : Option Dt := (grd (V (6, i0, 0, 0) = true) (grd (inB a1 5 = true) (if (1 : Int32) ≤ (D.1 (6, i0, 3, 0) (a1.toNatClampNeg)) then (if (1 : Int32) ≤ (D.1 (6, i0, 2, 0) (a1.toNatClampNeg)) then (bnd (setI D (6, i0, 2, 0) (a1.toNatClampNeg) ((D.1 (6, i0, 2, 0) (a1.toNatClampNeg)) - (1 : Int32))) (fun D4 => (bnd (if (D4.1 (6, i0, 3, 0) (a1.toNatClampNeg)) < (D4.1 (6, i0, 1, 0) (a1.toNatClampNeg)) then (D4.1 (6, i0, 3, 0) (a1.toNatClampNeg)) else (D4.1 (6, i0, 1, 0) (a1.toNatClampNeg))) (fun v5 => (bnd (setI D4 (6, i0, 3, 0) (a1.toNatClampNeg) ((D4.1 (6, i0, 3, 0) (a1.toNatClampNeg)) - v5)) (fun D6 => (bnd (setI D6 (6, i0, 4, 0) (a1.toNatClampNeg) (if ((D6.1 (6, i0, 4, 0) (a1.toNatClampNeg)) + v5) < (9999 : Int32) then ((D6.1 (6, i0, 4, 0) (a1.toNatClampNeg)) + v5) else (9999 : Int32))) (fun D7 => (some D7))))))))) else (bnd (setI D (6, i0, 3, 0) (a1.toNatClampNeg) ((D.1 (6, i0, 3, 0) (a1.toNatClampNeg)) - (1 : Int32))) (fun D8 => (some D8)))) else (some D))))
set_option maxRecDepth 100000 in
set_option maxHeartbeats 4000000 in
theorem M_X6_harvest {l : Launch} {G : Gt} {A : Nat → Prop} {lv : Nat} {i0 : Nat} {a1 : Int32} {D : Dt} {D' : Dt} (hG : Gok G A) (hlv : 1 ≤ lv)  (h : F_X6_harvest i0 a1 D = some D') : MD l G A lv yX6_harvest cX6_harvest 3 none [.ref (ad G (6, i0, 0, 0)), .int a1] D none D' := by
  unfold F_X6_harvest at h
  obtain ⟨hv0, h⟩ := grd_x h
  refine md_start RX6 hG (by decide +kernel) rfl (Nat.le_of_ble_eq_true rfl) (L := [(0, .ref (ad G (6, i0, 0, 0))), (1, .int a1)]) rfl (fun X C => ?_)
  refine j_aload_n C 0 dX6_harvest_0 rfl rfl ?_
  refine j_getS C (6, i0, 3, 0) fl_X6_18 dX6_harvest_1 hv0 ⟨rfl, rfl⟩ rfl rfl ?_
  refine j_iload_n C 1 dX6_harvest_4 rfl rfl ?_
  obtain ⟨g1, h⟩ := grd_x h
  refine j_ialdK C 5 (a1.toNatClampNeg) dX6_harvest_5 (V_f 2 hv0 (by decide)) rfl g1 rfl ?_
  refine j_iconst C (1 : Int32) (by decide) dX6_harvest_6 ?_
  refine j_icmp_ge C 11 dX6_harvest_7 (by decide) (fun c2 => ?_) (fun c2 => ?_)
  · have h := ite_t c2 h
    refine j_aload_n C 0 dX6_harvest_11 rfl rfl ?_
    refine j_getS C (6, i0, 2, 0) fl_X6_15 dX6_harvest_12 hv0 ⟨rfl, rfl⟩ rfl rfl ?_
    refine j_iload_n C 1 dX6_harvest_15 rfl rfl ?_
    refine j_ialdK C 5 (a1.toNatClampNeg) dX6_harvest_16 (V_f 1 hv0 (by decide)) rfl g1 rfl ?_
    refine j_iconst C (1 : Int32) (by decide) dX6_harvest_17 ?_
    refine j_icmp_ge C 32 dX6_harvest_18 (by decide) (fun c3 => ?_) (fun c3 => ?_)
    · have h := ite_t c3 h
      refine j_aload_n C 0 dX6_harvest_32 rfl rfl ?_
      refine j_getS C (6, i0, 2, 0) fl_X6_15 dX6_harvest_33 hv0 ⟨rfl, rfl⟩ rfl rfl ?_
      refine j_iload_n C 1 dX6_harvest_36 rfl rfl ?_
      refine j_dup2 C rfl rfl dX6_harvest_37 ?_
      refine j_ialdK C 5 (a1.toNatClampNeg) dX6_harvest_38 (V_f 1 hv0 (by decide)) rfl g1 rfl ?_
      refine j_iconst C (1 : Int32) (by decide) dX6_harvest_39 ?_
      refine j_isub C dX6_harvest_40 ?_
      obtain ⟨D4, eD4, h⟩ := bnd_x h
      refine j_iastK C 5 (a1.toNatClampNeg) dX6_harvest_41 (V_f 1 hv0 (by decide)) rfl g1 rfl ?_
      refine j_rep eD4 ?_
      refine j_aload_n C 0 dX6_harvest_42 rfl rfl ?_
      refine j_getS C (6, i0, 1, 0) fl_X6_9 dX6_harvest_43 hv0 ⟨rfl, rfl⟩ rfl rfl ?_
      refine j_iload_n C 1 dX6_harvest_46 rfl rfl ?_
      refine j_ialdK C 5 (a1.toNatClampNeg) dX6_harvest_47 (V_f 0 hv0 (by decide)) rfl g1 rfl ?_
      refine j_aload_n C 0 dX6_harvest_48 rfl rfl ?_
      refine j_getS C (6, i0, 3, 0) fl_X6_18 dX6_harvest_49 hv0 ⟨rfl, rfl⟩ rfl rfl ?_
      refine j_iload_n C 1 dX6_harvest_52 rfl rfl ?_
      refine j_ialdK C 5 (a1.toNatClampNeg) dX6_harvest_53 (V_f 2 hv0 (by decide)) rfl g1 rfl ?_
      refine j_min C km_X6_62 (by omega) (Nat.le_of_ble_eq_true rfl) dX6_harvest_54 ?_
      obtain ⟨v5, ev5, h⟩ := bnd_x h
      refine j_istore_n C [(2, .int v5), (0, .ref (ad G (6, i0, 0, 0))), (1, .int a1)] dX6_harvest_57 rfl (Nat.le_of_ble_eq_true rfl) ev5 rfl ?_
      refine j_aload_n C 1 dX6_harvest_58 rfl rfl ?_
      refine j_getS C (6, i0, 3, 0) fl_X6_18 dX6_harvest_59 hv0 ⟨rfl, rfl⟩ rfl rfl ?_
      refine j_iload_n C 2 dX6_harvest_62 rfl rfl ?_
      refine j_dup2 C rfl rfl dX6_harvest_63 ?_
      refine j_ialdK C 5 (a1.toNatClampNeg) dX6_harvest_64 (V_f 2 hv0 (by decide)) rfl g1 rfl ?_
      refine j_iload_n C 0 dX6_harvest_65 rfl rfl ?_
      refine j_isub C dX6_harvest_66 ?_
      obtain ⟨D6, eD6, h⟩ := bnd_x h
      refine j_iastK C 5 (a1.toNatClampNeg) dX6_harvest_67 (V_f 2 hv0 (by decide)) rfl g1 rfl ?_
      refine j_rep eD6 ?_
      refine j_aload_n C 1 dX6_harvest_68 rfl rfl ?_
      refine j_getS C (6, i0, 4, 0) fl_X6_21 dX6_harvest_69 hv0 ⟨rfl, rfl⟩ rfl rfl ?_
      refine j_iload_n C 2 dX6_harvest_72 rfl rfl ?_
      refine j_sipush C (9999 : Int32) (by decide) dX6_harvest_73 ?_
      refine j_aload_n C 1 dX6_harvest_76 rfl rfl ?_
      refine j_getS C (6, i0, 4, 0) fl_X6_21 dX6_harvest_77 hv0 ⟨rfl, rfl⟩ rfl rfl ?_
      refine j_iload_n C 2 dX6_harvest_80 rfl rfl ?_
      refine j_ialdK C 5 (a1.toNatClampNeg) dX6_harvest_81 (V_f 3 hv0 (by decide)) rfl g1 rfl ?_
      refine j_iload_n C 0 dX6_harvest_82 rfl rfl ?_
      refine j_iadd C dX6_harvest_83 ?_
      refine j_min C km_X6_62 (by omega) (Nat.le_of_ble_eq_true rfl) dX6_harvest_84 ?_
      obtain ⟨D7, eD7, h⟩ := bnd_x h
      refine j_iastK C 5 (a1.toNatClampNeg) dX6_harvest_87 (V_f 3 hv0 (by decide)) rfl g1 rfl ?_
      refine j_rep eD7 ?_
      obtain rfl := Option.some.inj h
      exact j_vret C dX6_harvest_88
    · have h := ite_f c3 h
      refine j_aload_n C 0 dX6_harvest_21 rfl rfl ?_
      refine j_getS C (6, i0, 3, 0) fl_X6_18 dX6_harvest_22 hv0 ⟨rfl, rfl⟩ rfl rfl ?_
      refine j_iload_n C 1 dX6_harvest_25 rfl rfl ?_
      refine j_dup2 C rfl rfl dX6_harvest_26 ?_
      refine j_ialdK C 5 (a1.toNatClampNeg) dX6_harvest_27 (V_f 2 hv0 (by decide)) rfl g1 rfl ?_
      refine j_iconst C (1 : Int32) (by decide) dX6_harvest_28 ?_
      refine j_isub C dX6_harvest_29 ?_
      obtain ⟨D8, eD8, h⟩ := bnd_x h
      refine j_iastK C 5 (a1.toNatClampNeg) dX6_harvest_30 (V_f 2 hv0 (by decide)) rfl g1 rfl ?_
      refine j_rep eD8 ?_
      obtain rfl := Option.some.inj h
      exact j_vret C dX6_harvest_31
  · have h := ite_f c2 h
    obtain rfl := Option.some.inj h
    exact j_vret C dX6_harvest_10
