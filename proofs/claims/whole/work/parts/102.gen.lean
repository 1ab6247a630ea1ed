def F_X1_findRow (a1 : Int32) (a2 : Int32) (D : Dt) : Option Dt := (vbd (F_X1_startOn 106 D) (fun D2 => (bnd (setI D2 (8, 1, 0, 0) 4 a1) (fun D3 => (bnd (setI D3 (1, 0, 0, 0) 11 (-1 : Int32)) (fun D4 => (vbd (F_X1_tryRows (0 : Int32) a2 a1 D4) (fun D6 => (some D6)))))))))
set_option maxRecDepth 100000 in
set_option maxHeartbeats 4000000 in
theorem M_X1_findRow {l : Launch} {G : Gt} {A : Nat → Prop} {lv : Nat} {a1 : Int32} {a2 : Int32} {D : Dt} {D' : Dt} (hG : Gok G A) (hlv : 47 ≤ lv)  (h : F_X1_findRow a1 a2 D = some D') : MD l G A lv yX1_findRow cX1_findRow 3 none [.ref (ad G (1, 0, 0, 0)), .int a1, .int a2] D none D' := by
  unfold F_X1_findRow at h
  refine md_start RX1 hG (by decide +kernel) rfl (Nat.le_of_ble_eq_true rfl) (L := [(0, .ref (ad G (1, 0, 0, 0))), (1, .int a1), (2, .int a2)]) rfl (fun X C => ?_)
  refine j_aload_n C 0 dX1_findRow_0 rfl rfl ?_
  refine j_aload_n C 0 dX1_findRow_1 rfl rfl ?_
  refine j_getS C (1, 0, 5, 0) fl_X1_25 dX1_findRow_2 (by decide) ⟨rfl, rfl⟩ rfl rfl ?_
  refine j_iconst C (0 : Int32) (by decide) dX1_findRow_5 ?_
  refine j_aald C 8 5 (6, 106, 0, 0) dX1_findRow_6 (V_f 4 (by decide) (by decide)) rfl (by decide) (by decide) (by decide) ?_
  obtain ⟨D2, h1, h⟩ := vbd_x h
  refine j_callV C [.ref (ad G (6, 106, 0, 0))] [] cl_X1_81 (M_X1_startOn (lv := lv - 1) hG (by omega) h1) (by omega) dX1_findRow_7 (by decide) ⟨rfl, rfl⟩ rfl rfl (Nat.le_of_ble_eq_true rfl) ?_
  refine j_st (st' := []) rfl ?_
  refine j_aload_n C 0 dX1_findRow_10 rfl rfl ?_
  refine j_getS C (8, 1, 0, 0) fl_X1_12 dX1_findRow_11 (by decide) ⟨rfl, rfl⟩ rfl rfl ?_
  refine j_iload_n C 1 dX1_findRow_14 rfl rfl ?_
  obtain ⟨D3, eD3, h⟩ := bnd_x h
  refine j_putI C fl_X1_94 dX1_findRow_15 (by decide) ⟨rfl, rfl⟩ rfl rfl rfl ?_
  refine j_rep eD3 ?_
  refine j_aload_n C 0 dX1_findRow_18 rfl rfl ?_
  refine j_iconst C (-1 : Int32) (by decide) dX1_findRow_19 ?_
  obtain ⟨D4, eD4, h⟩ := bnd_x h
  refine j_putI C fl_X1_97 dX1_findRow_20 (by decide) ⟨rfl, rfl⟩ rfl rfl rfl ?_
  refine j_rep eD4 ?_
  refine j_aload_n C 0 dX1_findRow_23 rfl rfl ?_
  refine j_iconst C (0 : Int32) (by decide) dX1_findRow_24 ?_
  refine j_iload_n C 2 dX1_findRow_25 rfl rfl ?_
  refine j_iload_n C 1 dX1_findRow_26 rfl rfl ?_
  obtain ⟨D6, h5, h⟩ := vbd_x h
  refine j_callV C [.int (0 : Int32), .int a2, .int a1] [] cl_X1_100 (M_X1_tryRows (lv := lv - 1) hG (by omega) h5) (by omega) dX1_findRow_27 (by decide) ⟨rfl, rfl⟩ rfl rfl (Nat.le_of_ble_eq_true rfl) ?_
  refine j_st (st' := []) rfl ?_
  obtain rfl := Option.some.inj h
  exact j_vret C dX1_findRow_30
def F_X10_total_b4 (a1 : LA)  : Nat → Int32 → Int32 → Dt → Option (Int32 × Dt)
  | 0, _, _, _ => none
  | f + 1, l1, l2, D => (if (Int32.ofNat (lenOf a1)) ≤ l2 then (some (l1, D)) else (grd (inB l2 (lenOf a1) = true) (bnd (l1 + (D.1 a1 (l2.toNatClampNeg))) (fun v3 => (bnd (l2 + (1 : Int32)) (fun v4 => (F_X10_total_b4 a1 f v3 v4 D)))))))
set_option maxRecDepth 100000 in
set_option maxHeartbeats 4000000 in
theorem T_X10_total_b4 {r : Int32} {D' : Dt} {X : Ctx} {l : Launch} {G : Gt} {A : Nat → Prop} {lv : Nat} {a1 : LA}   (hG : Gok G A) (hlv : 1 ≤ lv) (hv1 : V a1 = true ∧ sh a1 = .inr (0, lenOf a1))  (C : Cx X cX10_total RX10 G l A lv 3 (some .int) (some (.int r)) D')  : ∀ (f : Nat) (l1 : Int32) (l2 : Int32) (D : Dt), F_X10_total_b4 a1 f l1 l2 D = some (r, D') → J X (Rep G D) 4 [(0, .ref (ad G a1)), (1, .int l1), (2, .int l2)] [] := by
  intro f
  induction f with
  | zero =>
    intro l1 l2 D h
    exact nomatch h
  | succ f ih =>
    intro l1 l2 D h
    rw [F_X10_total_b4] at h
    refine j_iload_n C 2 dX10_total_4 rfl rfl ?_
    refine j_aload_n C 0 dX10_total_5 rfl rfl ?_
    refine j_alen C (Int32.ofNat (lenOf a1)) dX10_total_6 hv1.1 hv1.2 (by decide) rfl ?_
    refine j_icmp_ge C 22 dX10_total_7 (by decide) (fun c1 => ?_) (fun c1 => ?_)
    · have h := ite_t c1 h
      refine j_iload_n C 1 dX10_total_22 rfl rfl ?_
      obtain ⟨rfl, rfl⟩ := pr_x h
      exact j_iret C dX10_total_23
    · have h := ite_f c1 h
      refine j_iload_n C 1 dX10_total_10 rfl rfl ?_
      refine j_aload_n C 0 dX10_total_11 rfl rfl ?_
      refine j_iload_n C 2 dX10_total_12 rfl rfl ?_
      obtain ⟨g2, h⟩ := grd_x h
      refine j_ialdK C (lenOf a1) (l2.toNatClampNeg) dX10_total_13 hv1.1 hv1.2 g2 rfl ?_
      refine j_iadd C dX10_total_14 ?_
      obtain ⟨v3, ev3, h⟩ := bnd_x h
      refine j_istore_n C [(1, .int v3), (0, .ref (ad G a1)), (2, .int l2)] dX10_total_15 rfl (Nat.le_of_ble_eq_true rfl) ev3 rfl ?_
      obtain ⟨v4, ev4, h⟩ := bnd_x h
      refine j_iinc C 2 [(2, .int v4), (1, .int v3), (0, .ref (ad G a1))] dX10_total_16 rfl (Nat.le_of_ble_eq_true rfl) (ev4.trans (congrArg (l2 + ·) (by decide))) rfl ?_
      refine j_goto C 4 dX10_total_19 (by decide) ?_
      refine j_sub [2, 1, 0] [(0, .ref (ad G a1)), (1, .int v3), (2, .int v4)] rfl ?_
      exact ih v3 v4 D h
def F_X10_total (a1 : LA) (D : Dt) : Option (Int32 × Dt) := (grd (V a1 = true ∧ sh a1 = .inr (0, lenOf a1)) (F_X10_total_b4 a1 2000 (0 : Int32) (0 : Int32) D))
set_option maxRecDepth 100000 in
set_option maxHeartbeats 4000000 in
theorem M_X10_total {l : Launch} {G : Gt} {A : Nat → Prop} {lv : Nat} {a1 : LA} {D : Dt} {r : Int32} {D' : Dt} (hG : Gok G A) (hlv : 1 ≤ lv)  (h : F_X10_total a1 D = some (r, D')) : MD l G A lv yX10_total cX10_total 3 (some .int) [.ref (ad G a1)] D (some (.int r)) D' := by
  unfold F_X10_total at h
  obtain ⟨hv1, h⟩ := grd_x h
  refine md_start RX10 hG (by decide +kernel) rfl (Nat.le_of_ble_eq_true rfl) (L := [(0, .ref (ad G a1))]) rfl (fun X C => ?_)
  refine j_iconst C (0 : Int32) (by decide) dX10_total_0 ?_
  refine j_istore_n C [(1, .int (0 : Int32)), (0, .ref (ad G a1))] dX10_total_1 rfl (Nat.le_of_ble_eq_true rfl) rfl rfl ?_
  refine j_iconst C (0 : Int32) (by decide) dX10_total_2 ?_
  refine j_istore_n C [(2, .int (0 : Int32)), (1, .int (0 : Int32)), (0, .ref (ad G a1))] dX10_total_3 rfl (Nat.le_of_ble_eq_true rfl) rfl rfl ?_
  refine j_sub [2, 1, 0] [(0, .ref (ad G a1)), (1, .int (0 : Int32)), (2, .int (0 : Int32))] rfl ?_
  refine T_X10_total_b4 hG hlv hv1 C  2000 (0 : Int32) (0 : Int32) D h
def F_X1_keepIfFuller (a1 : Int32) (D : Dt) : Option Dt := (cbd (F_X10_total (6, 105, 4, 0) D) (fun r2 D3 => (if r2 ≤ (D3.1 (1, 0, 0, 0) 11) then (some D3) else (bnd (setI D3 (1, 0, 0, 0) 11 r2) (fun D5 => (bnd (setI D5 (1, 0, 0, 0) 10 a1) (fun D6 => (some D6))))))))
set_option maxRecDepth 100000 in
set_option maxHeartbeats 4000000 in
theorem M_X1_keepIfFuller {l : Launch} {G : Gt} {A : Nat → Prop} {lv : Nat} {a1 : Int32} {D : Dt} {D' : Dt} (hG : Gok G A) (hlv : 2 ≤ lv)  (h : F_X1_keepIfFuller a1 D = some D') : MD l G A lv yX1_keepIfFuller cX1_keepIfFuller 3 none [.ref (ad G (1, 0, 0, 0)), .int a1] D none D' := by
  unfold F_X1_keepIfFuller at h
  refine md_start RX1 hG (by decide +kernel) rfl (Nat.le_of_ble_eq_true rfl) (L := [(0, .ref (ad G (1, 0, 0, 0))), (1, .int a1)]) rfl (fun X C => ?_)
  refine j_aload_n C 0 dX1_keepIfFuller_0 rfl rfl ?_
  refine j_getS C (6, 105, 0, 0) fl_X1_21 dX1_keepIfFuller_1 (by decide) ⟨rfl, rfl⟩ rfl rfl ?_
  refine j_getS C (6, 105, 4, 0) fl_X1_104 dX1_keepIfFuller_4 (by decide) ⟨rfl, rfl⟩ rfl rfl ?_
  obtain ⟨r2, D3, h1, h⟩ := cbd_x h
  refine j_callS C [.ref (ad G (6, 105, 4, 0))] [] cl_X1_134 (M_X10_total (lv := lv - 1) hG (by omega) h1) (by omega) dX1_keepIfFuller_7 rfl rfl (Nat.le_of_ble_eq_true rfl) ?_
  refine j_st (st' := [.int r2]) rfl ?_
  refine j_istore_n C [(2, .int r2), (0, .ref (ad G (1, 0, 0, 0))), (1, .int a1)] dX1_keepIfFuller_10 rfl (Nat.le_of_ble_eq_true rfl) rfl rfl ?_
  refine j_iload_n C 0 dX1_keepIfFuller_11 rfl rfl ?_
  refine j_aload_n C 1 dX1_keepIfFuller_12 rfl rfl ?_
  refine j_getI C fl_X1_97 dX1_keepIfFuller_13 (by decide) ⟨rfl, rfl⟩ rfl ?_
  refine j_icmp_le C 29 dX1_keepIfFuller_16 (by decide) (fun c4 => ?_) (fun c4 => ?_)
  · have h := ite_t c4 h
    obtain rfl := Option.some.inj h
    exact j_vret C dX1_keepIfFuller_29
  · have h := ite_f c4 h
    refine j_aload_n C 1 dX1_keepIfFuller_19 rfl rfl ?_
    refine j_iload_n C 0 dX1_keepIfFuller_20 rfl rfl ?_
    obtain ⟨D5, eD5, h⟩ := bnd_x h
    refine j_putI C fl_X1_97 dX1_keepIfFuller_21 (by decide) ⟨rfl, rfl⟩ rfl rfl rfl ?_
    refine j_rep eD5 ?_
    refine j_aload_n C 1 dX1_keepIfFuller_24 rfl rfl ?_
    refine j_iload_n C 2 dX1_keepIfFuller_25 rfl rfl ?_
    obtain ⟨D6, eD6, h⟩ := bnd_x h
    refine j_putI C fl_X1_138 dX1_keepIfFuller_26 (by decide) ⟨rfl, rfl⟩ rfl rfl rfl ?_
    refine j_rep eD6 ?_
    obtain rfl := Option.some.inj h
    exact j_vret C dX1_keepIfFuller_29
def F_X8_passTillBare_b2 (i0 : Nat) (a1 : Nat) (a2 : Int32)  : Nat → Int32 → Int32 → Dt → Option Dt
  | 0, _, _, _ => none
  | f + 1, l2, l3, D => (if l2 ≤ l3 then (some D) else (cbd (F_X10_total (6, a1, 3, 0) D) (fun r3 D4 => (if r3 ≤ 0 then (some D4) else (cbd (F_X8_pass i0 a1 D4) (fun r7 D8 => (bnd (l3 + (1 : Int32)) (fun v9 => (F_X8_passTillBare_b2 i0 a1 a2 f l2 v9 D8)))))))))
set_option maxRecDepth 100000 in
set_option maxHeartbeats 4000000 in
theorem T_X8_passTillBare_b2 {D' : Dt} {X : Ctx} {l : Launch} {G : Gt} {A : Nat → Prop} {lv : Nat} {i0 : Nat} {a1 : Nat} {a2 : Int32}   (hG : Gok G A) (hlv : 6 ≤ lv) (hv0 : V (8, i0, 0, 0) = true) (hv1 : V (6, a1, 0, 0) = true)  (C : Cx X cX8_passTillBare RX8 G l A lv 4 none none D')  : ∀ (f : Nat) (l2 : Int32) (l3 : Int32) (D : Dt), F_X8_passTillBare_b2 i0 a1 a2 f l2 l3 D = some D' → J X (Rep G D) 2 [(0, .ref (ad G (8, i0, 0, 0))), (1, .ref (ad G (6, a1, 0, 0))), (2, .int l2), (3, .int l3)] [] := by
  intro f
  induction f with
  | zero =>
    intro l2 l3 D h
    exact nomatch h
  | succ f ih =>
    intro l2 l3 D h
    rw [F_X8_passTillBare_b2] at h
    refine j_iload_n C 3 dX8_passTillBare_2 rfl rfl ?_
    refine j_iload_n C 2 dX8_passTillBare_3 rfl rfl ?_
    refine j_icmp_ge C 29 dX8_passTillBare_4 (by decide) (fun c1 => ?_) (fun c1 => ?_)
    · have h := ite_t c1 h
      obtain rfl := Option.some.inj h
      exact j_vret C dX8_passTillBare_29
    · have h := ite_f c1 h
      refine j_aload_n C 1 dX8_passTillBare_7 rfl rfl ?_
      refine j_getS C (6, a1, 3, 0) fl_X8_43 dX8_passTillBare_8 hv1 ⟨rfl, rfl⟩ rfl rfl ?_
      obtain ⟨r3, D4, h2, h⟩ := cbd_x h
      refine j_callS C [.ref (ad G (6, a1, 3, 0))] [] cl_X8_49 (M_X10_total (lv := lv - 1) hG (by omega) h2) (by omega) dX8_passTillBare_11 rfl rfl (Nat.le_of_ble_eq_true rfl) ?_
      refine j_st (st' := [.int r3]) rfl ?_
      refine j_if_le C 29 dX8_passTillBare_14 (by decide) (fun c5 => ?_) (fun c5 => ?_)
      · have h := ite_t c5 h
        obtain rfl := Option.some.inj h
        exact j_vret C dX8_passTillBare_29
      · have h := ite_f c5 h
        refine j_aload_n C 0 dX8_passTillBare_17 rfl rfl ?_
        refine j_aload_n C 1 dX8_passTillBare_18 rfl rfl ?_
        obtain ⟨r7, D8, h6, h⟩ := cbd_x h
        refine j_callV C [.ref (ad G (6, a1, 0, 0))] [] cl_X8_53 (M_X8_pass (lv := lv - 1) hG (by omega) h6) (by omega) dX8_passTillBare_19 hv0 ⟨rfl, rfl⟩ rfl rfl (Nat.le_of_ble_eq_true rfl) ?_
        refine j_st (st' := [.int r7]) rfl ?_
        refine j_pop C rfl dX8_passTillBare_22 ?_
        obtain ⟨v9, ev9, h⟩ := bnd_x h
        refine j_iinc C 3 [(3, .int v9), (0, .ref (ad G (8, i0, 0, 0))), (1, .ref (ad G (6, a1, 0, 0))), (2, .int l2)] dX8_passTillBare_23 rfl (Nat.le_of_ble_eq_true rfl) (ev9.trans (congrArg (l3 + ·) (by decide))) rfl ?_
        refine j_goto C 2 dX8_passTillBare_26 (by decide) ?_
        refine j_sub [1, 2, 3, 0] [(0, .ref (ad G (8, i0, 0, 0))), (1, .ref (ad G (6, a1, 0, 0))), (2, .int l2), (3, .int v9)] rfl ?_
        exact ih l2 v9 D8 h
def F_X8_passTillBare (i0 : Nat) (a1 : Nat) (a2 : Int32) (D : Dt) : Option Dt := (grd (V (8, i0, 0, 0) = true) (grd (V (6, a1, 0, 0) = true) (F_X8_passTillBare_b2 i0 a1 a2 2000 a2 (0 : Int32) D)))
set_option maxRecDepth 100000 in
set_option maxHeartbeats 4000000 in
theorem M_X8_passTillBare {l : Launch} {G : Gt} {A : Nat → Prop} {lv : Nat} {i0 : Nat} {a1 : Nat} {a2 : Int32} {D : Dt} {D' : Dt} (hG : Gok G A) (hlv : 6 ≤ lv)  (h : F_X8_passTillBare i0 a1 a2 D = some D') : MD l G A lv yX8_passTillBare cX8_passTillBare 4 none [.ref (ad G (8, i0, 0, 0)), .ref (ad G (6, a1, 0, 0)), .int a2] D none D' := by
  unfold F_X8_passTillBare at h
  obtain ⟨hv0, h⟩ := grd_x h
  obtain ⟨hv1, h⟩ := grd_x h
  refine md_start RX8 hG (by decide +kernel) rfl (Nat.le_of_ble_eq_true rfl) (L := [(0, .ref (ad G (8, i0, 0, 0))), (1, .ref (ad G (6, a1, 0, 0))), (2, .int a2)]) rfl (fun X C => ?_)
  refine j_iconst C (0 : Int32) (by decide) dX8_passTillBare_0 ?_
  refine j_istore_n C [(3, .int (0 : Int32)), (0, .ref (ad G (8, i0, 0, 0))), (1, .ref (ad G (6, a1, 0, 0))), (2, .int a2)] dX8_passTillBare_1 rfl (Nat.le_of_ble_eq_true rfl) rfl rfl ?_
  refine j_sub [1, 2, 3, 0] [(0, .ref (ad G (8, i0, 0, 0))), (1, .ref (ad G (6, a1, 0, 0))), (2, .int a2), (3, .int (0 : Int32))] rfl ?_
  refine T_X8_passTillBare_b2 hG hlv hv0 hv1 C  2000 a2 (0 : Int32) D h
def F_X1_findRate_b7 (a1 : Int32)  : Nat → Int32 → Int32 → Dt → Option Dt
  | 0, _, _, _ => none
  | f + 1, l1, l2, D => (if (9 : Int32) < l2 then (some D) else (vbd (F_X1_startOn 105 D) (fun D4 => (bnd (setI D4 (6, 105, 0, 0) 5 l2) (fun D5 => (vbd (F_X8_passTillBare 1 105 l1 D5) (fun D7 => (vbd (F_X1_keepIfFuller l2 D7) (fun D9 => (bnd (l2 + (1 : Int32)) (fun v10 => (F_X1_findRate_b7 a1 f l1 v10 D9))))))))))))
set_option maxRecDepth 100000 in
set_option maxHeartbeats 4000000 in
theorem T_X1_findRate_b7 {D' : Dt} {X : Ctx} {l : Launch} {G : Gt} {A : Nat → Prop} {lv : Nat} {a1 : Int32}   (hG : Gok G A) (hlv : 7 ≤ lv)   (C : Cx X cX1_findRate RX1 G l A lv 3 none none D')  : ∀ (f : Nat) (l1 : Int32) (l2 : Int32) (D : Dt), F_X1_findRate_b7 a1 f l1 l2 D = some D' → J X (Rep G D) 7 [(0, .ref (ad G (1, 0, 0, 0))), (1, .int l1), (2, .int l2)] [] := by
  intro f
  induction f with
  | zero =>
    intro l1 l2 D h
    exact nomatch h
  | succ f ih =>
    intro l1 l2 D h
    rw [F_X1_findRate_b7] at h
    refine j_iload_n C 2 dX1_findRate_7 rfl rfl ?_
    refine j_bipush C (9 : Int32) (by decide) dX1_findRate_8 ?_
    refine j_icmp_gt C 52 dX1_findRate_10 (by decide) (fun c2 => ?_) (fun c2 => ?_)
    · have h := ite_t c2 h
      obtain rfl := Option.some.inj h
      exact j_vret C dX1_findRate_52
    · have h := ite_f c2 h
      refine j_aload_n C 0 dX1_findRate_13 rfl rfl ?_
      refine j_aload_n C 0 dX1_findRate_14 rfl rfl ?_
      refine j_getS C (6, 105, 0, 0) fl_X1_21 dX1_findRate_15 (by decide) ⟨rfl, rfl⟩ rfl rfl ?_
      obtain ⟨D4, h3, h⟩ := vbd_x h
      refine j_callV C [.ref (ad G (6, 105, 0, 0))] [] cl_X1_81 (M_X1_startOn (lv := lv - 1) hG (by omega) h3) (by omega) dX1_findRate_18 (by decide) ⟨rfl, rfl⟩ rfl rfl (Nat.le_of_ble_eq_true rfl) ?_
      refine j_st (st' := []) rfl ?_
      refine j_aload_n C 0 dX1_findRate_21 rfl rfl ?_
      refine j_getS C (6, 105, 0, 0) fl_X1_21 dX1_findRate_22 (by decide) ⟨rfl, rfl⟩ rfl rfl ?_
      refine j_iload_n C 2 dX1_findRate_25 rfl rfl ?_
      obtain ⟨D5, eD5, h⟩ := bnd_x h
      refine j_putI C fl_X1_123 dX1_findRate_26 (by decide) ⟨rfl, rfl⟩ rfl rfl rfl ?_
      refine j_rep eD5 ?_
      refine j_aload_n C 0 dX1_findRate_29 rfl rfl ?_
      refine j_getS C (8, 1, 0, 0) fl_X1_12 dX1_findRate_30 (by decide) ⟨rfl, rfl⟩ rfl rfl ?_
      refine j_aload_n C 0 dX1_findRate_33 rfl rfl ?_
      refine j_getS C (6, 105, 0, 0) fl_X1_21 dX1_findRate_34 (by decide) ⟨rfl, rfl⟩ rfl rfl ?_
      refine j_iload_n C 1 dX1_findRate_37 rfl rfl ?_
      obtain ⟨D7, h6, h⟩ := vbd_x h
      refine j_callV C [.ref (ad G (6, 105, 0, 0)), .int l1] [] cl_X1_126 (M_X8_passTillBare (lv := lv - 1) hG (by omega) h6) (by omega) dX1_findRate_38 (by decide) ⟨rfl, rfl⟩ rfl rfl (Nat.le_of_ble_eq_true rfl) ?_
      refine j_st (st' := []) rfl ?_
      refine j_aload_n C 0 dX1_findRate_41 rfl rfl ?_
      refine j_iload_n C 2 dX1_findRate_42 rfl rfl ?_
      obtain ⟨D9, h8, h⟩ := vbd_x h
      refine j_callV C [.int l2] [] cl_X1_130 (M_X1_keepIfFuller (lv := lv - 1) hG (by omega) h8) (by omega) dX1_findRate_43 (by decide) ⟨rfl, rfl⟩ rfl rfl (Nat.le_of_ble_eq_true rfl) ?_
      refine j_st (st' := []) rfl ?_
      obtain ⟨v10, ev10, h⟩ := bnd_x h
      refine j_iinc C 2 [(2, .int v10), (0, .ref (ad G (1, 0, 0, 0))), (1, .int l1)] dX1_findRate_46 rfl (Nat.le_of_ble_eq_true rfl) (ev10.trans (congrArg (l2 + ·) (by decide))) rfl ?_
      refine j_goto C 7 dX1_findRate_49 (by decide) ?_
      refine j_sub [1, 2, 0] [(0, .ref (ad G (1, 0, 0, 0))), (1, .int l1), (2, .int v10)] rfl ?_
      exact ih l1 v10 D9 h
def F_X1_findRate (a1 : Int32) (D : Dt) : Option Dt := (bnd (setI D (1, 0, 0, 0) 11 (-1 : Int32)) (fun D1 => (F_X1_findRate_b7 a1 2000 a1 (1 : Int32) D1)))
set_option maxRecDepth 100000 in
set_option maxHeartbeats 4000000 in
theorem M_X1_findRate {l : Launch} {G : Gt} {A : Nat → Prop} {lv : Nat} {a1 : Int32} {D : Dt} {D' : Dt} (hG : Gok G A) (hlv : 7 ≤ lv)  (h : F_X1_findRate a1 D = some D') : MD l G A lv yX1_findRate cX1_findRate 3 none [.ref (ad G (1, 0, 0, 0)), .int a1] D none D' := by
  unfold F_X1_findRate at h
  refine md_start RX1 hG (by decide +kernel) rfl (Nat.le_of_ble_eq_true rfl) (L := [(0, .ref (ad G (1, 0, 0, 0))), (1, .int a1)]) rfl (fun X C => ?_)
  refine j_aload_n C 0 dX1_findRate_0 rfl rfl ?_
  refine j_iconst C (-1 : Int32) (by decide) dX1_findRate_1 ?_
  obtain ⟨D1, eD1, h⟩ := bnd_x h
  refine j_putI C fl_X1_97 dX1_findRate_2 (by decide) ⟨rfl, rfl⟩ rfl rfl rfl ?_
  refine j_rep eD1 ?_
  refine j_iconst C (1 : Int32) (by decide) dX1_findRate_5 ?_
  refine j_istore_n C [(2, .int (1 : Int32)), (0, .ref (ad G (1, 0, 0, 0))), (1, .int a1)] dX1_findRate_6 rfl (Nat.le_of_ble_eq_true rfl) rfl rfl ?_
  refine j_sub [1, 2, 0] [(0, .ref (ad G (1, 0, 0, 0))), (1, .int a1), (2, .int (1 : Int32))] rfl ?_
  refine T_X1_findRate_b7 hG hlv  C  2000 a1 (1 : Int32) D1 h
def F_X1_firstQuiet_b39  (k12 : Int32 → Int32 → Dt → Option (Int32 × Dt)) (l2 : Int32) (s0 : Int32) (D : Dt) : Option (Int32 × Dt) := (if s0 = (5 : Int32) then (some (((D.1 (6, 105, 0, 0) 6) - (5 : Int32)), D)) else (bnd (l2 + (1 : Int32)) (fun v9 => (k12 s0 v9 D))))
set_option maxRecDepth 100000 in
set_option maxHeartbeats 4000000 in
theorem T_X1_firstQuiet_b39 {r : Int32} {D' : Dt} {X : Ctx} {l : Launch} {G : Gt} {A : Nat → Prop} {lv : Nat}   {k12 : Int32 → Int32 → Dt → Option (Int32 × Dt)} (hG : Gok G A) (hlv : 6 ≤ lv)   (C : Cx X cX1_firstQuiet RX1 G l A lv 3 (some .int) (some (.int r)) D') (hk12 : ∀ (l1 : Int32) (l2 : Int32) (D : Dt), k12 l1 l2 D = some (r, D') → J X (Rep G D) 12 [(0, .ref (ad G (1, 0, 0, 0))), (1, .int l1), (2, .int l2)] []) : ∀ (l2 : Int32) (s0 : Int32) (D : Dt), F_X1_firstQuiet_b39 k12 l2 s0 D = some (r, D') → J X (Rep G D) 39 [(0, .ref (ad G (1, 0, 0, 0))), (2, .int l2)] [.int s0] := by
  intro l2 s0 D h
  unfold F_X1_firstQuiet_b39 at h
  refine j_istore_n C [(1, .int s0), (0, .ref (ad G (1, 0, 0, 0))), (2, .int l2)] dX1_firstQuiet_39 rfl (Nat.le_of_ble_eq_true rfl) rfl rfl ?_
  refine j_iload_n C 0 dX1_firstQuiet_40 rfl rfl ?_
  refine j_iconst C (5 : Int32) (by decide) dX1_firstQuiet_41 ?_
  refine j_icmp_ne C 55 dX1_firstQuiet_42 (by decide) (fun c8 => ?_) (fun c8 => ?_)
  · have h := ite_f c8 h
    obtain ⟨v9, ev9, h⟩ := bnd_x h
    refine j_iinc C 2 [(2, .int v9), (1, .int s0), (0, .ref (ad G (1, 0, 0, 0)))] dX1_firstQuiet_55 rfl (Nat.le_of_ble_eq_true rfl) (ev9.trans (congrArg (l2 + ·) (by decide))) rfl ?_
    refine j_goto C 12 dX1_firstQuiet_58 (by decide) ?_
    refine j_sub [2, 1, 0] [(0, .ref (ad G (1, 0, 0, 0))), (1, .int s0), (2, .int v9)] rfl ?_
    exact hk12 s0 v9 D h
  · have h := ite_t c8 h
    refine j_aload_n C 1 dX1_firstQuiet_45 rfl rfl ?_
    refine j_getS C (6, 105, 0, 0) fl_X1_21 dX1_firstQuiet_46 (by decide) ⟨rfl, rfl⟩ rfl rfl ?_
    refine j_getI C fl_X1_91 dX1_firstQuiet_49 (by decide) ⟨rfl, rfl⟩ rfl ?_
    refine j_iconst C (5 : Int32) (by decide) dX1_firstQuiet_52 ?_
    refine j_isub C dX1_firstQuiet_53 ?_
    obtain ⟨rfl, rfl⟩ := pr_x h
    exact j_iret C dX1_firstQuiet_54
def F_X1_firstQuiet_b12   : Nat → Int32 → Int32 → Dt → Option (Int32 × Dt)
  | 0, _, _, _ => none
  | f + 1, l1, l2, D => (if (64 : Int32) ≤ l2 then (some ((-2 : Int32), D)) else (cbd (F_X8_pass 1 105 D) (fun r5 D6 => (if r5 = 0 then (F_X1_firstQuiet_b39 (fun l1_13 l2_14 D15 => (F_X1_firstQuiet_b12  f l1_13 l2_14 D15)) l2 (l1 + (1 : Int32)) D6) else (F_X1_firstQuiet_b39 (fun l1_10 l2_11 D12 => (F_X1_firstQuiet_b12  f l1_10 l2_11 D12)) l2 (0 : Int32) D6)))))
set_option maxRecDepth 100000 in
set_option maxHeartbeats 4000000 in
theorem T_X1_firstQuiet_b12 {r : Int32} {D' : Dt} {X : Ctx} {l : Launch} {G : Gt} {A : Nat → Prop} {lv : Nat}    (hG : Gok G A) (hlv : 6 ≤ lv)   (C : Cx X cX1_firstQuiet RX1 G l A lv 3 (some .int) (some (.int r)) D')  : ∀ (f : Nat) (l1 : Int32) (l2 : Int32) (D : Dt), F_X1_firstQuiet_b12  f l1 l2 D = some (r, D') → J X (Rep G D) 12 [(0, .ref (ad G (1, 0, 0, 0))), (1, .int l1), (2, .int l2)] [] := by
  intro f
  induction f with
  | zero =>
    intro l1 l2 D h
    exact nomatch h
  | succ f ih =>
    intro l1 l2 D h
    rw [F_X1_firstQuiet_b12] at h
    refine j_iload_n C 2 dX1_firstQuiet_12 rfl rfl ?_
    refine j_bipush C (64 : Int32) (by decide) dX1_firstQuiet_13 ?_
    refine j_icmp_ge C 61 dX1_firstQuiet_15 (by decide) (fun c3 => ?_) (fun c3 => ?_)
    · have h := ite_t c3 h
      refine j_bipush C (-2 : Int32) (by decide) dX1_firstQuiet_61 ?_
      obtain ⟨rfl, rfl⟩ := pr_x h
      exact j_iret C dX1_firstQuiet_63
    · have h := ite_f c3 h
      refine j_aload_n C 0 dX1_firstQuiet_18 rfl rfl ?_
      refine j_getS C (8, 1, 0, 0) fl_X1_12 dX1_firstQuiet_19 (by decide) ⟨rfl, rfl⟩ rfl rfl ?_
      refine j_aload_n C 0 dX1_firstQuiet_22 rfl rfl ?_
      refine j_getS C (6, 105, 0, 0) fl_X1_21 dX1_firstQuiet_23 (by decide) ⟨rfl, rfl⟩ rfl rfl ?_
      obtain ⟨r5, D6, h4, h⟩ := cbd_x h
      refine j_callV C [.ref (ad G (6, 105, 0, 0))] [] cl_X1_84 (M_X8_pass (lv := lv - 1) hG (by omega) h4) (by omega) dX1_firstQuiet_26 (by decide) ⟨rfl, rfl⟩ rfl rfl (Nat.le_of_ble_eq_true rfl) ?_
      refine j_st (st' := [.int r5]) rfl ?_
      refine j_if_ne C 38 dX1_firstQuiet_29 (by decide) (fun c7 => ?_) (fun c7 => ?_)
      · have h := ite_f c7 h
        refine j_iconst C (0 : Int32) (by decide) dX1_firstQuiet_38 ?_
        refine j_sub [0, 2] [(0, .ref (ad G (1, 0, 0, 0))), (2, .int l2)] rfl ?_
        refine T_X1_firstQuiet_b39 hG hlv  C (fun l1_10 l2_11 D12 h => ?_) l2 (0 : Int32) D6 h
        · exact ih l1_10 l2_11 D12 h
      · have h := ite_t c7 h
        refine j_iload_n C 1 dX1_firstQuiet_32 rfl rfl ?_
        refine j_iconst C (1 : Int32) (by decide) dX1_firstQuiet_33 ?_
        refine j_iadd C dX1_firstQuiet_34 ?_
        refine j_goto C 39 dX1_firstQuiet_35 (by decide) ?_
        refine j_sub [0, 2] [(0, .ref (ad G (1, 0, 0, 0))), (2, .int l2)] rfl ?_
        refine T_X1_firstQuiet_b39 hG hlv  C (fun l1_13 l2_14 D15 h => ?_) l2 (l1 + (1 : Int32)) D6 h
        · exact ih l1_13 l2_14 D15 h
def F_X1_firstQuiet  (D : Dt) : Option (Int32 × Dt) := (vbd (F_X1_startOn 105 D) (fun D2 => (F_X1_firstQuiet_b12  2000 (0 : Int32) (0 : Int32) D2)))
set_option maxRecDepth 100000 in
set_option maxHeartbeats 4000000 in
theorem M_X1_firstQuiet {l : Launch} {G : Gt} {A : Nat → Prop} {lv : Nat}  {D : Dt} {r : Int32} {D' : Dt} (hG : Gok G A) (hlv : 6 ≤ lv)  (h : F_X1_firstQuiet  D = some (r, D')) : MD l G A lv yX1_firstQuiet cX1_firstQuiet 3 (some .int) [.ref (ad G (1, 0, 0, 0))] D (some (.int r)) D' := by
  unfold F_X1_firstQuiet at h
  refine md_start RX1 hG (by decide +kernel) rfl (Nat.le_of_ble_eq_true rfl) (L := [(0, .ref (ad G (1, 0, 0, 0)))]) rfl (fun X C => ?_)
  refine j_aload_n C 0 dX1_firstQuiet_0 rfl rfl ?_
  refine j_aload_n C 0 dX1_firstQuiet_1 rfl rfl ?_
  refine j_getS C (6, 105, 0, 0) fl_X1_21 dX1_firstQuiet_2 (by decide) ⟨rfl, rfl⟩ rfl rfl ?_
  obtain ⟨D2, h1, h⟩ := vbd_x h
  refine j_callV C [.ref (ad G (6, 105, 0, 0))] [] cl_X1_81 (M_X1_startOn (lv := lv - 1) hG (by omega) h1) (by omega) dX1_firstQuiet_5 (by decide) ⟨rfl, rfl⟩ rfl rfl (Nat.le_of_ble_eq_true rfl) ?_
  refine j_st (st' := []) rfl ?_
  refine j_iconst C (0 : Int32) (by decide) dX1_firstQuiet_8 ?_
  refine j_istore_n C [(1, .int (0 : Int32)), (0, .ref (ad G (1, 0, 0, 0)))] dX1_firstQuiet_9 rfl (Nat.le_of_ble_eq_true rfl) rfl rfl ?_
  refine j_iconst C (0 : Int32) (by decide) dX1_firstQuiet_10 ?_
  refine j_istore_n C [(2, .int (0 : Int32)), (1, .int (0 : Int32)), (0, .ref (ad G (1, 0, 0, 0)))] dX1_firstQuiet_11 rfl (Nat.le_of_ble_eq_true rfl) rfl rfl ?_
  refine j_sub [2, 1, 0] [(0, .ref (ad G (1, 0, 0, 0))), (1, .int (0 : Int32)), (2, .int (0 : Int32))] rfl ?_
  refine T_X1_firstQuiet_b12 hG hlv  C  2000 (0 : Int32) (0 : Int32) D2 h
def F_X1_worthOf (a1 : Int32) (a2 : Int32) (a3 : Int32) (D : Dt) : Option (Int32 × Dt) := (vbd (F_X1_startOn 105 D) (fun D2 => (vbd (F_X8_passTillBare 1 105 a3 D2) (fun D4 => (grd (inB a1 5 = true) (bnd (D4.1 (6, 105, 4, 0) (a1.toNatClampNeg)) (fun v6 => (vbd (F_X1_startOn 105 D4) (fun D8 => (vbd (F_X6_addMen 105 a1 a2 D8) (fun D10 => (vbd (F_X8_passTillBare 1 105 a3 D10) (fun D12 => (some (((D12.1 (6, 105, 4, 0) (a1.toNatClampNeg)) - v6), D12)))))))))))))))
set_option maxRecDepth 100000 in
set_option maxHeartbeats 4000000 in
theorem M_X1_worthOf {l : Launch} {G : Gt} {A : Nat → Prop} {lv : Nat} {a1 : Int32} {a2 : Int32} {a3 : Int32} {D : Dt} {r : Int32} {D' : Dt} (hG : Gok G A) (hlv : 7 ≤ lv)  (h : F_X1_worthOf a1 a2 a3 D = some (r, D')) : MD l G A lv yX1_worthOf cX1_worthOf 5 (some .int) [.ref (ad G (1, 0, 0, 0)), .int a1, .int a2, .int a3] D (some (.int r)) D' := by
  unfold F_X1_worthOf at h
  refine md_start RX1 hG (by decide +kernel) rfl (Nat.le_of_ble_eq_true rfl) (L := [(0, .ref (ad G (1, 0, 0, 0))), (1, .int a1), (2, .int a2), (3, .int a3)]) rfl (fun X C => ?_)
  refine j_aload_n C 0 dX1_worthOf_0 rfl rfl ?_
  refine j_aload_n C 0 dX1_worthOf_1 rfl rfl ?_
  refine j_getS C (6, 105, 0, 0) fl_X1_21 dX1_worthOf_2 (by decide) ⟨rfl, rfl⟩ rfl rfl ?_
  obtain ⟨D2, h1, h⟩ := vbd_x h
  refine j_callV C [.ref (ad G (6, 105, 0, 0))] [] cl_X1_81 (M_X1_startOn (lv := lv - 1) hG (by omega) h1) (by omega) dX1_worthOf_5 (by decide) ⟨rfl, rfl⟩ rfl rfl (Nat.le_of_ble_eq_true rfl) ?_
  refine j_st (st' := []) rfl ?_
  refine j_aload_n C 0 dX1_worthOf_8 rfl rfl ?_
  refine j_getS C (8, 1, 0, 0) fl_X1_12 dX1_worthOf_9 (by decide) ⟨rfl, rfl⟩ rfl rfl ?_
  refine j_aload_n C 0 dX1_worthOf_12 rfl rfl ?_
  refine j_getS C (6, 105, 0, 0) fl_X1_21 dX1_worthOf_13 (by decide) ⟨rfl, rfl⟩ rfl rfl ?_
  refine j_iload_n C 3 dX1_worthOf_16 rfl rfl ?_
  obtain ⟨D4, h3, h⟩ := vbd_x h
  refine j_callV C [.ref (ad G (6, 105, 0, 0)), .int a3] [] cl_X1_126 (M_X8_passTillBare (lv := lv - 1) hG (by omega) h3) (by omega) dX1_worthOf_17 (by decide) ⟨rfl, rfl⟩ rfl rfl (Nat.le_of_ble_eq_true rfl) ?_
  refine j_st (st' := []) rfl ?_
  refine j_aload_n C 0 dX1_worthOf_20 rfl rfl ?_
  refine j_getS C (6, 105, 0, 0) fl_X1_21 dX1_worthOf_21 (by decide) ⟨rfl, rfl⟩ rfl rfl ?_
  refine j_getS C (6, 105, 4, 0) fl_X1_104 dX1_worthOf_24 (by decide) ⟨rfl, rfl⟩ rfl rfl ?_
  refine j_iload_n C 1 dX1_worthOf_27 rfl rfl ?_
  obtain ⟨g5, h⟩ := grd_x h
  refine j_ialdK C 5 (a1.toNatClampNeg) dX1_worthOf_28 (V_f 3 (by decide) (by decide)) rfl g5 rfl ?_
  obtain ⟨v6, ev6, h⟩ := bnd_x h
  refine j_istore C [(4, .int v6), (0, .ref (ad G (1, 0, 0, 0))), (1, .int a1), (2, .int a2), (3, .int a3)] dX1_worthOf_29 (Nat.le_of_ble_eq_true rfl) ev6 rfl ?_
  refine j_aload_n C 1 dX1_worthOf_31 rfl rfl ?_
  refine j_aload_n C 1 dX1_worthOf_32 rfl rfl ?_
  refine j_getS C (6, 105, 0, 0) fl_X1_21 dX1_worthOf_33 (by decide) ⟨rfl, rfl⟩ rfl rfl ?_
  obtain ⟨D8, h7, h⟩ := vbd_x h
  refine j_callV C [.ref (ad G (6, 105, 0, 0))] [] cl_X1_81 (M_X1_startOn (lv := lv - 1) hG (by omega) h7) (by omega) dX1_worthOf_36 (by decide) ⟨rfl, rfl⟩ rfl rfl (Nat.le_of_ble_eq_true rfl) ?_
  refine j_st (st' := []) rfl ?_
  refine j_aload_n C 1 dX1_worthOf_39 rfl rfl ?_
  refine j_getS C (6, 105, 0, 0) fl_X1_21 dX1_worthOf_40 (by decide) ⟨rfl, rfl⟩ rfl rfl ?_
  refine j_iload_n C 2 dX1_worthOf_43 rfl rfl ?_
  refine j_iload_n C 3 dX1_worthOf_44 rfl rfl ?_
  obtain ⟨D10, h9, h⟩ := vbd_x h
  refine j_callV C [.int a1, .int a2] [] cl_X1_141 (M_X6_addMen (lv := lv - 1) hG (by omega) h9) (by omega) dX1_worthOf_45 (by decide) ⟨rfl, rfl⟩ rfl rfl (Nat.le_of_ble_eq_true rfl) ?_
  refine j_st (st' := []) rfl ?_
  refine j_aload_n C 1 dX1_worthOf_48 rfl rfl ?_
  refine j_getS C (8, 1, 0, 0) fl_X1_12 dX1_worthOf_49 (by decide) ⟨rfl, rfl⟩ rfl rfl ?_
  refine j_aload_n C 1 dX1_worthOf_52 rfl rfl ?_
  refine j_getS C (6, 105, 0, 0) fl_X1_21 dX1_worthOf_53 (by decide) ⟨rfl, rfl⟩ rfl rfl ?_
  refine j_iload_n C 4 dX1_worthOf_56 rfl rfl ?_
  obtain ⟨D12, h11, h⟩ := vbd_x h
  refine j_callV C [.ref (ad G (6, 105, 0, 0)), .int a3] [] cl_X1_126 (M_X8_passTillBare (lv := lv - 1) hG (by omega) h11) (by omega) dX1_worthOf_57 (by decide) ⟨rfl, rfl⟩ rfl rfl (Nat.le_of_ble_eq_true rfl) ?_
  refine j_st (st' := []) rfl ?_
  refine j_aload_n C 1 dX1_worthOf_60 rfl rfl ?_
  refine j_getS C (6, 105, 0, 0) fl_X1_21 dX1_worthOf_61 (by decide) ⟨rfl, rfl⟩ rfl rfl ?_
  refine j_getS C (6, 105, 4, 0) fl_X1_104 dX1_worthOf_64 (by decide) ⟨rfl, rfl⟩ rfl rfl ?_
  refine j_iload_n C 2 dX1_worthOf_67 rfl rfl ?_
  refine j_ialdK C 5 (a1.toNatClampNeg) dX1_worthOf_68 (V_f 3 (by decide) (by decide)) rfl g5 rfl ?_
  refine j_iload C 0 dX1_worthOf_69 rfl ?_
  refine j_isub C dX1_worthOf_71 ?_
  obtain ⟨rfl, rfl⟩ := pr_x h
  exact j_iret C dX1_worthOf_72
def F_X1_leastSun_b3 (a1 : Int32) (a2 : Int32) (a3 : Int32)  : Nat → Int32 → Int32 → Int32 → Int32 → Dt → Option (Int32 × Dt)
  | 0, _, _, _, _, _ => none
  | f + 1, l1, l2, l3, l4, D => (if (20 : Int32) < l4 then (some ((-2 : Int32), D)) else (vbd (F_X1_startOn 105 D) (fun D3 => (vbd (F_X6_addSun 105 l1 l4 D3) (fun D5 => (vbd (F_X8_passTillBare 1 105 l3 D5) (fun D7 => (grd (inB l1 5 = true) (if (D7.1 (6, 105, 4, 0) (l1.toNatClampNeg)) < l2 then (bnd (l4 + (1 : Int32)) (fun v10 => (F_X1_leastSun_b3 a1 a2 a3 f l1 l2 l3 v10 D7))) else (some (l4, D7)))))))))))
set_option maxRecDepth 100000 in
set_option maxHeartbeats 4000000 in
theorem T_X1_leastSun_b3 {r : Int32} {D' : Dt} {X : Ctx} {l : Launch} {G : Gt} {A : Nat → Prop} {lv : Nat} {a1 : Int32} {a2 : Int32} {a3 : Int32}   (hG : Gok G A) (hlv : 7 ≤ lv)   (C : Cx X cX1_leastSun RX1 G l A lv 5 (some .int) (some (.int r)) D')  : ∀ (f : Nat) (l1 : Int32) (l2 : Int32) (l3 : Int32) (l4 : Int32) (D : Dt), F_X1_leastSun_b3 a1 a2 a3 f l1 l2 l3 l4 D = some (r, D') → J X (Rep G D) 3 [(0, .ref (ad G (1, 0, 0, 0))), (1, .int l1), (2, .int l2), (3, .int l3), (4, .int l4)] [] := by
  intro f
  induction f with
  | zero =>
    intro l1 l2 l3 l4 D h
    exact nomatch h
  | succ f ih =>
    intro l1 l2 l3 l4 D h
    rw [F_X1_leastSun_b3] at h
    refine j_iload C 4 dX1_leastSun_3 rfl ?_
    refine j_bipush C (20 : Int32) (by decide) dX1_leastSun_5 ?_
    refine j_icmp_gt C 62 dX1_leastSun_7 (by decide) (fun c1 => ?_) (fun c1 => ?_)
    · have h := ite_t c1 h
      refine j_bipush C (-2 : Int32) (by decide) dX1_leastSun_62 ?_
      obtain ⟨rfl, rfl⟩ := pr_x h
      exact j_iret C dX1_leastSun_64
    · have h := ite_f c1 h
      refine j_aload_n C 0 dX1_leastSun_10 rfl rfl ?_
      refine j_aload_n C 0 dX1_leastSun_11 rfl rfl ?_
      refine j_getS C (6, 105, 0, 0) fl_X1_21 dX1_leastSun_12 (by decide) ⟨rfl, rfl⟩ rfl rfl ?_
      obtain ⟨D3, h2, h⟩ := vbd_x h
      refine j_callV C [.ref (ad G (6, 105, 0, 0))] [] cl_X1_81 (M_X1_startOn (lv := lv - 1) hG (by omega) h2) (by omega) dX1_leastSun_15 (by decide) ⟨rfl, rfl⟩ rfl rfl (Nat.le_of_ble_eq_true rfl) ?_
      refine j_st (st' := []) rfl ?_
      refine j_aload_n C 0 dX1_leastSun_18 rfl rfl ?_
      refine j_getS C (6, 105, 0, 0) fl_X1_21 dX1_leastSun_19 (by decide) ⟨rfl, rfl⟩ rfl rfl ?_
      refine j_iload_n C 1 dX1_leastSun_22 rfl rfl ?_
      refine j_iload C 4 dX1_leastSun_23 rfl ?_
      obtain ⟨D5, h4, h⟩ := vbd_x h
      refine j_callV C [.int l1, .int l4] [] cl_X1_145 (M_X6_addSun (lv := lv - 1) hG (by omega) h4) (by omega) dX1_leastSun_25 (by decide) ⟨rfl, rfl⟩ rfl rfl (Nat.le_of_ble_eq_true rfl) ?_
      refine j_st (st' := []) rfl ?_
      refine j_aload_n C 0 dX1_leastSun_28 rfl rfl ?_
      refine j_getS C (8, 1, 0, 0) fl_X1_12 dX1_leastSun_29 (by decide) ⟨rfl, rfl⟩ rfl rfl ?_
      refine j_aload_n C 0 dX1_leastSun_32 rfl rfl ?_
      refine j_getS C (6, 105, 0, 0) fl_X1_21 dX1_leastSun_33 (by decide) ⟨rfl, rfl⟩ rfl rfl ?_
      refine j_iload_n C 3 dX1_leastSun_36 rfl rfl ?_
      obtain ⟨D7, h6, h⟩ := vbd_x h
      refine j_callV C [.ref (ad G (6, 105, 0, 0)), .int l3] [] cl_X1_126 (M_X8_passTillBare (lv := lv - 1) hG (by omega) h6) (by omega) dX1_leastSun_37 (by decide) ⟨rfl, rfl⟩ rfl rfl (Nat.le_of_ble_eq_true rfl) ?_
      refine j_st (st' := []) rfl ?_
      refine j_aload_n C 0 dX1_leastSun_40 rfl rfl ?_
      refine j_getS C (6, 105, 0, 0) fl_X1_21 dX1_leastSun_41 (by decide) ⟨rfl, rfl⟩ rfl rfl ?_
      refine j_getS C (6, 105, 4, 0) fl_X1_104 dX1_leastSun_44 (by decide) ⟨rfl, rfl⟩ rfl rfl ?_
      refine j_iload_n C 1 dX1_leastSun_47 rfl rfl ?_
      obtain ⟨g8, h⟩ := grd_x h
      refine j_ialdK C 5 (l1.toNatClampNeg) dX1_leastSun_48 (V_f 3 (by decide) (by decide)) rfl g8 rfl ?_
      refine j_iload_n C 2 dX1_leastSun_49 rfl rfl ?_
      refine j_icmp_lt C 56 dX1_leastSun_50 (by decide) (fun c9 => ?_) (fun c9 => ?_)
      · have h := ite_t c9 h
        obtain ⟨v10, ev10, h⟩ := bnd_x h
        refine j_iinc C 4 [(4, .int v10), (0, .ref (ad G (1, 0, 0, 0))), (1, .int l1), (2, .int l2), (3, .int l3)] dX1_leastSun_56 rfl (Nat.le_of_ble_eq_true rfl) (ev10.trans (congrArg (l4 + ·) (by decide))) rfl ?_
        refine j_goto C 3 dX1_leastSun_59 (by decide) ?_
        refine j_sub [1, 2, 3, 4, 0] [(0, .ref (ad G (1, 0, 0, 0))), (1, .int l1), (2, .int l2), (3, .int l3), (4, .int v10)] rfl ?_
        exact ih l1 l2 l3 v10 D7 h
      · have h := ite_f c9 h
        refine j_iload C 4 dX1_leastSun_53 rfl ?_
        obtain ⟨rfl, rfl⟩ := pr_x h
        exact j_iret C dX1_leastSun_55
def F_X1_leastSun (a1 : Int32) (a2 : Int32) (a3 : Int32) (D : Dt) : Option (Int32 × Dt) := (F_X1_leastSun_b3 a1 a2 a3 2000 a1 a2 a3 (0 : Int32) D)
set_option maxRecDepth 100000 in
set_option maxHeartbeats 4000000 in
theorem M_X1_leastSun {l : Launch} {G : Gt} {A : Nat → Prop} {lv : Nat} {a1 : Int32} {a2 : Int32} {a3 : Int32} {D : Dt} {r : Int32} {D' : Dt} (hG : Gok G A) (hlv : 7 ≤ lv)  (h : F_X1_leastSun a1 a2 a3 D = some (r, D')) : MD l G A lv yX1_leastSun cX1_leastSun 5 (some .int) [.ref (ad G (1, 0, 0, 0)), .int a1, .int a2, .int a3] D (some (.int r)) D' := by
  unfold F_X1_leastSun at h
  refine md_start RX1 hG (by decide +kernel) rfl (Nat.le_of_ble_eq_true rfl) (L := [(0, .ref (ad G (1, 0, 0, 0))), (1, .int a1), (2, .int a2), (3, .int a3)]) rfl (fun X C => ?_)
  refine j_iconst C (0 : Int32) (by decide) dX1_leastSun_0 ?_
  refine j_istore C [(4, .int (0 : Int32)), (0, .ref (ad G (1, 0, 0, 0))), (1, .int a1), (2, .int a2), (3, .int a3)] dX1_leastSun_1 (Nat.le_of_ble_eq_true rfl) rfl rfl ?_
  refine j_sub [1, 2, 3, 4, 0] [(0, .ref (ad G (1, 0, 0, 0))), (1, .int a1), (2, .int a2), (3, .int a3), (4, .int (0 : Int32))] rfl ?_
  refine T_X1_leastSun_b3 hG hlv  C  2000 a1 a2 a3 (0 : Int32) D h
def F_X1_playOn_b18 (rc_X1_playOn : Int32 → Int32 → Int32 → Int32 → Dt → Option (Int32 × Dt)) (a1 : Int32) (a2 : Int32) (a3 : Int32) (a4 : Int32)  (l3 : Int32) (l4 : Int32) (D : Dt) : Option (Int32 × Dt) := grd (V (6, (106 + a1.toNatClampNeg), 0, 0) = true) ((grd (inB l3 5 = true) (grd (inB l4 5 = true) (some (((D.1 (6, (106 + a1.toNatClampNeg), 4, 0) (l3.toNatClampNeg)) - (D.1 (6, (106 + a1.toNatClampNeg), 4, 0) (l4.toNatClampNeg))), D)))))
set_option maxRecDepth 100000 in
set_option maxHeartbeats 4000000 in
theorem T_X1_playOn_b18 {r : Int32} {D' : Dt} {X : Ctx} {l : Launch} {G : Gt} {A : Nat → Prop} {lv : Nat} {rc_X1_playOn : Int32 → Int32 → Int32 → Int32 → Dt → Option (Int32 × Dt)} {a1 : Int32} {a2 : Int32} {a3 : Int32} {a4 : Int32}   (hG : Gok G A) (hlv : 6 ≤ lv)  (hrc_X1_playOn : ∀ {b1 : Int32} {b2 : Int32} {b3 : Int32} {b4 : Int32} {D : Dt} {r : Int32} {D' : Dt}, rc_X1_playOn b1 b2 b3 b4 D = some (r, D') → MD l G A (lv - 1) yX1_playOn cX1_playOn 13 (some .int) [.ref (ad G (1, 0, 0, 0)), .int b1, .int b2, .int b3, .int b4] D (some (.int r)) D') (C : Cx X cX1_playOn RX1 G l A lv 13 (some .int) (some (.int r)) D')  : ∀ (l3 : Int32) (l4 : Int32) (D : Dt), F_X1_playOn_b18 rc_X1_playOn a1 a2 a3 a4 l3 l4 D = some (r, D') → J X (Rep G D) 18 [(3, .int l3), (4, .int l4), (5, .ref (ad G (6, (106 + a1.toNatClampNeg), 0, 0)))] [] := by
  intro l3 l4 D h
  unfold F_X1_playOn_b18 at h
  obtain ⟨hvl5, h⟩ := grd_x h
  refine j_aload C 2 dX1_playOn_18 rfl ?_
  refine j_getS C (6, (106 + a1.toNatClampNeg), 4, 0) fl_X1_104 dX1_playOn_20 hvl5 ⟨rfl, rfl⟩ rfl rfl ?_
  refine j_iload_n C 0 dX1_playOn_23 rfl rfl ?_
  obtain ⟨g3, h⟩ := grd_x h
  refine j_ialdK C 5 (l3.toNatClampNeg) dX1_playOn_24 (V_f 3 hvl5 (by decide)) rfl g3 rfl ?_
  refine j_aload C 2 dX1_playOn_25 rfl ?_
  refine j_getS C (6, (106 + a1.toNatClampNeg), 4, 0) fl_X1_104 dX1_playOn_27 hvl5 ⟨rfl, rfl⟩ rfl rfl ?_
  refine j_iload C 1 dX1_playOn_30 rfl ?_
  obtain ⟨g4, h⟩ := grd_x h
  refine j_ialdK C 5 (l4.toNatClampNeg) dX1_playOn_32 (V_f 3 hvl5 (by decide)) rfl g4 rfl ?_
  refine j_isub C dX1_playOn_33 ?_
  obtain ⟨rfl, rfl⟩ := pr_x h
  exact j_iret C dX1_playOn_34
def F_X1_playOn_b197 (rc_X1_playOn : Int32 → Int32 → Int32 → Int32 → Dt → Option (Int32 × Dt)) (a1 : Int32) (a2 : Int32) (a3 : Int32) (a4 : Int32)  (l1 : Int32) (l10 : Int32) (l11 : Int32) (D : Dt) : Option (Int32 × Dt) := (if l1 = 0 then (bnd (setI D (1, 0, 0, 0) 10 l11) (fun D23 => (some (l10, D23)))) else (some (l10, D)))
set_option maxRecDepth 100000 in
set_option maxHeartbeats 4000000 in
theorem T_X1_playOn_b197 {r : Int32} {D' : Dt} {X : Ctx} {l : Launch} {G : Gt} {A : Nat → Prop} {lv : Nat} {rc_X1_playOn : Int32 → Int32 → Int32 → Int32 → Dt → Option (Int32 × Dt)} {a1 : Int32} {a2 : Int32} {a3 : Int32} {a4 : Int32}   (hG : Gok G A) (hlv : 6 ≤ lv)  (hrc_X1_playOn : ∀ {b1 : Int32} {b2 : Int32} {b3 : Int32} {b4 : Int32} {D : Dt} {r : Int32} {D' : Dt}, rc_X1_playOn b1 b2 b3 b4 D = some (r, D') → MD l G A (lv - 1) yX1_playOn cX1_playOn 13 (some .int) [.ref (ad G (1, 0, 0, 0)), .int b1, .int b2, .int b3, .int b4] D (some (.int r)) D') (C : Cx X cX1_playOn RX1 G l A lv 13 (some .int) (some (.int r)) D')  : ∀ (l1 : Int32) (l10 : Int32) (l11 : Int32) (D : Dt), F_X1_playOn_b197 rc_X1_playOn a1 a2 a3 a4 l1 l10 l11 D = some (r, D') → J X (Rep G D) 197 [(0, .ref (ad G (1, 0, 0, 0))), (1, .int l1), (10, .int l10), (11, .int l11)] [] := by
  intro l1 l10 l11 D h
  unfold F_X1_playOn_b197 at h
  refine j_iload_n C 1 dX1_playOn_197 rfl rfl ?_
  refine j_if_ne C 207 dX1_playOn_198 (by decide) (fun c22 => ?_) (fun c22 => ?_)
  · have h := ite_f c22 h
    refine j_iload C 2 dX1_playOn_207 rfl ?_
    obtain ⟨rfl, rfl⟩ := pr_x h
    exact j_iret C dX1_playOn_209
  · have h := ite_t c22 h
    refine j_aload_n C 0 dX1_playOn_201 rfl rfl ?_
    refine j_iload C 3 dX1_playOn_202 rfl ?_
    obtain ⟨D23, eD23, h⟩ := bnd_x h
    refine j_putI C fl_X1_138 dX1_playOn_204 (by decide) ⟨rfl, rfl⟩ rfl rfl rfl ?_
    refine j_rep eD23 ?_
    refine j_iload C 2 dX1_playOn_207 rfl ?_
    obtain ⟨rfl, rfl⟩ := pr_x h
    exact j_iret C dX1_playOn_209
def F_X1_playOn_b190 (rc_X1_playOn : Int32 → Int32 → Int32 → Int32 → Dt → Option (Int32 × Dt)) (a1 : Int32) (a2 : Int32) (a3 : Int32) (a4 : Int32)  (l1 : Int32) (l12 : Int32) (D : Dt) : Option (Int32 × Dt) := (F_X1_playOn_b197 rc_X1_playOn a1 a2 a3 a4 l1 l12 (1 : Int32) D)
set_option maxRecDepth 100000 in
set_option maxHeartbeats 4000000 in
theorem T_X1_playOn_b190 {r : Int32} {D' : Dt} {X : Ctx} {l : Launch} {G : Gt} {A : Nat → Prop} {lv : Nat} {rc_X1_playOn : Int32 → Int32 → Int32 → Int32 → Dt → Option (Int32 × Dt)} {a1 : Int32} {a2 : Int32} {a3 : Int32} {a4 : Int32}   (hG : Gok G A) (hlv : 6 ≤ lv)  (hrc_X1_playOn : ∀ {b1 : Int32} {b2 : Int32} {b3 : Int32} {b4 : Int32} {D : Dt} {r : Int32} {D' : Dt}, rc_X1_playOn b1 b2 b3 b4 D = some (r, D') → MD l G A (lv - 1) yX1_playOn cX1_playOn 13 (some .int) [.ref (ad G (1, 0, 0, 0)), .int b1, .int b2, .int b3, .int b4] D (some (.int r)) D') (C : Cx X cX1_playOn RX1 G l A lv 13 (some .int) (some (.int r)) D')  : ∀ (l1 : Int32) (l12 : Int32) (D : Dt), F_X1_playOn_b190 rc_X1_playOn a1 a2 a3 a4 l1 l12 D = some (r, D') → J X (Rep G D) 190 [(0, .ref (ad G (1, 0, 0, 0))), (1, .int l1), (12, .int l12)] [] := by
  intro l1 l12 D h
  unfold F_X1_playOn_b190 at h
  refine j_iload C 2 dX1_playOn_190 rfl ?_
  refine j_istore C [(10, .int l12), (0, .ref (ad G (1, 0, 0, 0))), (1, .int l1), (12, .int l12)] dX1_playOn_192 (Nat.le_of_ble_eq_true rfl) rfl rfl ?_
  refine j_iconst C (1 : Int32) (by decide) dX1_playOn_194 ?_
  refine j_istore C [(11, .int (1 : Int32)), (10, .int l12), (0, .ref (ad G (1, 0, 0, 0))), (1, .int l1), (12, .int l12)] dX1_playOn_195 (Nat.le_of_ble_eq_true rfl) rfl rfl ?_
  refine j_sub [2, 3, 1, 0] [(0, .ref (ad G (1, 0, 0, 0))), (1, .int l1), (10, .int l12), (11, .int (1 : Int32))] rfl ?_
  refine T_X1_playOn_b197 hG hlv hrc_X1_playOn C  l1 l12 (1 : Int32) D h
def F_X1_playOn_b72 (rc_X1_playOn : Int32 → Int32 → Int32 → Int32 → Dt → Option (Int32 × Dt)) (a1 : Int32) (a2 : Int32) (a3 : Int32) (a4 : Int32)  (l1 : Int32) (l2 : Int32) (l3 : Int32) (l4 : Int32) (l6 : Int32) (l7 : Int32) (s0 : Int32) (D : Dt) : Option (Int32 × Dt) := grd (V (6, (106 + a1.toNatClampNeg), 0, 0) = true) ((grd (inB (l1 + (1 : Int32)) 5 = true) (vbd (F_X6_copyFrom (106 + (l1 + (1 : Int32)).toNatClampNeg) (106 + a1.toNatClampNeg) D) (fun D11 => (cbd (F_X8_pass 1 (106 + (l1 + (1 : Int32)).toNatClampNeg) D11) (fun r13 D14 => (cbd (rc_X1_playOn (l1 + (1 : Int32)) l2 l3 l4 D14) (fun r16 D17 => (cbd (F_X6_mayBuy (106 + a1.toNatClampNeg) l7 s0 D17) (fun r19 D20 => (if r19 = 0 then (F_X1_playOn_b197 rc_X1_playOn a1 a2 a3 a4 l1 r16 (0 : Int32) D20) else (vbd (F_X6_copyFrom (106 + (l1 + (1 : Int32)).toNatClampNeg) (106 + a1.toNatClampNeg) D20) (fun D25 => (vbd (F_X6_buy (106 + (l1 + (1 : Int32)).toNatClampNeg) l7 s0 D25) (fun D27 => (cbd (F_X8_pass 1 (106 + (l1 + (1 : Int32)).toNatClampNeg) D27) (fun r29 D30 => (cbd (rc_X1_playOn (l1 + (1 : Int32)) l2 l3 l4 D30) (fun r32 D33 => (if l6 = 0 then (if r16 ≤ r32 then (F_X1_playOn_b197 rc_X1_playOn a1 a2 a3 a4 l1 r16 (0 : Int32) D33) else (F_X1_playOn_b190 rc_X1_playOn a1 a2 a3 a4 l1 r32 D33)) else (if r32 ≤ r16 then (F_X1_playOn_b197 rc_X1_playOn a1 a2 a3 a4 l1 r16 (0 : Int32) D33) else (F_X1_playOn_b190 rc_X1_playOn a1 a2 a3 a4 l1 r32 D33))))))))))))))))))))))
set_option maxRecDepth 100000 in
set_option maxHeartbeats 4000000 in
theorem T_X1_playOn_b72 {r : Int32} {D' : Dt} {X : Ctx} {l : Launch} {G : Gt} {A : Nat → Prop} {lv : Nat} {rc_X1_playOn : Int32 → Int32 → Int32 → Int32 → Dt → Option (Int32 × Dt)} {a1 : Int32} {a2 : Int32} {a3 : Int32} {a4 : Int32}   (hG : Gok G A) (hlv : 6 ≤ lv)  (hrc_X1_playOn : ∀ {b1 : Int32} {b2 : Int32} {b3 : Int32} {b4 : Int32} {D : Dt} {r : Int32} {D' : Dt}, rc_X1_playOn b1 b2 b3 b4 D = some (r, D') → MD l G A (lv - 1) yX1_playOn cX1_playOn 13 (some .int) [.ref (ad G (1, 0, 0, 0)), .int b1, .int b2, .int b3, .int b4] D (some (.int r)) D') (C : Cx X cX1_playOn RX1 G l A lv 13 (some .int) (some (.int r)) D')  : ∀ (l1 : Int32) (l2 : Int32) (l3 : Int32) (l4 : Int32) (l6 : Int32) (l7 : Int32) (s0 : Int32) (D : Dt), F_X1_playOn_b72 rc_X1_playOn a1 a2 a3 a4 l1 l2 l3 l4 l6 l7 s0 D = some (r, D') → J X (Rep G D) 72 [(0, .ref (ad G (1, 0, 0, 0))), (1, .int l1), (2, .int l2), (3, .int l3), (4, .int l4), (5, .ref (ad G (6, (106 + a1.toNatClampNeg), 0, 0))), (6, .int l6), (7, .int l7)] [.int s0] := by
  intro l1 l2 l3 l4 l6 l7 s0 D h
  unfold F_X1_playOn_b72 at h
  obtain ⟨hvl5, h⟩ := grd_x h
  refine j_istore C [(8, .int s0), (0, .ref (ad G (1, 0, 0, 0))), (1, .int l1), (2, .int l2), (3, .int l3), (4, .int l4), (5, .ref (ad G (6, (106 + a1.toNatClampNeg), 0, 0))), (6, .int l6), (7, .int l7)] dX1_playOn_72 (Nat.le_of_ble_eq_true rfl) rfl rfl ?_
  refine j_aload_n C 1 dX1_playOn_74 rfl rfl ?_
  refine j_getS C (1, 0, 5, 0) fl_X1_25 dX1_playOn_75 (by decide) ⟨rfl, rfl⟩ rfl rfl ?_
  refine j_iload_n C 2 dX1_playOn_78 rfl rfl ?_
  refine j_iconst C (1 : Int32) (by decide) dX1_playOn_79 ?_
  refine j_iadd C dX1_playOn_80 ?_
  obtain ⟨g9, h⟩ := grd_x h
  refine j_aald C 8 5 (6, (106 + (l1 + (1 : Int32)).toNatClampNeg), 0, 0) dX1_playOn_81 (V_f 4 (by decide) (by decide)) rfl (by decide) g9 rfl ?_
  refine j_astore C [(9, .ref (ad G (6, (106 + (l1 + (1 : Int32)).toNatClampNeg), 0, 0))), (8, .int s0), (0, .ref (ad G (1, 0, 0, 0))), (1, .int l1), (2, .int l2), (3, .int l3), (4, .int l4), (5, .ref (ad G (6, (106 + a1.toNatClampNeg), 0, 0))), (6, .int l6), (7, .int l7)] dX1_playOn_82 (Nat.le_of_ble_eq_true rfl) rfl rfl ?_
  refine j_aload C 0 dX1_playOn_84 rfl ?_
  refine j_aload C 7 dX1_playOn_86 rfl ?_
  obtain ⟨D11, h10, h⟩ := vbd_x h
  refine j_callV C [.ref (ad G (6, (106 + a1.toNatClampNeg), 0, 0))] [] cl_X1_61 (M_X6_copyFrom (lv := lv - 1) hG (by omega) h10) (by omega) dX1_playOn_88 (V_lev g9) ⟨rfl, rfl⟩ rfl rfl (Nat.le_of_ble_eq_true rfl) ?_
  refine j_st (st' := []) rfl ?_
  refine j_aload_n C 2 dX1_playOn_91 rfl rfl ?_
  refine j_getS C (8, 1, 0, 0) fl_X1_12 dX1_playOn_92 (by decide) ⟨rfl, rfl⟩ rfl rfl ?_
  refine j_aload C 0 dX1_playOn_95 rfl ?_
  obtain ⟨r13, D14, h12, h⟩ := cbd_x h
  refine j_callV C [.ref (ad G (6, (106 + (l1 + (1 : Int32)).toNatClampNeg), 0, 0))] [] cl_X1_84 (M_X8_pass (lv := lv - 1) hG (by omega) h12) (by omega) dX1_playOn_97 (by decide) ⟨rfl, rfl⟩ rfl rfl (Nat.le_of_ble_eq_true rfl) ?_
  refine j_st (st' := [.int r13]) rfl ?_
  refine j_pop C rfl dX1_playOn_100 ?_
  refine j_aload_n C 2 dX1_playOn_101 rfl rfl ?_
  refine j_iload_n C 3 dX1_playOn_102 rfl rfl ?_
  refine j_iconst C (1 : Int32) (by decide) dX1_playOn_103 ?_
  refine j_iadd C dX1_playOn_104 ?_
  refine j_iload_n C 4 dX1_playOn_105 rfl rfl ?_
  refine j_iload_n C 5 dX1_playOn_106 rfl rfl ?_
  refine j_iload C 6 dX1_playOn_107 rfl ?_
  obtain ⟨r16, D17, h15, h⟩ := cbd_x h
  refine j_callV C [.int (l1 + (1 : Int32)), .int l2, .int l3, .int l4] [] cl_X1_151 (hrc_X1_playOn h15) (by omega) dX1_playOn_109 (by decide) ⟨rfl, rfl⟩ rfl rfl (Nat.le_of_ble_eq_true rfl) ?_
  refine j_st (st' := [.int r16]) rfl ?_
  refine j_istore C [(10, .int r16), (9, .ref (ad G (6, (106 + (l1 + (1 : Int32)).toNatClampNeg), 0, 0))), (8, .int s0), (0, .ref (ad G (1, 0, 0, 0))), (1, .int l1), (2, .int l2), (3, .int l3), (4, .int l4), (5, .ref (ad G (6, (106 + a1.toNatClampNeg), 0, 0))), (6, .int l6), (7, .int l7)] dX1_playOn_112 (Nat.le_of_ble_eq_true rfl) rfl rfl ?_
  refine j_iconst C (0 : Int32) (by decide) dX1_playOn_114 ?_
  refine j_istore C [(11, .int (0 : Int32)), (10, .int r16), (9, .ref (ad G (6, (106 + (l1 + (1 : Int32)).toNatClampNeg), 0, 0))), (8, .int s0), (0, .ref (ad G (1, 0, 0, 0))), (1, .int l1), (2, .int l2), (3, .int l3), (4, .int l4), (5, .ref (ad G (6, (106 + a1.toNatClampNeg), 0, 0))), (6, .int l6), (7, .int l7)] dX1_playOn_115 (Nat.le_of_ble_eq_true rfl) rfl rfl ?_
  refine j_aload C 9 dX1_playOn_117 rfl ?_
  refine j_iload C 11 dX1_playOn_119 rfl ?_
  refine j_iload C 3 dX1_playOn_121 rfl ?_
  obtain ⟨r19, D20, h18, h⟩ := cbd_x h
  refine j_callV C [.int l7, .int s0] [] cl_X1_155 (M_X6_mayBuy (lv := lv - 1) hG (by omega) h18) (by omega) dX1_playOn_123 hvl5 ⟨rfl, rfl⟩ rfl rfl (Nat.le_of_ble_eq_true rfl) ?_
  refine j_st (st' := [.int r19]) rfl ?_
  refine j_if_eq C 197 dX1_playOn_126 (by decide) (fun c21 => ?_) (fun c21 => ?_)
  · have h := ite_t c21 h
    refine j_sub [4, 5, 1, 0] [(0, .ref (ad G (1, 0, 0, 0))), (1, .int l1), (10, .int r16), (11, .int (0 : Int32))] rfl ?_
    refine T_X1_playOn_b197 hG hlv hrc_X1_playOn C  l1 r16 (0 : Int32) D20 h
  · have h := ite_f c21 h
    refine j_aload C 2 dX1_playOn_129 rfl ?_
    refine j_aload C 9 dX1_playOn_131 rfl ?_
    obtain ⟨D25, h24, h⟩ := vbd_x h
    refine j_callV C [.ref (ad G (6, (106 + a1.toNatClampNeg), 0, 0))] [] cl_X1_61 (M_X6_copyFrom (lv := lv - 1) hG (by omega) h24) (by omega) dX1_playOn_133 (V_lev g9) ⟨rfl, rfl⟩ rfl rfl (Nat.le_of_ble_eq_true rfl) ?_
    refine j_st (st' := []) rfl ?_
    refine j_aload C 2 dX1_playOn_136 rfl ?_
    refine j_iload C 11 dX1_playOn_138 rfl ?_
    refine j_iload C 3 dX1_playOn_140 rfl ?_
    obtain ⟨D27, h26, h⟩ := vbd_x h
    refine j_callV C [.int l7, .int s0] [] cl_X1_159 (M_X6_buy (lv := lv - 1) hG (by omega) h26) (by omega) dX1_playOn_142 (V_lev g9) ⟨rfl, rfl⟩ rfl rfl (Nat.le_of_ble_eq_true rfl) ?_
    refine j_st (st' := []) rfl ?_
    refine j_aload_n C 4 dX1_playOn_145 rfl rfl ?_
    refine j_getS C (8, 1, 0, 0) fl_X1_12 dX1_playOn_146 (by decide) ⟨rfl, rfl⟩ rfl rfl ?_
    refine j_aload C 2 dX1_playOn_149 rfl ?_
    obtain ⟨r29, D30, h28, h⟩ := cbd_x h
    refine j_callV C [.ref (ad G (6, (106 + (l1 + (1 : Int32)).toNatClampNeg), 0, 0))] [] cl_X1_84 (M_X8_pass (lv := lv - 1) hG (by omega) h28) (by omega) dX1_playOn_151 (by decide) ⟨rfl, rfl⟩ rfl rfl (Nat.le_of_ble_eq_true rfl) ?_
    refine j_st (st' := [.int r29]) rfl ?_
    refine j_pop C rfl dX1_playOn_154 ?_
    refine j_aload_n C 4 dX1_playOn_155 rfl rfl ?_
    refine j_iload_n C 5 dX1_playOn_156 rfl rfl ?_
    refine j_iconst C (1 : Int32) (by decide) dX1_playOn_157 ?_
    refine j_iadd C dX1_playOn_158 ?_
    refine j_iload_n C 6 dX1_playOn_159 rfl rfl ?_
    refine j_iload_n C 7 dX1_playOn_160 rfl rfl ?_
    refine j_iload C 8 dX1_playOn_161 rfl ?_
    obtain ⟨r32, D33, h31, h⟩ := cbd_x h
    refine j_callV C [.int (l1 + (1 : Int32)), .int l2, .int l3, .int l4] [] cl_X1_151 (hrc_X1_playOn h31) (by omega) dX1_playOn_163 (by decide) ⟨rfl, rfl⟩ rfl rfl (Nat.le_of_ble_eq_true rfl) ?_
    refine j_st (st' := [.int r32]) rfl ?_
    refine j_istore C [(12, .int r32), (11, .int (0 : Int32)), (10, .int r16), (9, .ref (ad G (6, (106 + (l1 + (1 : Int32)).toNatClampNeg), 0, 0))), (8, .int s0), (0, .ref (ad G (1, 0, 0, 0))), (1, .int l1), (2, .int l2), (3, .int l3), (4, .int l4), (5, .ref (ad G (6, (106 + a1.toNatClampNeg), 0, 0))), (6, .int l6), (7, .int l7)] dX1_playOn_166 (Nat.le_of_ble_eq_true rfl) rfl rfl ?_
    refine j_iload C 11 dX1_playOn_168 rfl ?_
    refine j_if_eq C 183 dX1_playOn_170 (by decide) (fun c34 => ?_) (fun c34 => ?_)
    · have h := ite_t c34 h
      refine j_iload C 0 dX1_playOn_183 rfl ?_
      refine j_iload C 2 dX1_playOn_185 rfl ?_
      refine j_icmp_ge C 197 dX1_playOn_187 (by decide) (fun c35 => ?_) (fun c35 => ?_)
      · have h := ite_t c35 h
        refine j_sub [5, 6, 2, 1] [(0, .ref (ad G (1, 0, 0, 0))), (1, .int l1), (10, .int r16), (11, .int (0 : Int32))] rfl ?_
        refine T_X1_playOn_b197 hG hlv hrc_X1_playOn C  l1 r16 (0 : Int32) D33 h
      · have h := ite_f c35 h
        refine j_sub [5, 6, 0] [(0, .ref (ad G (1, 0, 0, 0))), (1, .int l1), (12, .int r32)] rfl ?_
        refine T_X1_playOn_b190 hG hlv hrc_X1_playOn C  l1 r32 D33 h
    · have h := ite_f c34 h
      refine j_iload C 0 dX1_playOn_173 rfl ?_
      refine j_iload C 2 dX1_playOn_175 rfl ?_
      refine j_icmp_le C 197 dX1_playOn_177 (by decide) (fun c36 => ?_) (fun c36 => ?_)
      · have h := ite_t c36 h
        refine j_sub [5, 6, 2, 1] [(0, .ref (ad G (1, 0, 0, 0))), (1, .int l1), (10, .int r16), (11, .int (0 : Int32))] rfl ?_
        refine T_X1_playOn_b197 hG hlv hrc_X1_playOn C  l1 r16 (0 : Int32) D33 h
      · have h := ite_f c36 h
        refine j_goto C 190 dX1_playOn_180 (by decide) ?_
        refine j_sub [5, 6, 0] [(0, .ref (ad G (1, 0, 0, 0))), (1, .int l1), (12, .int r32)] rfl ?_
        refine T_X1_playOn_b190 hG hlv hrc_X1_playOn C  l1 r32 D33 h
def F_X1_playOn_b59 (rc_X1_playOn : Int32 → Int32 → Int32 → Int32 → Dt → Option (Int32 × Dt)) (a1 : Int32) (a2 : Int32) (a3 : Int32) (a4 : Int32)  (l1 : Int32) (l2 : Int32) (l3 : Int32) (l4 : Int32) (l6 : Int32) (s0 : Int32) (D : Dt) : Option (Int32 × Dt) := grd (V (6, (106 + a1.toNatClampNeg), 0, 0) = true) ((if l6 = 0 then (F_X1_playOn_b72 rc_X1_playOn a1 a2 a3 a4 l1 l2 l3 l4 l6 s0 l3 D) else (F_X1_playOn_b72 rc_X1_playOn a1 a2 a3 a4 l1 l2 l3 l4 l6 s0 l4 D)))
set_option maxRecDepth 100000 in
set_option maxHeartbeats 4000000 in
theorem T_X1_playOn_b59 {r : Int32} {D' : Dt} {X : Ctx} {l : Launch} {G : Gt} {A : Nat → Prop} {lv : Nat} {rc_X1_playOn : Int32 → Int32 → Int32 → Int32 → Dt → Option (Int32 × Dt)} {a1 : Int32} {a2 : Int32} {a3 : Int32} {a4 : Int32}   (hG : Gok G A) (hlv : 6 ≤ lv)  (hrc_X1_playOn : ∀ {b1 : Int32} {b2 : Int32} {b3 : Int32} {b4 : Int32} {D : Dt} {r : Int32} {D' : Dt}, rc_X1_playOn b1 b2 b3 b4 D = some (r, D') → MD l G A (lv - 1) yX1_playOn cX1_playOn 13 (some .int) [.ref (ad G (1, 0, 0, 0)), .int b1, .int b2, .int b3, .int b4] D (some (.int r)) D') (C : Cx X cX1_playOn RX1 G l A lv 13 (some .int) (some (.int r)) D')  : ∀ (l1 : Int32) (l2 : Int32) (l3 : Int32) (l4 : Int32) (l6 : Int32) (s0 : Int32) (D : Dt), F_X1_playOn_b59 rc_X1_playOn a1 a2 a3 a4 l1 l2 l3 l4 l6 s0 D = some (r, D') → J X (Rep G D) 59 [(0, .ref (ad G (1, 0, 0, 0))), (1, .int l1), (2, .int l2), (3, .int l3), (4, .int l4), (5, .ref (ad G (6, (106 + a1.toNatClampNeg), 0, 0))), (6, .int l6)] [.int s0] := by
  intro l1 l2 l3 l4 l6 s0 D h
  unfold F_X1_playOn_b59 at h
  obtain ⟨hvl5, h⟩ := grd_x h
  refine j_istore C [(7, .int s0), (0, .ref (ad G (1, 0, 0, 0))), (1, .int l1), (2, .int l2), (3, .int l3), (4, .int l4), (5, .ref (ad G (6, (106 + a1.toNatClampNeg), 0, 0))), (6, .int l6)] dX1_playOn_59 (Nat.le_of_ble_eq_true rfl) rfl rfl ?_
  refine j_iload C 7 dX1_playOn_61 rfl ?_
  refine j_if_eq C 71 dX1_playOn_63 (by decide) (fun c8 => ?_) (fun c8 => ?_)
  · have h := ite_t c8 h
    refine j_iload_n C 4 dX1_playOn_71 rfl rfl ?_
    refine j_sub [1, 2, 3, 4, 5, 6, 7, 0] [(0, .ref (ad G (1, 0, 0, 0))), (1, .int l1), (2, .int l2), (3, .int l3), (4, .int l4), (5, .ref (ad G (6, (106 + a1.toNatClampNeg), 0, 0))), (6, .int l6), (7, .int s0)] rfl ?_
    refine T_X1_playOn_b72 hG hlv hrc_X1_playOn C  l1 l2 l3 l4 l6 s0 l3 D h
  · have h := ite_f c8 h
    refine j_iload C 5 dX1_playOn_66 rfl ?_
    refine j_goto C 72 dX1_playOn_68 (by decide) ?_
    refine j_sub [1, 2, 3, 4, 5, 6, 7, 0] [(0, .ref (ad G (1, 0, 0, 0))), (1, .int l1), (2, .int l2), (3, .int l3), (4, .int l4), (5, .ref (ad G (6, (106 + a1.toNatClampNeg), 0, 0))), (6, .int l6), (7, .int s0)] rfl ?_
    refine T_X1_playOn_b72 hG hlv hrc_X1_playOn C  l1 l2 l3 l4 l6 s0 l4 D h
def F_X1_playOn_b46 (rc_X1_playOn : Int32 → Int32 → Int32 → Int32 → Dt → Option (Int32 × Dt)) (a1 : Int32) (a2 : Int32) (a3 : Int32) (a4 : Int32)  (l1 : Int32) (l2 : Int32) (l3 : Int32) (l4 : Int32) (s0 : Int32) (D : Dt) : Option (Int32 × Dt) := grd (V (6, (106 + a1.toNatClampNeg), 0, 0) = true) ((if s0 = 0 then (F_X1_playOn_b59 rc_X1_playOn a1 a2 a3 a4 l1 l2 l3 l4 s0 l4 D) else (F_X1_playOn_b59 rc_X1_playOn a1 a2 a3 a4 l1 l2 l3 l4 s0 l3 D)))
set_option maxRecDepth 100000 in
set_option maxHeartbeats 4000000 in
theorem T_X1_playOn_b46 {r : Int32} {D' : Dt} {X : Ctx} {l : Launch} {G : Gt} {A : Nat → Prop} {lv : Nat} {rc_X1_playOn : Int32 → Int32 → Int32 → Int32 → Dt → Option (Int32 × Dt)} {a1 : Int32} {a2 : Int32} {a3 : Int32} {a4 : Int32}   (hG : Gok G A) (hlv : 6 ≤ lv)  (hrc_X1_playOn : ∀ {b1 : Int32} {b2 : Int32} {b3 : Int32} {b4 : Int32} {D : Dt} {r : Int32} {D' : Dt}, rc_X1_playOn b1 b2 b3 b4 D = some (r, D') → MD l G A (lv - 1) yX1_playOn cX1_playOn 13 (some .int) [.ref (ad G (1, 0, 0, 0)), .int b1, .int b2, .int b3, .int b4] D (some (.int r)) D') (C : Cx X cX1_playOn RX1 G l A lv 13 (some .int) (some (.int r)) D')  : ∀ (l1 : Int32) (l2 : Int32) (l3 : Int32) (l4 : Int32) (s0 : Int32) (D : Dt), F_X1_playOn_b46 rc_X1_playOn a1 a2 a3 a4 l1 l2 l3 l4 s0 D = some (r, D') → J X (Rep G D) 46 [(0, .ref (ad G (1, 0, 0, 0))), (1, .int l1), (2, .int l2), (3, .int l3), (4, .int l4), (5, .ref (ad G (6, (106 + a1.toNatClampNeg), 0, 0)))] [.int s0] := by
  intro l1 l2 l3 l4 s0 D h
  unfold F_X1_playOn_b46 at h
  obtain ⟨hvl5, h⟩ := grd_x h
  refine j_istore C [(6, .int s0), (0, .ref (ad G (1, 0, 0, 0))), (1, .int l1), (2, .int l2), (3, .int l3), (4, .int l4), (5, .ref (ad G (6, (106 + a1.toNatClampNeg), 0, 0)))] dX1_playOn_46 (Nat.le_of_ble_eq_true rfl) rfl rfl ?_
  refine j_iload C 0 dX1_playOn_48 rfl ?_
  refine j_if_eq C 57 dX1_playOn_50 (by decide) (fun c7 => ?_) (fun c7 => ?_)
  · have h := ite_t c7 h
    refine j_iload C 5 dX1_playOn_57 rfl ?_
    refine j_sub [1, 2, 3, 4, 5, 6, 0] [(0, .ref (ad G (1, 0, 0, 0))), (1, .int l1), (2, .int l2), (3, .int l3), (4, .int l4), (5, .ref (ad G (6, (106 + a1.toNatClampNeg), 0, 0))), (6, .int s0)] rfl ?_
    refine T_X1_playOn_b59 hG hlv hrc_X1_playOn C  l1 l2 l3 l4 s0 l4 D h
  · have h := ite_f c7 h
    refine j_iload_n C 4 dX1_playOn_53 rfl rfl ?_
    refine j_goto C 59 dX1_playOn_54 (by decide) ?_
    refine j_sub [1, 2, 3, 4, 5, 6, 0] [(0, .ref (ad G (1, 0, 0, 0))), (1, .int l1), (2, .int l2), (3, .int l3), (4, .int l4), (5, .ref (ad G (6, (106 + a1.toNatClampNeg), 0, 0))), (6, .int s0)] rfl ?_
    refine T_X1_playOn_b59 hG hlv hrc_X1_playOn C  l1 l2 l3 l4 s0 l3 D h
def FG_X1_playOn (rc_X1_playOn : Int32 → Int32 → Int32 → Int32 → Dt → Option (Int32 × Dt)) (a1 : Int32) (a2 : Int32) (a3 : Int32) (a4 : Int32) (D : Dt) : Option (Int32 × Dt) := (grd (inB a1 5 = true) (if a2 ≤ a1 then (F_X1_playOn_b18 rc_X1_playOn a1 a2 a3 a4 a3 a4 D) else (if a1 < (4 : Int32) then (if (a1 - a1 / (2 : Int32) * (2 : Int32)) = 0 then (F_X1_playOn_b46 rc_X1_playOn a1 a2 a3 a4 a1 a2 a3 a4 (1 : Int32) D) else (F_X1_playOn_b46 rc_X1_playOn a1 a2 a3 a4 a1 a2 a3 a4 (0 : Int32) D)) else (F_X1_playOn_b18 rc_X1_playOn a1 a2 a3 a4 a3 a4 D))))
set_option maxRecDepth 100000 in
set_option maxHeartbeats 4000000 in
theorem MG_X1_playOn {l : Launch} {G : Gt} {A : Nat → Prop} {lv : Nat} {rc_X1_playOn : Int32 → Int32 → Int32 → Int32 → Dt → Option (Int32 × Dt)} {a1 : Int32} {a2 : Int32} {a3 : Int32} {a4 : Int32} {D : Dt} {r : Int32} {D' : Dt} (hG : Gok G A) (hlv : 6 ≤ lv) (hrc_X1_playOn : ∀ {b1 : Int32} {b2 : Int32} {b3 : Int32} {b4 : Int32} {D : Dt} {r : Int32} {D' : Dt}, rc_X1_playOn b1 b2 b3 b4 D = some (r, D') → MD l G A (lv - 1) yX1_playOn cX1_playOn 13 (some .int) [.ref (ad G (1, 0, 0, 0)), .int b1, .int b2, .int b3, .int b4] D (some (.int r)) D') (h : FG_X1_playOn rc_X1_playOn a1 a2 a3 a4 D = some (r, D')) : MD l G A lv yX1_playOn cX1_playOn 13 (some .int) [.ref (ad G (1, 0, 0, 0)), .int a1, .int a2, .int a3, .int a4] D (some (.int r)) D' := by
  unfold FG_X1_playOn at h
  refine md_start RX1 hG (by decide +kernel) rfl (Nat.le_of_ble_eq_true rfl) (L := [(0, .ref (ad G (1, 0, 0, 0))), (1, .int a1), (2, .int a2), (3, .int a3), (4, .int a4)]) rfl (fun X C => ?_)
  refine j_aload_n C 0 dX1_playOn_0 rfl rfl ?_
  refine j_getS C (1, 0, 5, 0) fl_X1_25 dX1_playOn_1 (by decide) ⟨rfl, rfl⟩ rfl rfl ?_
  refine j_iload_n C 1 dX1_playOn_4 rfl rfl ?_
  obtain ⟨g1, h⟩ := grd_x h
  refine j_aald C 8 5 (6, (106 + a1.toNatClampNeg), 0, 0) dX1_playOn_5 (V_f 4 (by decide) (by decide)) rfl (by decide) g1 rfl ?_
  refine j_astore C [(5, .ref (ad G (6, (106 + a1.toNatClampNeg), 0, 0))), (0, .ref (ad G (1, 0, 0, 0))), (1, .int a1), (2, .int a2), (3, .int a3), (4, .int a4)] dX1_playOn_6 (Nat.le_of_ble_eq_true rfl) rfl rfl ?_
  refine j_iload_n C 2 dX1_playOn_8 rfl rfl ?_
  refine j_iload_n C 3 dX1_playOn_9 rfl rfl ?_
  refine j_icmp_ge C 18 dX1_playOn_10 (by decide) (fun c2 => ?_) (fun c2 => ?_)
  · have h := ite_t c2 h
    refine j_sub [4, 5, 0] [(3, .int a3), (4, .int a4), (5, .ref (ad G (6, (106 + a1.toNatClampNeg), 0, 0)))] rfl ?_
    refine T_X1_playOn_b18 hG hlv hrc_X1_playOn C  a3 a4 D h
  · have h := ite_f c2 h
    refine j_iload_n C 2 dX1_playOn_13 rfl rfl ?_
    refine j_iconst C (4 : Int32) (by decide) dX1_playOn_14 ?_
    refine j_icmp_lt C 35 dX1_playOn_15 (by decide) (fun c5 => ?_) (fun c5 => ?_)
    · have h := ite_t c5 h
      refine j_iload_n C 2 dX1_playOn_35 rfl rfl ?_
      refine j_iconst C (2 : Int32) (by decide) dX1_playOn_36 ?_
      refine j_irem C (by decide) dX1_playOn_37 ?_
      refine j_if_ne C 45 dX1_playOn_38 (by decide) (fun c6 => ?_) (fun c6 => ?_)
      · have h := ite_f c6 h
        refine j_iconst C (0 : Int32) (by decide) dX1_playOn_45 ?_
        refine j_sub [1, 2, 3, 4, 5, 0] [(0, .ref (ad G (1, 0, 0, 0))), (1, .int a1), (2, .int a2), (3, .int a3), (4, .int a4), (5, .ref (ad G (6, (106 + a1.toNatClampNeg), 0, 0)))] rfl ?_
        refine T_X1_playOn_b46 hG hlv hrc_X1_playOn C  a1 a2 a3 a4 (0 : Int32) D h
      · have h := ite_t c6 h
        refine j_iconst C (1 : Int32) (by decide) dX1_playOn_41 ?_
        refine j_goto C 46 dX1_playOn_42 (by decide) ?_
        refine j_sub [1, 2, 3, 4, 5, 0] [(0, .ref (ad G (1, 0, 0, 0))), (1, .int a1), (2, .int a2), (3, .int a3), (4, .int a4), (5, .ref (ad G (6, (106 + a1.toNatClampNeg), 0, 0)))] rfl ?_
        refine T_X1_playOn_b46 hG hlv hrc_X1_playOn C  a1 a2 a3 a4 (1 : Int32) D h
    · have h := ite_f c5 h
      refine j_sub [4, 5, 0] [(3, .int a3), (4, .int a4), (5, .ref (ad G (6, (106 + a1.toNatClampNeg), 0, 0)))] rfl ?_
      refine T_X1_playOn_b18 hG hlv hrc_X1_playOn C  a3 a4 D h
def F_X1_playOn_f : Nat → Int32 → Int32 → Int32 → Int32 → Dt → Option (Int32 × Dt)
  | 0, _, _, _, _, _ => none
  | n + 1, b1, b2, b3, b4, D => FG_X1_playOn (F_X1_playOn_f n) b1 b2 b3 b4 D
theorem M_X1_playOn_f {l : Launch} {G : Gt} {A : Nat → Prop} (hG : Gok G A) : ∀ (n : Nat) {lv : Nat}, 6 + n ≤ lv → ∀ {b1 : Int32} {b2 : Int32} {b3 : Int32} {b4 : Int32} {D : Dt} {r : Int32} {D' : Dt}, F_X1_playOn_f n b1 b2 b3 b4 D = some (r, D') → MD l G A lv yX1_playOn cX1_playOn 13 (some .int) [.ref (ad G (1, 0, 0, 0)), .int b1, .int b2, .int b3, .int b4] D (some (.int r)) D' := by
  intro n
  induction n with
  | zero =>
    intro lv hlv b1 b2 b3 b4 D r D' h
    exact nomatch h
  | succ n ih =>
    intro lv hlv b1 b2 b3 b4 D r D' h
    exact MG_X1_playOn hG (by omega) (fun h => ih (by omega) h) h
def F_X1_playOn (b1 : Int32) (b2 : Int32) (b3 : Int32) (b4 : Int32) (D : Dt) : Option (Int32 × Dt) := F_X1_playOn_f 40 b1 b2 b3 b4 D
theorem M_X1_playOn {l : Launch} {G : Gt} {A : Nat → Prop} {lv : Nat} {b1 : Int32} {b2 : Int32} {b3 : Int32} {b4 : Int32} {D : Dt} {r : Int32} {D' : Dt} (hG : Gok G A) (hlv : 46 ≤ lv) (h : F_X1_playOn b1 b2 b3 b4 D = some (r, D')) : MD l G A lv yX1_playOn cX1_playOn 13 (some .int) [.ref (ad G (1, 0, 0, 0)), .int b1, .int b2, .int b3, .int b4] D (some (.int r)) D' := M_X1_playOn_f hG 40 (by omega) h
def F_X1_play (a1 : Int32) (a2 : Int32) (a3 : Int32) (D : Dt) : Option Dt := (vbd (F_X1_startOn 106 D) (fun D2 => (bnd (setI D2 (8, 1, 0, 0) 3 (((1 : Int32) <<< (a1 &&& 31)) ||| ((1 : Int32) <<< (a2 &&& 31)))) (fun D3 => (cbd (F_X1_playOn (0 : Int32) a3 a1 a2 D3) (fun r5 D6 => (bnd (setI D6 (1, 0, 0, 0) 11 r5) (fun D7 => (some D7)))))))))
set_option maxRecDepth 100000 in
set_option maxHeartbeats 4000000 in
theorem M_X1_play {l : Launch} {G : Gt} {A : Nat → Prop} {lv : Nat} {a1 : Int32} {a2 : Int32} {a3 : Int32} {D : Dt} {D' : Dt} (hG : Gok G A) (hlv : 47 ≤ lv)  (h : F_X1_play a1 a2 a3 D = some D') : MD l G A lv yX1_play cX1_play 4 none [.ref (ad G (1, 0, 0, 0)), .int a1, .int a2, .int a3] D none D' := by
  unfold F_X1_play at h
  refine md_start RX1 hG (by decide +kernel) rfl (Nat.le_of_ble_eq_true rfl) (L := [(0, .ref (ad G (1, 0, 0, 0))), (1, .int a1), (2, .int a2), (3, .int a3)]) rfl (fun X C => ?_)
  refine j_aload_n C 0 dX1_play_0 rfl rfl ?_
  refine j_aload_n C 0 dX1_play_1 rfl rfl ?_
  refine j_getS C (1, 0, 5, 0) fl_X1_25 dX1_play_2 (by decide) ⟨rfl, rfl⟩ rfl rfl ?_
  refine j_iconst C (0 : Int32) (by decide) dX1_play_5 ?_
  refine j_aald C 8 5 (6, 106, 0, 0) dX1_play_6 (V_f 4 (by decide) (by decide)) rfl (by decide) (by decide) (by decide) ?_
  obtain ⟨D2, h1, h⟩ := vbd_x h
  refine j_callV C [.ref (ad G (6, 106, 0, 0))] [] cl_X1_81 (M_X1_startOn (lv := lv - 1) hG (by omega) h1) (by omega) dX1_play_7 (by decide) ⟨rfl, rfl⟩ rfl rfl (Nat.le_of_ble_eq_true rfl) ?_
  refine j_st (st' := []) rfl ?_
  refine j_aload_n C 0 dX1_play_10 rfl rfl ?_
  refine j_getS C (8, 1, 0, 0) fl_X1_12 dX1_play_11 (by decide) ⟨rfl, rfl⟩ rfl rfl ?_
  refine j_iconst C (1 : Int32) (by decide) dX1_play_14 ?_
  refine j_iload_n C 1 dX1_play_15 rfl rfl ?_
  refine j_ishl C dX1_play_16 ?_
  refine j_iconst C (1 : Int32) (by decide) dX1_play_17 ?_
  refine j_iload_n C 2 dX1_play_18 rfl rfl ?_
  refine j_ishl C dX1_play_19 ?_
  refine j_ior C dX1_play_20 ?_
  obtain ⟨D3, eD3, h⟩ := bnd_x h
  refine j_putI C fl_X1_148 dX1_play_21 (by decide) ⟨rfl, rfl⟩ rfl rfl rfl ?_
  refine j_rep eD3 ?_
  refine j_aload_n C 0 dX1_play_24 rfl rfl ?_
  refine j_aload_n C 0 dX1_play_25 rfl rfl ?_
  refine j_iconst C (0 : Int32) (by decide) dX1_play_26 ?_
  refine j_iload_n C 3 dX1_play_27 rfl rfl ?_
  refine j_iload_n C 1 dX1_play_28 rfl rfl ?_
  refine j_iload_n C 2 dX1_play_29 rfl rfl ?_
  obtain ⟨r5, D6, h4, h⟩ := cbd_x h
  refine j_callV C [.int (0 : Int32), .int a3, .int a1, .int a2] [.ref (ad G (1, 0, 0, 0))] cl_X1_151 (M_X1_playOn (lv := lv - 1) hG (by omega) h4) (by omega) dX1_play_30 (by decide) ⟨rfl, rfl⟩ rfl rfl (Nat.le_of_ble_eq_true rfl) ?_
  refine j_st (st' := [.int r5, .ref (ad G (1, 0, 0, 0))]) rfl ?_
  obtain ⟨D7, eD7, h⟩ := bnd_x h
  refine j_putI C fl_X1_97 dX1_play_33 (by decide) ⟨rfl, rfl⟩ rfl rfl rfl ?_
  refine j_rep eD7 ?_
  obtain rfl := Option.some.inj h
  exact j_vret C dX1_play_36
def F_J6_bitCount_0f7a4 (a1 : Int32) (D : Dt) : Option (Int32 × Dt) := (bnd (a1 - (((a1.toUInt32 >>> ((1 : Int32).toUInt32 &&& Int32.toUInt32 31)).toInt32) &&& (1431655765 : Int32))) (fun v1 => (bnd ((v1 &&& (858993459 : Int32)) + (((v1.toUInt32 >>> ((2 : Int32).toUInt32 &&& Int32.toUInt32 31)).toInt32) &&& (858993459 : Int32))) (fun v2 => (bnd ((v2 + ((v2.toUInt32 >>> ((4 : Int32).toUInt32 &&& Int32.toUInt32 31)).toInt32)) &&& (252645135 : Int32)) (fun v3 => (bnd (v3 + ((v3.toUInt32 >>> ((8 : Int32).toUInt32 &&& Int32.toUInt32 31)).toInt32)) (fun v4 => (bnd (v4 + ((v4.toUInt32 >>> ((16 : Int32).toUInt32 &&& Int32.toUInt32 31)).toInt32)) (fun v5 => (some ((v5 &&& (63 : Int32)), D))))))))))))
set_option maxRecDepth 100000 in
set_option maxHeartbeats 4000000 in
theorem M_J6_bitCount_0f7a4 {l : Launch} {G : Gt} {A : Nat → Prop} {lv : Nat} {a1 : Int32} {D : Dt} {r : Int32} {D' : Dt} (hG : Gok G A) (hlv : 1 ≤ lv)  (h : F_J6_bitCount_0f7a4 a1 D = some (r, D')) : MD l G A lv yJ6_bitCount_0f7a4 cJ6_bitCount_0f7a4 1 (some .int) [.int a1] D (some (.int r)) D' := by
  unfold F_J6_bitCount_0f7a4 at h
  refine md_start RJ6 hG (by decide +kernel) rfl (Nat.le_of_ble_eq_true rfl) (L := [(0, .int a1)]) rfl (fun X C => ?_)
  refine j_iload_n C 0 dJ6_bitCount_0f7a4_0 rfl rfl ?_
  refine j_iload_n C 0 dJ6_bitCount_0f7a4_1 rfl rfl ?_
  refine j_iconst C (1 : Int32) (by decide) dJ6_bitCount_0f7a4_2 ?_
  refine j_iushr C dJ6_bitCount_0f7a4_3 ?_
  refine j_ldcw C (1431655765 : Int32) kc_J6_265 dJ6_bitCount_0f7a4_4 ?_
  refine j_iand C dJ6_bitCount_0f7a4_7 ?_
  refine j_isub C dJ6_bitCount_0f7a4_8 ?_
  obtain ⟨v1, ev1, h⟩ := bnd_x h
  refine j_istore_n C [(0, .int v1)] dJ6_bitCount_0f7a4_9 rfl (Nat.le_of_ble_eq_true rfl) ev1 rfl ?_
  refine j_iload_n C 0 dJ6_bitCount_0f7a4_10 rfl rfl ?_
  refine j_ldcw C (858993459 : Int32) kc_J6_266 dJ6_bitCount_0f7a4_11 ?_
  refine j_iand C dJ6_bitCount_0f7a4_14 ?_
  refine j_iload_n C 0 dJ6_bitCount_0f7a4_15 rfl rfl ?_
  refine j_iconst C (2 : Int32) (by decide) dJ6_bitCount_0f7a4_16 ?_
  refine j_iushr C dJ6_bitCount_0f7a4_17 ?_
  refine j_ldcw C (858993459 : Int32) kc_J6_266 dJ6_bitCount_0f7a4_18 ?_
  refine j_iand C dJ6_bitCount_0f7a4_21 ?_
  refine j_iadd C dJ6_bitCount_0f7a4_22 ?_
  obtain ⟨v2, ev2, h⟩ := bnd_x h
  refine j_istore_n C [(0, .int v2)] dJ6_bitCount_0f7a4_23 rfl (Nat.le_of_ble_eq_true rfl) ev2 rfl ?_
  refine j_iload_n C 0 dJ6_bitCount_0f7a4_24 rfl rfl ?_
  refine j_iload_n C 0 dJ6_bitCount_0f7a4_25 rfl rfl ?_
  refine j_iconst C (4 : Int32) (by decide) dJ6_bitCount_0f7a4_26 ?_
  refine j_iushr C dJ6_bitCount_0f7a4_27 ?_
  refine j_iadd C dJ6_bitCount_0f7a4_28 ?_
  refine j_ldcw C (252645135 : Int32) kc_J6_267 dJ6_bitCount_0f7a4_29 ?_
  refine j_iand C dJ6_bitCount_0f7a4_32 ?_
  obtain ⟨v3, ev3, h⟩ := bnd_x h
  refine j_istore_n C [(0, .int v3)] dJ6_bitCount_0f7a4_33 rfl (Nat.le_of_ble_eq_true rfl) ev3 rfl ?_
  refine j_iload_n C 0 dJ6_bitCount_0f7a4_34 rfl rfl ?_
  refine j_iload_n C 0 dJ6_bitCount_0f7a4_35 rfl rfl ?_
  refine j_bipush C (8 : Int32) (by decide) dJ6_bitCount_0f7a4_36 ?_
  refine j_iushr C dJ6_bitCount_0f7a4_38 ?_
  refine j_iadd C dJ6_bitCount_0f7a4_39 ?_
  obtain ⟨v4, ev4, h⟩ := bnd_x h
  refine j_istore_n C [(0, .int v4)] dJ6_bitCount_0f7a4_40 rfl (Nat.le_of_ble_eq_true rfl) ev4 rfl ?_
  refine j_iload_n C 0 dJ6_bitCount_0f7a4_41 rfl rfl ?_
  refine j_iload_n C 0 dJ6_bitCount_0f7a4_42 rfl rfl ?_
  refine j_bipush C (16 : Int32) (by decide) dJ6_bitCount_0f7a4_43 ?_
  refine j_iushr C dJ6_bitCount_0f7a4_45 ?_
  refine j_iadd C dJ6_bitCount_0f7a4_46 ?_
  obtain ⟨v5, ev5, h⟩ := bnd_x h
  refine j_istore_n C [(0, .int v5)] dJ6_bitCount_0f7a4_47 rfl (Nat.le_of_ble_eq_true rfl) ev5 rfl ?_
  refine j_iload_n C 0 dJ6_bitCount_0f7a4_48 rfl rfl ?_
  refine j_bipush C (63 : Int32) (by decide) dJ6_bitCount_0f7a4_49 ?_
  refine j_iand C dJ6_bitCount_0f7a4_51 ?_
  obtain ⟨rfl, rfl⟩ := pr_x h
  exact j_iret C dJ6_bitCount_0f7a4_52
def F_X1_sameWithFewer_b35 (a1 : Int32) (k2 : Int32 → Int32 → Dt → Option (Int32 × Dt)) (l1 : Int32) (l2 : Int32) (D : Dt) : Option (Int32 × Dt) := (bnd (l2 + (1 : Int32)) (fun v4 => (k2 l1 v4 D)))
set_option maxRecDepth 100000 in
set_option maxHeartbeats 4000000 in
theorem T_X1_sameWithFewer_b35 {r : Int32} {D' : Dt} {X : Ctx} {l : Launch} {G : Gt} {A : Nat → Prop} {lv : Nat} {a1 : Int32}  {k2 : Int32 → Int32 → Dt → Option (Int32 × Dt)} (hG : Gok G A) (hlv : 1 ≤ lv)   (C : Cx X cX1_sameWithFewer RX1 G l A lv 4 (some .int) (some (.int r)) D') (hk2 : ∀ (l1 : Int32) (l2 : Int32) (D : Dt), k2 l1 l2 D = some (r, D') → J X (Rep G D) 2 [(0, .ref (ad G (1, 0, 0, 0))), (1, .int l1), (2, .int l2)] []) : ∀ (l1 : Int32) (l2 : Int32) (D : Dt), F_X1_sameWithFewer_b35 a1 k2 l1 l2 D = some (r, D') → J X (Rep G D) 35 [(0, .ref (ad G (1, 0, 0, 0))), (1, .int l1), (2, .int l2)] [] := by
  intro l1 l2 D h
  unfold F_X1_sameWithFewer_b35 at h
  obtain ⟨v4, ev4, h⟩ := bnd_x h
  refine j_iinc C 2 [(2, .int v4), (0, .ref (ad G (1, 0, 0, 0))), (1, .int l1)] dX1_sameWithFewer_35 rfl (Nat.le_of_ble_eq_true rfl) (ev4.trans (congrArg (l2 + ·) (by decide))) rfl ?_
  refine j_goto C 2 dX1_sameWithFewer_38 (by decide) ?_
  refine j_sub [1, 2, 0] [(0, .ref (ad G (1, 0, 0, 0))), (1, .int l1), (2, .int v4)] rfl ?_
  exact hk2 l1 v4 D h
def F_X1_sameWithFewer_b2 (a1 : Int32)  : Nat → Int32 → Int32 → Dt → Option (Int32 × Dt)
  | 0, _, _, _ => none
  | f + 1, l1, l2, D => (if (5 : Int32) ≤ l2 then (some ((-1 : Int32), D)) else (bnd (l1 &&& (((1 : Int32) <<< (l2 &&& 31)) ^^^ (-1 : Int32))) (fun v2 => (if v2 = l1 then (F_X1_sameWithFewer_b35 a1 (fun l1_5 l2_6 D7 => (F_X1_sameWithFewer_b2 a1 f l1_5 l2_6 D7)) l1 l2 D) else (grd (inB v2 32 = true) (if (((D.1 (1, 0, 10, 0) (v2.toNatClampNeg)) >>> (l2 &&& 31)) &&& (1 : Int32)) = 0 then (some (v2, D)) else (F_X1_sameWithFewer_b35 a1 (fun l1_10 l2_11 D12 => (F_X1_sameWithFewer_b2 a1 f l1_10 l2_11 D12)) l1 l2 D)))))))
set_option maxRecDepth 100000 in
set_option maxHeartbeats 4000000 in
theorem T_X1_sameWithFewer_b2 {r : Int32} {D' : Dt} {X : Ctx} {l : Launch} {G : Gt} {A : Nat → Prop} {lv : Nat} {a1 : Int32}   (hG : Gok G A) (hlv : 1 ≤ lv)   (C : Cx X cX1_sameWithFewer RX1 G l A lv 4 (some .int) (some (.int r)) D')  : ∀ (f : Nat) (l1 : Int32) (l2 : Int32) (D : Dt), F_X1_sameWithFewer_b2 a1 f l1 l2 D = some (r, D') → J X (Rep G D) 2 [(0, .ref (ad G (1, 0, 0, 0))), (1, .int l1), (2, .int l2)] [] := by
  intro f
  induction f with
  | zero =>
    intro l1 l2 D h
    exact nomatch h
  | succ f ih =>
    intro l1 l2 D h
    rw [F_X1_sameWithFewer_b2] at h
    refine j_iload_n C 2 dX1_sameWithFewer_2 rfl rfl ?_
    refine j_iconst C (5 : Int32) (by decide) dX1_sameWithFewer_3 ?_
    refine j_icmp_ge C 41 dX1_sameWithFewer_4 (by decide) (fun c1 => ?_) (fun c1 => ?_)
    · have h := ite_t c1 h
      refine j_iconst C (-1 : Int32) (by decide) dX1_sameWithFewer_41 ?_
      obtain ⟨rfl, rfl⟩ := pr_x h
      exact j_iret C dX1_sameWithFewer_42
    · have h := ite_f c1 h
      refine j_iload_n C 1 dX1_sameWithFewer_7 rfl rfl ?_
      refine j_iconst C (1 : Int32) (by decide) dX1_sameWithFewer_8 ?_
      refine j_iload_n C 2 dX1_sameWithFewer_9 rfl rfl ?_
      refine j_ishl C dX1_sameWithFewer_10 ?_
      refine j_iconst C (-1 : Int32) (by decide) dX1_sameWithFewer_11 ?_
      refine j_ixor C dX1_sameWithFewer_12 ?_
      refine j_iand C dX1_sameWithFewer_13 ?_
      obtain ⟨v2, ev2, h⟩ := bnd_x h
      refine j_istore_n C [(3, .int v2), (0, .ref (ad G (1, 0, 0, 0))), (1, .int l1), (2, .int l2)] dX1_sameWithFewer_14 rfl (Nat.le_of_ble_eq_true rfl) ev2 rfl ?_
      refine j_iload_n C 0 dX1_sameWithFewer_15 rfl rfl ?_
      refine j_iload_n C 2 dX1_sameWithFewer_16 rfl rfl ?_
      refine j_icmp_eq C 35 dX1_sameWithFewer_17 (by decide) (fun c3 => ?_) (fun c3 => ?_)
      · have h := ite_t c3 h
        refine j_sub [1, 2, 3] [(0, .ref (ad G (1, 0, 0, 0))), (1, .int l1), (2, .int l2)] rfl ?_
        refine T_X1_sameWithFewer_b35 hG hlv  C (fun l1_5 l2_6 D7 h => ?_) l1 l2 D h
        · exact ih l1_5 l2_6 D7 h
      · have h := ite_f c3 h
        refine j_aload_n C 1 dX1_sameWithFewer_20 rfl rfl ?_
        refine j_getS C (1, 0, 10, 0) fl_X1_45 dX1_sameWithFewer_21 (by decide) ⟨rfl, rfl⟩ rfl rfl ?_
        refine j_iload_n C 0 dX1_sameWithFewer_24 rfl rfl ?_
        obtain ⟨g8, h⟩ := grd_x h
        refine j_ialdK C 32 (v2.toNatClampNeg) dX1_sameWithFewer_25 (V_f 9 (by decide) (by decide)) rfl g8 rfl ?_
        refine j_iload_n C 3 dX1_sameWithFewer_26 rfl rfl ?_
        refine j_ishr C dX1_sameWithFewer_27 ?_
        refine j_iconst C (1 : Int32) (by decide) dX1_sameWithFewer_28 ?_
        refine j_iand C dX1_sameWithFewer_29 ?_
        refine j_if_ne C 35 dX1_sameWithFewer_30 (by decide) (fun c9 => ?_) (fun c9 => ?_)
        · have h := ite_f c9 h
          refine j_sub [1, 2, 3] [(0, .ref (ad G (1, 0, 0, 0))), (1, .int l1), (2, .int l2)] rfl ?_
          refine T_X1_sameWithFewer_b35 hG hlv  C (fun l1_10 l2_11 D12 h => ?_) l1 l2 D h
          · exact ih l1_10 l2_11 D12 h
        · have h := ite_t c9 h
          refine j_iload_n C 0 dX1_sameWithFewer_33 rfl rfl ?_
          obtain ⟨rfl, rfl⟩ := pr_x h
          exact j_iret C dX1_sameWithFewer_34
def F_X1_sameWithFewer (a1 : Int32) (D : Dt) : Option (Int32 × Dt) := (F_X1_sameWithFewer_b2 a1 2000 a1 (0 : Int32) D)
set_option maxRecDepth 100000 in
set_option maxHeartbeats 4000000 in
theorem M_X1_sameWithFewer {l : Launch} {G : Gt} {A : Nat → Prop} {lv : Nat} {a1 : Int32} {D : Dt} {r : Int32} {D' : Dt} (hG : Gok G A) (hlv : 1 ≤ lv)  (h : F_X1_sameWithFewer a1 D = some (r, D')) : MD l G A lv yX1_sameWithFewer cX1_sameWithFewer 4 (some .int) [.ref (ad G (1, 0, 0, 0)), .int a1] D (some (.int r)) D' := by
  unfold F_X1_sameWithFewer at h
  refine md_start RX1 hG (by decide +kernel) rfl (Nat.le_of_ble_eq_true rfl) (L := [(0, .ref (ad G (1, 0, 0, 0))), (1, .int a1)]) rfl (fun X C => ?_)
  refine j_iconst C (0 : Int32) (by decide) dX1_sameWithFewer_0 ?_
  refine j_istore_n C [(2, .int (0 : Int32)), (0, .ref (ad G (1, 0, 0, 0))), (1, .int a1)] dX1_sameWithFewer_1 rfl (Nat.le_of_ble_eq_true rfl) rfl rfl ?_
  refine j_sub [1, 2, 0] [(0, .ref (ad G (1, 0, 0, 0))), (1, .int a1), (2, .int (0 : Int32))] rfl ?_
  refine T_X1_sameWithFewer_b2 hG hlv  C  2000 a1 (0 : Int32) D h
def F_X1_findShunned_b162 (a1 : Int32) (k12 : Int32 → Int32 → Dt → Option Dt) (l1 : Int32) (l2 : Int32) (D : Dt) : Option Dt := (bnd (l2 + (1 : Int32)) (fun v28 => (k12 l1 v28 D)))
set_option maxRecDepth 100000 in
set_option maxHeartbeats 4000000 in
theorem T_X1_findShunned_b162 {D' : Dt} {X : Ctx} {l : Launch} {G : Gt} {A : Nat → Prop} {lv : Nat} {a1 : Int32}  {k12 : Int32 → Int32 → Dt → Option Dt} (hG : Gok G A) (hlv : 7 ≤ lv)   (C : Cx X cX1_findShunned RX1 G l A lv 6 none none D') (hk12 : ∀ (l1 : Int32) (l2 : Int32) (D : Dt), k12 l1 l2 D = some D' → J X (Rep G D) 12 [(0, .ref (ad G (1, 0, 0, 0))), (1, .int l1), (2, .int l2)] []) : ∀ (l1 : Int32) (l2 : Int32) (D : Dt), F_X1_findShunned_b162 a1 k12 l1 l2 D = some D' → J X (Rep G D) 162 [(0, .ref (ad G (1, 0, 0, 0))), (1, .int l1), (2, .int l2)] [] := by
  intro l1 l2 D h
  unfold F_X1_findShunned_b162 at h
  obtain ⟨v28, ev28, h⟩ := bnd_x h
  refine j_iinc C 2 [(2, .int v28), (0, .ref (ad G (1, 0, 0, 0))), (1, .int l1)] dX1_findShunned_162 rfl (Nat.le_of_ble_eq_true rfl) (ev28.trans (congrArg (l2 + ·) (by decide))) rfl ?_
  refine j_goto C 12 dX1_findShunned_165 (by decide) ?_
  refine j_sub [1, 2, 0] [(0, .ref (ad G (1, 0, 0, 0))), (1, .int l1), (2, .int v28)] rfl ?_
  exact hk12 l1 v28 D h
def F_X1_findShunned_b151 (a1 : Int32) (k12 : Int32 → Int32 → Dt → Option Dt) (l1 : Int32) (l2 : Int32) (l4 : Int32) (D : Dt) : Option Dt := (bnd (setI D (1, 0, 0, 0) 11 l4) (fun D26 => (bnd (setI D26 (1, 0, 0, 0) 10 l2) (fun D27 => (F_X1_findShunned_b162 a1 (fun l1_29 l2_30 D31 => (k12 l1_29 l2_30 D31)) l1 l2 D27)))))
set_option maxRecDepth 100000 in
set_option maxHeartbeats 4000000 in
theorem T_X1_findShunned_b151 {D' : Dt} {X : Ctx} {l : Launch} {G : Gt} {A : Nat → Prop} {lv : Nat} {a1 : Int32}  {k12 : Int32 → Int32 → Dt → Option Dt} (hG : Gok G A) (hlv : 7 ≤ lv)   (C : Cx X cX1_findShunned RX1 G l A lv 6 none none D') (hk12 : ∀ (l1 : Int32) (l2 : Int32) (D : Dt), k12 l1 l2 D = some D' → J X (Rep G D) 12 [(0, .ref (ad G (1, 0, 0, 0))), (1, .int l1), (2, .int l2)] []) : ∀ (l1 : Int32) (l2 : Int32) (l4 : Int32) (D : Dt), F_X1_findShunned_b151 a1 k12 l1 l2 l4 D = some D' → J X (Rep G D) 151 [(0, .ref (ad G (1, 0, 0, 0))), (1, .int l1), (2, .int l2), (4, .int l4)] [] := by
  intro l1 l2 l4 D h
  unfold F_X1_findShunned_b151 at h
  refine j_aload_n C 0 dX1_findShunned_151 rfl rfl ?_
  refine j_iload C 3 dX1_findShunned_152 rfl ?_
  obtain ⟨D26, eD26, h⟩ := bnd_x h
  refine j_putI C fl_X1_97 dX1_findShunned_154 (by decide) ⟨rfl, rfl⟩ rfl rfl rfl ?_
  refine j_rep eD26 ?_
  refine j_aload_n C 0 dX1_findShunned_157 rfl rfl ?_
  refine j_iload_n C 2 dX1_findShunned_158 rfl rfl ?_
  obtain ⟨D27, eD27, h⟩ := bnd_x h
  refine j_putI C fl_X1_138 dX1_findShunned_159 (by decide) ⟨rfl, rfl⟩ rfl rfl rfl ?_
  refine j_rep eD27 ?_
  refine j_sub [0, 1, 2] [(0, .ref (ad G (1, 0, 0, 0))), (1, .int l1), (2, .int l2)] rfl ?_
  refine T_X1_findShunned_b162 hG hlv  C (fun l1_29 l2_30 D31 h => ?_) l1 l2 D27 h
  · exact hk12 l1_29 l2_30 D31 h
def F_X1_findShunned_b126 (a1 : Int32) (k12 : Int32 → Int32 → Dt → Option Dt) (l1 : Int32) (l2 : Int32) (l4 : Int32) (s0 : Int32) (D : Dt) : Option Dt := (if (D.1 (1, 0, 0, 0) 11) < l4 then (F_X1_findShunned_b151 a1 (fun l1_32 l2_33 D34 => (k12 l1_32 l2_33 D34)) l1 l2 l4 D) else (if l4 = (D.1 (1, 0, 0, 0) 11) then (if s0 = 0 then (F_X1_findShunned_b162 a1 (fun l1_40 l2_41 D42 => (k12 l1_40 l2_41 D42)) l1 l2 D) else (F_X1_findShunned_b151 a1 (fun l1_43 l2_44 D45 => (k12 l1_43 l2_44 D45)) l1 l2 l4 D)) else (F_X1_findShunned_b162 a1 (fun l1_36 l2_37 D38 => (k12 l1_36 l2_37 D38)) l1 l2 D)))
set_option maxRecDepth 100000 in
set_option maxHeartbeats 4000000 in
theorem T_X1_findShunned_b126 {D' : Dt} {X : Ctx} {l : Launch} {G : Gt} {A : Nat → Prop} {lv : Nat} {a1 : Int32}  {k12 : Int32 → Int32 → Dt → Option Dt} (hG : Gok G A) (hlv : 7 ≤ lv)   (C : Cx X cX1_findShunned RX1 G l A lv 6 none none D') (hk12 : ∀ (l1 : Int32) (l2 : Int32) (D : Dt), k12 l1 l2 D = some D' → J X (Rep G D) 12 [(0, .ref (ad G (1, 0, 0, 0))), (1, .int l1), (2, .int l2)] []) : ∀ (l1 : Int32) (l2 : Int32) (l4 : Int32) (s0 : Int32) (D : Dt), F_X1_findShunned_b126 a1 k12 l1 l2 l4 s0 D = some D' → J X (Rep G D) 126 [(0, .ref (ad G (1, 0, 0, 0))), (1, .int l1), (2, .int l2), (4, .int l4)] [.int s0] := by
  intro l1 l2 l4 s0 D h
  unfold F_X1_findShunned_b126 at h
  refine j_istore C [(5, .int s0), (0, .ref (ad G (1, 0, 0, 0))), (1, .int l1), (2, .int l2), (4, .int l4)] dX1_findShunned_126 (Nat.le_of_ble_eq_true rfl) rfl rfl ?_
  refine j_iload C 4 dX1_findShunned_128 rfl ?_
  refine j_aload_n C 1 dX1_findShunned_130 rfl rfl ?_
  refine j_getI C fl_X1_97 dX1_findShunned_131 (by decide) ⟨rfl, rfl⟩ rfl ?_
  refine j_icmp_gt C 151 dX1_findShunned_134 (by decide) (fun c25 => ?_) (fun c25 => ?_)
  · have h := ite_t c25 h
    refine j_sub [1, 2, 3, 4] [(0, .ref (ad G (1, 0, 0, 0))), (1, .int l1), (2, .int l2), (4, .int l4)] rfl ?_
    refine T_X1_findShunned_b151 hG hlv  C (fun l1_32 l2_33 D34 h => ?_) l1 l2 l4 D h
    · exact hk12 l1_32 l2_33 D34 h
  · have h := ite_f c25 h
    refine j_iload C 4 dX1_findShunned_137 rfl ?_
    refine j_aload_n C 1 dX1_findShunned_139 rfl rfl ?_
    refine j_getI C fl_X1_97 dX1_findShunned_140 (by decide) ⟨rfl, rfl⟩ rfl ?_
    refine j_icmp_ne C 162 dX1_findShunned_143 (by decide) (fun c35 => ?_) (fun c35 => ?_)
    · have h := ite_f c35 h
      refine j_sub [1, 2, 3] [(0, .ref (ad G (1, 0, 0, 0))), (1, .int l1), (2, .int l2)] rfl ?_
      refine T_X1_findShunned_b162 hG hlv  C (fun l1_36 l2_37 D38 h => ?_) l1 l2 D h
      · exact hk12 l1_36 l2_37 D38 h
    · have h := ite_t c35 h
      refine j_iload C 0 dX1_findShunned_146 rfl ?_
      refine j_if_eq C 162 dX1_findShunned_148 (by decide) (fun c39 => ?_) (fun c39 => ?_)
      · have h := ite_t c39 h
        refine j_sub [1, 2, 3] [(0, .ref (ad G (1, 0, 0, 0))), (1, .int l1), (2, .int l2)] rfl ?_
        refine T_X1_findShunned_b162 hG hlv  C (fun l1_40 l2_41 D42 h => ?_) l1 l2 D h
        · exact hk12 l1_40 l2_41 D42 h
      · have h := ite_f c39 h
        refine j_sub [1, 2, 3, 4] [(0, .ref (ad G (1, 0, 0, 0))), (1, .int l1), (2, .int l2), (4, .int l4)] rfl ?_
        refine T_X1_findShunned_b151 hG hlv  C (fun l1_43 l2_44 D45 h => ?_) l1 l2 l4 D h
        · exact hk12 l1_43 l2_44 D45 h
def F_X1_findShunned_b12 (a1 : Int32)  : Nat → Int32 → Int32 → Dt → Option Dt
  | 0, _, _, _ => none
  | f + 1, l1, l2, D => (if ((1 : Int32) <<< ((D.1 (5, 0, 0, 0) 3) &&& 31)) ≤ l2 then (some D) else (cbd (F_X1_sameWithFewer l2 D) (fun r5 D6 => (if r5 = (-1 : Int32) then (vbd (F_X1_startOn 105 D6) (fun D9 => (bnd (setI D9 (8, 1, 0, 0) 2 l2) (fun D10 => (vbd (F_X8_passTillBare 1 105 l1 D10) (fun D12 => (grd (inB l2 32 = true) (bnd (setI D12 (1, 0, 10, 0) (l2.toNatClampNeg) (D12.1 (8, 1, 0, 0) 7)) (fun D14 => (cbd (F_X10_total (6, 105, 4, 0) D14) (fun r16 D17 => (cbd (F_J6_bitCount_0f7a4 l2 D17) (fun r19 D20 => (cbd (F_J6_bitCount_0f7a4 (D20.1 (1, 0, 0, 0) 10) D20) (fun r22 D23 => (if r22 ≤ r19 then (F_X1_findShunned_b126 a1 (fun l1_46 l2_47 D48 => (F_X1_findShunned_b12 a1 f l1_46 l2_47 D48)) l1 l2 r16 (0 : Int32) D23) else (F_X1_findShunned_b126 a1 (fun l1_49 l2_50 D51 => (F_X1_findShunned_b12 a1 f l1_49 l2_50 D51)) l1 l2 r16 (1 : Int32) D23))))))))))))))))) else (grd (inB r5 32 = true) (grd (inB l2 32 = true) (bnd (setI D6 (1, 0, 10, 0) (l2.toNatClampNeg) (D6.1 (1, 0, 10, 0) (r5.toNatClampNeg))) (fun D54 => (F_X1_findShunned_b162 a1 (fun l1_55 l2_56 D57 => (F_X1_findShunned_b12 a1 f l1_55 l2_56 D57)) l1 l2 D54)))))))))
set_option maxRecDepth 100000 in
set_option maxHeartbeats 4000000 in
theorem T_X1_findShunned_b12 {D' : Dt} {X : Ctx} {l : Launch} {G : Gt} {A : Nat → Prop} {lv : Nat} {a1 : Int32}   (hG : Gok G A) (hlv : 7 ≤ lv)   (C : Cx X cX1_findShunned RX1 G l A lv 6 none none D')  : ∀ (f : Nat) (l1 : Int32) (l2 : Int32) (D : Dt), F_X1_findShunned_b12 a1 f l1 l2 D = some D' → J X (Rep G D) 12 [(0, .ref (ad G (1, 0, 0, 0))), (1, .int l1), (2, .int l2)] [] := by
  intro f
  induction f with
  | zero =>
    intro l1 l2 D h
    exact nomatch h
  | succ f ih =>
    intro l1 l2 D h
    rw [F_X1_findShunned_b12] at h
    refine j_iload_n C 2 dX1_findShunned_12 rfl rfl ?_
    refine j_iconst C (1 : Int32) (by decide) dX1_findShunned_13 ?_
    refine j_aload_n C 0 dX1_findShunned_14 rfl rfl ?_
    refine j_getS C (9, 0, 0, 0) fl_X1_48 dX1_findShunned_15 (by decide) ⟨rfl, rfl⟩ rfl rfl ?_
    refine j_getS C (5, 0, 0, 0) fl_X1_65 dX1_findShunned_18 (by decide) ⟨rfl, rfl⟩ rfl rfl ?_
    refine j_getI C fl_X1_111 dX1_findShunned_21 (V_95 (by decide)) ⟨rfl, rfl⟩ rfl ?_
    refine j_ishl C dX1_findShunned_24 ?_
    refine j_icmp_ge C 168 dX1_findShunned_25 (by decide) (fun c3 => ?_) (fun c3 => ?_)
    · have h := ite_t c3 h
      obtain rfl := Option.some.inj h
      exact j_vret C dX1_findShunned_168
    · have h := ite_f c3 h
      refine j_aload_n C 0 dX1_findShunned_28 rfl rfl ?_
      refine j_iload_n C 2 dX1_findShunned_29 rfl rfl ?_
      obtain ⟨r5, D6, h4, h⟩ := cbd_x h
      refine j_callV C [.int l2] [] cl_X1_162 (M_X1_sameWithFewer (lv := lv - 1) hG (by omega) h4) (by omega) dX1_findShunned_30 (by decide) ⟨rfl, rfl⟩ rfl rfl (Nat.le_of_ble_eq_true rfl) ?_
      refine j_st (st' := [.int r5]) rfl ?_
      refine j_istore_n C [(3, .int r5), (0, .ref (ad G (1, 0, 0, 0))), (1, .int l1), (2, .int l2)] dX1_findShunned_33 rfl (Nat.le_of_ble_eq_true rfl) rfl rfl ?_
      refine j_iload_n C 0 dX1_findShunned_34 rfl rfl ?_
      refine j_iconst C (-1 : Int32) (by decide) dX1_findShunned_35 ?_
      refine j_icmp_eq C 54 dX1_findShunned_36 (by decide) (fun c7 => ?_) (fun c7 => ?_)
      · have h := ite_t c7 h
        refine j_aload_n C 1 dX1_findShunned_54 rfl rfl ?_
        refine j_aload_n C 1 dX1_findShunned_55 rfl rfl ?_
        refine j_getS C (6, 105, 0, 0) fl_X1_21 dX1_findShunned_56 (by decide) ⟨rfl, rfl⟩ rfl rfl ?_
        obtain ⟨D9, h8, h⟩ := vbd_x h
        refine j_callV C [.ref (ad G (6, 105, 0, 0))] [] cl_X1_81 (M_X1_startOn (lv := lv - 1) hG (by omega) h8) (by omega) dX1_findShunned_59 (by decide) ⟨rfl, rfl⟩ rfl rfl (Nat.le_of_ble_eq_true rfl) ?_
        refine j_st (st' := []) rfl ?_
        refine j_aload_n C 1 dX1_findShunned_62 rfl rfl ?_
        refine j_getS C (8, 1, 0, 0) fl_X1_12 dX1_findShunned_63 (by decide) ⟨rfl, rfl⟩ rfl rfl ?_
        refine j_iload_n C 3 dX1_findShunned_66 rfl rfl ?_
        obtain ⟨D10, eD10, h⟩ := bnd_x h
        refine j_putI C fl_X1_166 dX1_findShunned_67 (by decide) ⟨rfl, rfl⟩ rfl rfl rfl ?_
        refine j_rep eD10 ?_
        refine j_aload_n C 1 dX1_findShunned_70 rfl rfl ?_
        refine j_getS C (8, 1, 0, 0) fl_X1_12 dX1_findShunned_71 (by decide) ⟨rfl, rfl⟩ rfl rfl ?_
        refine j_aload_n C 1 dX1_findShunned_74 rfl rfl ?_
        refine j_getS C (6, 105, 0, 0) fl_X1_21 dX1_findShunned_75 (by decide) ⟨rfl, rfl⟩ rfl rfl ?_
        refine j_iload_n C 2 dX1_findShunned_78 rfl rfl ?_
        obtain ⟨D12, h11, h⟩ := vbd_x h
        refine j_callV C [.ref (ad G (6, 105, 0, 0)), .int l1] [] cl_X1_126 (M_X8_passTillBare (lv := lv - 1) hG (by omega) h11) (by omega) dX1_findShunned_79 (by decide) ⟨rfl, rfl⟩ rfl rfl (Nat.le_of_ble_eq_true rfl) ?_
        refine j_st (st' := []) rfl ?_
        refine j_aload_n C 1 dX1_findShunned_82 rfl rfl ?_
        refine j_getS C (1, 0, 10, 0) fl_X1_45 dX1_findShunned_83 (by decide) ⟨rfl, rfl⟩ rfl rfl ?_
        refine j_iload_n C 3 dX1_findShunned_86 rfl rfl ?_
        refine j_aload_n C 1 dX1_findShunned_87 rfl rfl ?_
        refine j_getS C (8, 1, 0, 0) fl_X1_12 dX1_findShunned_88 (by decide) ⟨rfl, rfl⟩ rfl rfl ?_
        refine j_getI C fl_X1_169 dX1_findShunned_91 (by decide) ⟨rfl, rfl⟩ rfl ?_
        obtain ⟨g13, h⟩ := grd_x h
        obtain ⟨D14, eD14, h⟩ := bnd_x h
        refine j_iastK C 32 (l2.toNatClampNeg) dX1_findShunned_94 (V_f 9 (by decide) (by decide)) rfl g13 rfl ?_
        refine j_rep eD14 ?_
        refine j_aload_n C 1 dX1_findShunned_95 rfl rfl ?_
        refine j_getS C (6, 105, 0, 0) fl_X1_21 dX1_findShunned_96 (by decide) ⟨rfl, rfl⟩ rfl rfl ?_
        refine j_getS C (6, 105, 4, 0) fl_X1_104 dX1_findShunned_99 (by decide) ⟨rfl, rfl⟩ rfl rfl ?_
        obtain ⟨r16, D17, h15, h⟩ := cbd_x h
        refine j_callS C [.ref (ad G (6, 105, 4, 0))] [] cl_X1_134 (M_X10_total (lv := lv - 1) hG (by omega) h15) (by omega) dX1_findShunned_102 rfl rfl (Nat.le_of_ble_eq_true rfl) ?_
        refine j_st (st' := [.int r16]) rfl ?_
        refine j_istore C [(4, .int r16), (3, .int r5), (0, .ref (ad G (1, 0, 0, 0))), (1, .int l1), (2, .int l2)] dX1_findShunned_105 (Nat.le_of_ble_eq_true rfl) rfl rfl ?_
        refine j_iload_n C 4 dX1_findShunned_107 rfl rfl ?_
        obtain ⟨r19, D20, h18, h⟩ := cbd_x h
        refine j_callS C [.int l2] [] cl_X1_171 (M_J6_bitCount_0f7a4 (lv := lv - 1) hG (by omega) h18) (by omega) dX1_findShunned_108 rfl rfl (Nat.le_of_ble_eq_true rfl) ?_
        refine j_st (st' := [.int r19]) rfl ?_
        refine j_aload_n C 2 dX1_findShunned_111 rfl rfl ?_
        refine j_getI C fl_X1_138 dX1_findShunned_112 (by decide) ⟨rfl, rfl⟩ rfl ?_
        obtain ⟨r22, D23, h21, h⟩ := cbd_x h
        refine j_callS C [.int (D20.1 (1, 0, 0, 0) 10)] [.int r19] cl_X1_171 (M_J6_bitCount_0f7a4 (lv := lv - 1) hG (by omega) h21) (by omega) dX1_findShunned_115 rfl rfl (Nat.le_of_ble_eq_true rfl) ?_
        refine j_st (st' := [.int r22, .int r19]) rfl ?_
        refine j_icmp_ge C 125 dX1_findShunned_118 (by decide) (fun c24 => ?_) (fun c24 => ?_)
        · have h := ite_t c24 h
          refine j_iconst C (0 : Int32) (by decide) dX1_findShunned_125 ?_
          refine j_sub [2, 3, 4, 0] [(0, .ref (ad G (1, 0, 0, 0))), (1, .int l1), (2, .int l2), (4, .int r16)] rfl ?_
          refine T_X1_findShunned_b126 hG hlv  C (fun l1_46 l2_47 D48 h => ?_) l1 l2 r16 (0 : Int32) D23 h
          · exact ih l1_46 l2_47 D48 h
        · have h := ite_f c24 h
          refine j_iconst C (1 : Int32) (by decide) dX1_findShunned_121 ?_
          refine j_goto C 126 dX1_findShunned_122 (by decide) ?_
          refine j_sub [2, 3, 4, 0] [(0, .ref (ad G (1, 0, 0, 0))), (1, .int l1), (2, .int l2), (4, .int r16)] rfl ?_
          refine T_X1_findShunned_b126 hG hlv  C (fun l1_49 l2_50 D51 h => ?_) l1 l2 r16 (1 : Int32) D23 h
          · exact ih l1_49 l2_50 D51 h
      · have h := ite_f c7 h
        refine j_aload_n C 1 dX1_findShunned_39 rfl rfl ?_
        refine j_getS C (1, 0, 10, 0) fl_X1_45 dX1_findShunned_40 (by decide) ⟨rfl, rfl⟩ rfl rfl ?_
        refine j_iload_n C 3 dX1_findShunned_43 rfl rfl ?_
        refine j_aload_n C 1 dX1_findShunned_44 rfl rfl ?_
        refine j_getS C (1, 0, 10, 0) fl_X1_45 dX1_findShunned_45 (by decide) ⟨rfl, rfl⟩ rfl rfl ?_
        refine j_iload_n C 0 dX1_findShunned_48 rfl rfl ?_
        obtain ⟨g52, h⟩ := grd_x h
        refine j_ialdK C 32 (r5.toNatClampNeg) dX1_findShunned_49 (V_f 9 (by decide) (by decide)) rfl g52 rfl ?_
        obtain ⟨g53, h⟩ := grd_x h
        obtain ⟨D54, eD54, h⟩ := bnd_x h
        refine j_iastK C 32 (l2.toNatClampNeg) dX1_findShunned_50 (V_f 9 (by decide) (by decide)) rfl g53 rfl ?_
        refine j_rep eD54 ?_
        refine j_goto C 162 dX1_findShunned_51 (by decide) ?_
        refine j_sub [1, 2, 3] [(0, .ref (ad G (1, 0, 0, 0))), (1, .int l1), (2, .int l2)] rfl ?_
        refine T_X1_findShunned_b162 hG hlv  C (fun l1_55 l2_56 D57 h => ?_) l1 l2 D54 h
        · exact ih l1_55 l2_56 D57 h
def F_X1_findShunned (a1 : Int32) (D : Dt) : Option Dt := (bnd (setI D (1, 0, 0, 0) 11 (-1 : Int32)) (fun D1 => (bnd (setI D1 (1, 0, 0, 0) 10 (0 : Int32)) (fun D2 => (F_X1_findShunned_b12 a1 2000 a1 (0 : Int32) D2)))))
set_option maxRecDepth 100000 in
set_option maxHeartbeats 4000000 in
theorem M_X1_findShunned {l : Launch} {G : Gt} {A : Nat → Prop} {lv : Nat} {a1 : Int32} {D : Dt} {D' : Dt} (hG : Gok G A) (hlv : 7 ≤ lv)  (h : F_X1_findShunned a1 D = some D') : MD l G A lv yX1_findShunned cX1_findShunned 6 none [.ref (ad G (1, 0, 0, 0)), .int a1] D none D' := by
  unfold F_X1_findShunned at h
  refine md_start RX1 hG (by decide +kernel) rfl (Nat.le_of_ble_eq_true rfl) (L := [(0, .ref (ad G (1, 0, 0, 0))), (1, .int a1)]) rfl (fun X C => ?_)
  refine j_aload_n C 0 dX1_findShunned_0 rfl rfl ?_
  refine j_iconst C (-1 : Int32) (by decide) dX1_findShunned_1 ?_
  obtain ⟨D1, eD1, h⟩ := bnd_x h
  refine j_putI C fl_X1_97 dX1_findShunned_2 (by decide) ⟨rfl, rfl⟩ rfl rfl rfl ?_
  refine j_rep eD1 ?_
  refine j_aload_n C 0 dX1_findShunned_5 rfl rfl ?_
  refine j_iconst C (0 : Int32) (by decide) dX1_findShunned_6 ?_
  obtain ⟨D2, eD2, h⟩ := bnd_x h
  refine j_putI C fl_X1_138 dX1_findShunned_7 (by decide) ⟨rfl, rfl⟩ rfl rfl rfl ?_
  refine j_rep eD2 ?_
  refine j_iconst C (0 : Int32) (by decide) dX1_findShunned_10 ?_
  refine j_istore_n C [(2, .int (0 : Int32)), (0, .ref (ad G (1, 0, 0, 0))), (1, .int a1)] dX1_findShunned_11 rfl (Nat.le_of_ble_eq_true rfl) rfl rfl ?_
  refine j_sub [1, 2, 0] [(0, .ref (ad G (1, 0, 0, 0))), (1, .int a1), (2, .int (0 : Int32))] rfl ?_
  refine T_X1_findShunned_b12 hG hlv  C  2000 a1 (0 : Int32) D2 h
def F_X1_findMothered_b43 (a1 : Int32) (k7 : Int32 → Int32 → Dt → Option Dt) (l1 : Int32) (l2 : Int32) (D : Dt) : Option Dt := (vbd (F_X8_passTillBare 1 105 l1 D) (fun D7 => (vbd (F_X1_keepIfFuller l2 D7) (fun D9 => (bnd (l2 + (1 : Int32)) (fun v10 => (k7 l1 v10 D9)))))))
set_option maxRecDepth 100000 in
set_option maxHeartbeats 4000000 in
theorem T_X1_findMothered_b43 {D' : Dt} {X : Ctx} {l : Launch} {G : Gt} {A : Nat → Prop} {lv : Nat} {a1 : Int32}  {k7 : Int32 → Int32 → Dt → Option Dt} (hG : Gok G A) (hlv : 7 ≤ lv)   (C : Cx X cX1_findMothered RX1 G l A lv 3 none none D') (hk7 : ∀ (l1 : Int32) (l2 : Int32) (D : Dt), k7 l1 l2 D = some D' → J X (Rep G D) 7 [(0, .ref (ad G (1, 0, 0, 0))), (1, .int l1), (2, .int l2)] []) : ∀ (l1 : Int32) (l2 : Int32) (D : Dt), F_X1_findMothered_b43 a1 k7 l1 l2 D = some D' → J X (Rep G D) 43 [(0, .ref (ad G (1, 0, 0, 0))), (1, .int l1), (2, .int l2)] [] := by
  intro l1 l2 D h
  unfold F_X1_findMothered_b43 at h
  refine j_aload_n C 0 dX1_findMothered_43 rfl rfl ?_
  refine j_getS C (8, 1, 0, 0) fl_X1_12 dX1_findMothered_44 (by decide) ⟨rfl, rfl⟩ rfl rfl ?_
  refine j_aload_n C 0 dX1_findMothered_47 rfl rfl ?_
  refine j_getS C (6, 105, 0, 0) fl_X1_21 dX1_findMothered_48 (by decide) ⟨rfl, rfl⟩ rfl rfl ?_
  refine j_iload_n C 1 dX1_findMothered_51 rfl rfl ?_
  obtain ⟨D7, h6, h⟩ := vbd_x h
  refine j_callV C [.ref (ad G (6, 105, 0, 0)), .int l1] [] cl_X1_126 (M_X8_passTillBare (lv := lv - 1) hG (by omega) h6) (by omega) dX1_findMothered_52 (by decide) ⟨rfl, rfl⟩ rfl rfl (Nat.le_of_ble_eq_true rfl) ?_
  refine j_st (st' := []) rfl ?_
  refine j_aload_n C 0 dX1_findMothered_55 rfl rfl ?_
  refine j_iload_n C 2 dX1_findMothered_56 rfl rfl ?_
  obtain ⟨D9, h8, h⟩ := vbd_x h
  refine j_callV C [.int l2] [] cl_X1_130 (M_X1_keepIfFuller (lv := lv - 1) hG (by omega) h8) (by omega) dX1_findMothered_57 (by decide) ⟨rfl, rfl⟩ rfl rfl (Nat.le_of_ble_eq_true rfl) ?_
  refine j_st (st' := []) rfl ?_
  obtain ⟨v10, ev10, h⟩ := bnd_x h
  refine j_iinc C 2 [(2, .int v10), (0, .ref (ad G (1, 0, 0, 0))), (1, .int l1)] dX1_findMothered_60 rfl (Nat.le_of_ble_eq_true rfl) (ev10.trans (congrArg (l2 + ·) (by decide))) rfl ?_
  refine j_goto C 7 dX1_findMothered_63 (by decide) ?_
  refine j_sub [1, 2, 0] [(0, .ref (ad G (1, 0, 0, 0))), (1, .int l1), (2, .int v10)] rfl ?_
  exact hk7 l1 v10 D9 h
def F_X1_findMothered_b7 (a1 : Int32)  : Nat → Int32 → Int32 → Dt → Option Dt
  | 0, _, _, _ => none
  | f + 1, l1, l2, D => (if (D.1 (5, 0, 0, 0) 3) ≤ l2 then (some D) else (vbd (F_X1_startOn 105 D) (fun D4 => (if l2 = (-1 : Int32) then (F_X1_findMothered_b43 a1 (fun l1_11 l2_12 D13 => (F_X1_findMothered_b7 a1 f l1_11 l2_12 D13)) l1 l2 D4) else (vbd (F_X6_addSun 105 l2 (1 : Int32) D4) (fun D15 => (F_X1_findMothered_b43 a1 (fun l1_16 l2_17 D18 => (F_X1_findMothered_b7 a1 f l1_16 l2_17 D18)) l1 l2 D15)))))))
set_option maxRecDepth 100000 in
set_option maxHeartbeats 4000000 in
theorem T_X1_findMothered_b7 {D' : Dt} {X : Ctx} {l : Launch} {G : Gt} {A : Nat → Prop} {lv : Nat} {a1 : Int32}   (hG : Gok G A) (hlv : 7 ≤ lv)   (C : Cx X cX1_findMothered RX1 G l A lv 3 none none D')  : ∀ (f : Nat) (l1 : Int32) (l2 : Int32) (D : Dt), F_X1_findMothered_b7 a1 f l1 l2 D = some D' → J X (Rep G D) 7 [(0, .ref (ad G (1, 0, 0, 0))), (1, .int l1), (2, .int l2)] [] := by
  intro f
  induction f with
  | zero =>
    intro l1 l2 D h
    exact nomatch h
  | succ f ih =>
    intro l1 l2 D h
    rw [F_X1_findMothered_b7] at h
    refine j_iload_n C 2 dX1_findMothered_7 rfl rfl ?_
    refine j_aload_n C 0 dX1_findMothered_8 rfl rfl ?_
    refine j_getS C (9, 0, 0, 0) fl_X1_48 dX1_findMothered_9 (by decide) ⟨rfl, rfl⟩ rfl rfl ?_
    refine j_getS C (5, 0, 0, 0) fl_X1_65 dX1_findMothered_12 (by decide) ⟨rfl, rfl⟩ rfl rfl ?_
    refine j_getI C fl_X1_111 dX1_findMothered_15 (V_95 (by decide)) ⟨rfl, rfl⟩ rfl ?_
    refine j_icmp_ge C 66 dX1_findMothered_18 (by decide) (fun c2 => ?_) (fun c2 => ?_)
    · have h := ite_t c2 h
      obtain rfl := Option.some.inj h
      exact j_vret C dX1_findMothered_66
    · have h := ite_f c2 h
      refine j_aload_n C 0 dX1_findMothered_21 rfl rfl ?_
      refine j_aload_n C 0 dX1_findMothered_22 rfl rfl ?_
      refine j_getS C (6, 105, 0, 0) fl_X1_21 dX1_findMothered_23 (by decide) ⟨rfl, rfl⟩ rfl rfl ?_
      obtain ⟨D4, h3, h⟩ := vbd_x h
      refine j_callV C [.ref (ad G (6, 105, 0, 0))] [] cl_X1_81 (M_X1_startOn (lv := lv - 1) hG (by omega) h3) (by omega) dX1_findMothered_26 (by decide) ⟨rfl, rfl⟩ rfl rfl (Nat.le_of_ble_eq_true rfl) ?_
      refine j_st (st' := []) rfl ?_
      refine j_iload_n C 2 dX1_findMothered_29 rfl rfl ?_
      refine j_iconst C (-1 : Int32) (by decide) dX1_findMothered_30 ?_
      refine j_icmp_eq C 43 dX1_findMothered_31 (by decide) (fun c5 => ?_) (fun c5 => ?_)
      · have h := ite_t c5 h
        refine T_X1_findMothered_b43 hG hlv  C (fun l1_11 l2_12 D13 h => ?_) l1 l2 D4 h
        · exact ih l1_11 l2_12 D13 h
      · have h := ite_f c5 h
        refine j_aload_n C 0 dX1_findMothered_34 rfl rfl ?_
        refine j_getS C (6, 105, 0, 0) fl_X1_21 dX1_findMothered_35 (by decide) ⟨rfl, rfl⟩ rfl rfl ?_
        refine j_iload_n C 2 dX1_findMothered_38 rfl rfl ?_
        refine j_iconst C (1 : Int32) (by decide) dX1_findMothered_39 ?_
        obtain ⟨D15, h14, h⟩ := vbd_x h
        refine j_callV C [.int l2, .int (1 : Int32)] [] cl_X1_145 (M_X6_addSun (lv := lv - 1) hG (by omega) h14) (by omega) dX1_findMothered_40 (by decide) ⟨rfl, rfl⟩ rfl rfl (Nat.le_of_ble_eq_true rfl) ?_
        refine j_st (st' := []) rfl ?_
        refine T_X1_findMothered_b43 hG hlv  C (fun l1_16 l2_17 D18 h => ?_) l1 l2 D15 h
        · exact ih l1_16 l2_17 D18 h
def F_X1_findMothered (a1 : Int32) (D : Dt) : Option Dt := (bnd (setI D (1, 0, 0, 0) 11 (-1 : Int32)) (fun D1 => (F_X1_findMothered_b7 a1 2000 a1 (-1 : Int32) D1)))
set_option maxRecDepth 100000 in
set_option maxHeartbeats 4000000 in
theorem M_X1_findMothered {l : Launch} {G : Gt} {A : Nat → Prop} {lv : Nat} {a1 : Int32} {D : Dt} {D' : Dt} (hG : Gok G A) (hlv : 7 ≤ lv)  (h : F_X1_findMothered a1 D = some D') : MD l G A lv yX1_findMothered cX1_findMothered 3 none [.ref (ad G (1, 0, 0, 0)), .int a1] D none D' := by
  unfold F_X1_findMothered at h
  refine md_start RX1 hG (by decide +kernel) rfl (Nat.le_of_ble_eq_true rfl) (L := [(0, .ref (ad G (1, 0, 0, 0))), (1, .int a1)]) rfl (fun X C => ?_)
  refine j_aload_n C 0 dX1_findMothered_0 rfl rfl ?_
  refine j_iconst C (-1 : Int32) (by decide) dX1_findMothered_1 ?_
  obtain ⟨D1, eD1, h⟩ := bnd_x h
  refine j_putI C fl_X1_97 dX1_findMothered_2 (by decide) ⟨rfl, rfl⟩ rfl rfl rfl ?_
  refine j_rep eD1 ?_
  refine j_iconst C (-1 : Int32) (by decide) dX1_findMothered_5 ?_
  refine j_istore_n C [(2, .int (-1 : Int32)), (0, .ref (ad G (1, 0, 0, 0))), (1, .int a1)] dX1_findMothered_6 rfl (Nat.le_of_ble_eq_true rfl) rfl rfl ?_
  refine j_sub [1, 2, 0] [(0, .ref (ad G (1, 0, 0, 0))), (1, .int a1), (2, .int (-1 : Int32))] rfl ?_
  refine T_X1_findMothered_b7 hG hlv  C  2000 a1 (-1 : Int32) D1 h
def F_X6_begin_b35 (i0 : Nat) (a1 : Nat) (k60 : Dt → Option Dt) : Nat → Int32 → Dt → Option Dt
  | 0, _, _ => none
  | f + 1, l2, D => (if (5 : Int32) ≤ l2 then (k60  D) else (grd (inB l2 5 = true) (bnd (setI D (6, i0, 4, 0) (l2.toNatClampNeg) (0 : Int32)) (fun D9 => (bnd (setI D9 (6, i0, 5, 0) (l2.toNatClampNeg) (-1 : Int32)) (fun D10 => (bnd (l2 + (1 : Int32)) (fun v11 => (F_X6_begin_b35 i0 a1 k60 f v11 D10)))))))))
set_option maxRecDepth 100000 in
set_option maxHeartbeats 4000000 in
theorem T_X6_begin_b35 {D' : Dt} {X : Ctx} {l : Launch} {G : Gt} {A : Nat → Prop} {lv : Nat} {i0 : Nat} {a1 : Nat}  {k60 : Dt → Option Dt} (hG : Gok G A) (hlv : 2 ≤ lv) (hv0 : V (6, i0, 0, 0) = true) (hv1 : V (5, a1, 0, 0) = true)  (C : Cx X cX6_begin RX6 G l A lv 3 none none D') (hk60 : ∀  (D : Dt), k60  D = some D' → J X (Rep G D) 60 [(0, .ref (ad G (6, i0, 0, 0))), (1, .ref (ad G (5, a1, 0, 0)))] []) : ∀ (f : Nat) (l2 : Int32) (D : Dt), F_X6_begin_b35 i0 a1 k60 f l2 D = some D' → J X (Rep G D) 35 [(0, .ref (ad G (6, i0, 0, 0))), (1, .ref (ad G (5, a1, 0, 0))), (2, .int l2)] [] := by
  intro f
  induction f with
  | zero =>
    intro l2 D h
    exact nomatch h
  | succ f ih =>
    intro l2 D h
    rw [F_X6_begin_b35] at h
    refine j_iload_n C 2 dX6_begin_35 rfl rfl ?_
    refine j_iconst C (5 : Int32) (by decide) dX6_begin_36 ?_
    refine j_icmp_ge C 60 dX6_begin_37 (by decide) (fun c7 => ?_) (fun c7 => ?_)
    · have h := ite_t c7 h
      refine j_sub [0, 1] [(0, .ref (ad G (6, i0, 0, 0))), (1, .ref (ad G (5, a1, 0, 0)))] rfl ?_
      exact hk60  D h
    · have h := ite_f c7 h
      refine j_aload_n C 0 dX6_begin_40 rfl rfl ?_
      refine j_getS C (6, i0, 4, 0) fl_X6_21 dX6_begin_41 hv0 ⟨rfl, rfl⟩ rfl rfl ?_
      refine j_iload_n C 2 dX6_begin_44 rfl rfl ?_
      refine j_iconst C (0 : Int32) (by decide) dX6_begin_45 ?_
      obtain ⟨g8, h⟩ := grd_x h
      obtain ⟨D9, eD9, h⟩ := bnd_x h
      refine j_iastK C 5 (l2.toNatClampNeg) dX6_begin_46 (V_f 3 hv0 (by decide)) rfl g8 rfl ?_
      refine j_rep eD9 ?_
      refine j_aload_n C 0 dX6_begin_47 rfl rfl ?_
      refine j_getS C (6, i0, 5, 0) fl_X6_24 dX6_begin_48 hv0 ⟨rfl, rfl⟩ rfl rfl ?_
      refine j_iload_n C 2 dX6_begin_51 rfl rfl ?_
      refine j_iconst C (-1 : Int32) (by decide) dX6_begin_52 ?_
      obtain ⟨D10, eD10, h⟩ := bnd_x h
      refine j_iastK C 5 (l2.toNatClampNeg) dX6_begin_53 (V_f 4 hv0 (by decide)) rfl g8 rfl ?_
      refine j_rep eD10 ?_
      obtain ⟨v11, ev11, h⟩ := bnd_x h
      refine j_iinc C 2 [(2, .int v11), (0, .ref (ad G (6, i0, 0, 0))), (1, .ref (ad G (5, a1, 0, 0)))] dX6_begin_54 rfl (Nat.le_of_ble_eq_true rfl) (ev11.trans (congrArg (l2 + ·) (by decide))) rfl ?_
      refine j_goto C 35 dX6_begin_57 (by decide) ?_
      refine j_sub [1, 2, 0] [(0, .ref (ad G (6, i0, 0, 0))), (1, .ref (ad G (5, a1, 0, 0))), (2, .int v11)] rfl ?_
      exact ih v11 D10 h
def F_X6_begin (i0 : Nat) (a1 : Nat) (D : Dt) : Option Dt := (grd (V (6, i0, 0, 0) = true) (grd (V (5, a1, 0, 0) = true) (vbd (F_X10_copyRow (5, a1, 5, 0) (6, i0, 1, 0) D) (fun D2 => (vbd (F_X10_copyRow (5, a1, 6, 0) (6, i0, 2, 0) D2) (fun D4 => (vbd (F_X10_copyRow (5, a1, 7, 0) (6, i0, 3, 0) D4) (fun D6 => (F_X6_begin_b35 i0 a1 (fun D12 => (bnd (setI D12 (6, i0, 0, 0) 5 (D12.1 (5, a1, 0, 0) 1)) (fun D13 => (bnd (setI D13 (6, i0, 0, 0) 6 (0 : Int32)) (fun D14 => (bnd (setI D14 (6, i0, 0, 0) 7 (0 : Int32)) (fun D15 => (some D15)))))))) 2000 (0 : Int32) D6)))))))))
set_option maxRecDepth 100000 in
set_option maxHeartbeats 4000000 in
theorem M_X6_begin {l : Launch} {G : Gt} {A : Nat → Prop} {lv : Nat} {i0 : Nat} {a1 : Nat} {D : Dt} {D' : Dt} (hG : Gok G A) (hlv : 2 ≤ lv)  (h : F_X6_begin i0 a1 D = some D') : MD l G A lv yX6_begin cX6_begin 3 none [.ref (ad G (6, i0, 0, 0)), .ref (ad G (5, a1, 0, 0))] D none D' := by
  unfold F_X6_begin at h
  obtain ⟨hv0, h⟩ := grd_x h
  obtain ⟨hv1, h⟩ := grd_x h
  refine md_start RX6 hG (by decide +kernel) rfl (Nat.le_of_ble_eq_true rfl) (L := [(0, .ref (ad G (6, i0, 0, 0))), (1, .ref (ad G (5, a1, 0, 0)))]) rfl (fun X C => ?_)
  refine j_aload_n C 1 dX6_begin_0 rfl rfl ?_
  refine j_getS C (5, a1, 5, 0) fl_X6_27 dX6_begin_1 hv1 ⟨rfl, rfl⟩ rfl rfl ?_
  refine j_aload_n C 0 dX6_begin_4 rfl rfl ?_
  refine j_getS C (6, i0, 1, 0) fl_X6_9 dX6_begin_5 hv0 ⟨rfl, rfl⟩ rfl rfl ?_
  obtain ⟨D2, h1, h⟩ := vbd_x h
  refine j_callS C [.ref (ad G (5, a1, 5, 0)), .ref (ad G (6, i0, 1, 0))] [] cl_X6_30 (M_X10_copyRow (lv := lv - 1) hG (by omega) h1) (by omega) dX6_begin_8 rfl rfl (Nat.le_of_ble_eq_true rfl) ?_
  refine j_st (st' := []) rfl ?_
  refine j_aload_n C 1 dX6_begin_11 rfl rfl ?_
  refine j_getS C (5, a1, 6, 0) fl_X6_34 dX6_begin_12 hv1 ⟨rfl, rfl⟩ rfl rfl ?_
  refine j_aload_n C 0 dX6_begin_15 rfl rfl ?_
  refine j_getS C (6, i0, 2, 0) fl_X6_15 dX6_begin_16 hv0 ⟨rfl, rfl⟩ rfl rfl ?_
  obtain ⟨D4, h3, h⟩ := vbd_x h
  refine j_callS C [.ref (ad G (5, a1, 6, 0)), .ref (ad G (6, i0, 2, 0))] [] cl_X6_30 (M_X10_copyRow (lv := lv - 1) hG (by omega) h3) (by omega) dX6_begin_19 rfl rfl (Nat.le_of_ble_eq_true rfl) ?_
  refine j_st (st' := []) rfl ?_
  refine j_aload_n C 1 dX6_begin_22 rfl rfl ?_
  refine j_getS C (5, a1, 7, 0) fl_X6_35 dX6_begin_23 hv1 ⟨rfl, rfl⟩ rfl rfl ?_
  refine j_aload_n C 0 dX6_begin_26 rfl rfl ?_
  refine j_getS C (6, i0, 3, 0) fl_X6_18 dX6_begin_27 hv0 ⟨rfl, rfl⟩ rfl rfl ?_
  obtain ⟨D6, h5, h⟩ := vbd_x h
  refine j_callS C [.ref (ad G (5, a1, 7, 0)), .ref (ad G (6, i0, 3, 0))] [] cl_X6_30 (M_X10_copyRow (lv := lv - 1) hG (by omega) h5) (by omega) dX6_begin_30 rfl rfl (Nat.le_of_ble_eq_true rfl) ?_
  refine j_st (st' := []) rfl ?_
  refine j_iconst C (0 : Int32) (by decide) dX6_begin_33 ?_
  refine j_istore_n C [(2, .int (0 : Int32)), (0, .ref (ad G (6, i0, 0, 0))), (1, .ref (ad G (5, a1, 0, 0)))] dX6_begin_34 rfl (Nat.le_of_ble_eq_true rfl) rfl rfl ?_
  refine j_sub [1, 2, 0] [(0, .ref (ad G (6, i0, 0, 0))), (1, .ref (ad G (5, a1, 0, 0))), (2, .int (0 : Int32))] rfl ?_
  refine T_X6_begin_b35 hG hlv hv0 hv1 C (fun D12 h => ?_) 2000 (0 : Int32) D6 h
  · refine j_aload_n C 0 dX6_begin_60 rfl rfl ?_
    refine j_aload_n C 1 dX6_begin_61 rfl rfl ?_
    refine j_getI C fl_X6_36 dX6_begin_62 hv1 ⟨rfl, rfl⟩ rfl ?_
    obtain ⟨D13, eD13, h⟩ := bnd_x h
    refine j_putI C fl_X6_40 dX6_begin_65 hv0 ⟨rfl, rfl⟩ rfl rfl rfl ?_
    refine j_rep eD13 ?_
    refine j_aload_n C 0 dX6_begin_68 rfl rfl ?_
    refine j_iconst C (0 : Int32) (by decide) dX6_begin_69 ?_
    obtain ⟨D14, eD14, h⟩ := bnd_x h
    refine j_putI C fl_X6_41 dX6_begin_70 hv0 ⟨rfl, rfl⟩ rfl rfl rfl ?_
    refine j_rep eD14 ?_
    refine j_aload_n C 0 dX6_begin_73 rfl rfl ?_
    refine j_iconst C (0 : Int32) (by decide) dX6_begin_74 ?_
    obtain ⟨D15, eD15, h⟩ := bnd_x h
    refine j_putI C fl_X6_44 dX6_begin_75 hv0 ⟨rfl, rfl⟩ rfl rfl rfl ?_
    refine j_rep eD15 ?_
    obtain rfl := Option.some.inj h
    exact j_vret C dX6_begin_78
def F_X9_lastNote_b4 (i0 : Nat)  : Nat → Int32 → Int32 → Dt → Option (Int32 × Dt)
  | 0, _, _, _ => none
  | f + 1, l1, l2, D => (if (D.1 (9, i0, 0, 0) 6) ≤ l2 then (some (l1, D)) else (grd (inB l2 10 = true) (bnd (if l1 < (D.1 (9, i0, 4, 0) (l2.toNatClampNeg)) then (D.1 (9, i0, 4, 0) (l2.toNatClampNeg)) else l1) (fun v3 => (bnd (l2 + (1 : Int32)) (fun v4 => (F_X9_lastNote_b4 i0 f v3 v4 D)))))))
set_option maxRecDepth 100000 in
set_option maxHeartbeats 4000000 in
theorem T_X9_lastNote_b4 {r : Int32} {D' : Dt} {X : Ctx} {l : Launch} {G : Gt} {A : Nat → Prop} {lv : Nat} {i0 : Nat}   (hG : Gok G A) (hlv : 1 ≤ lv) (hv0 : V (9, i0, 0, 0) = true)  (C : Cx X cX9_lastNote RX9 G l A lv 3 (some .int) (some (.int r)) D')  : ∀ (f : Nat) (l1 : Int32) (l2 : Int32) (D : Dt), F_X9_lastNote_b4 i0 f l1 l2 D = some (r, D') → J X (Rep G D) 4 [(0, .ref (ad G (9, i0, 0, 0))), (1, .int l1), (2, .int l2)] [] := by
  intro f
  induction f with
  | zero =>
    intro l1 l2 D h
    exact nomatch h
  | succ f ih =>
    intro l1 l2 D h
    rw [F_X9_lastNote_b4] at h
    refine j_iload_n C 2 dX9_lastNote_4 rfl rfl ?_
    refine j_aload_n C 0 dX9_lastNote_5 rfl rfl ?_
    refine j_getI C fl_X9_56 dX9_lastNote_6 hv0 ⟨rfl, rfl⟩ rfl ?_
    refine j_icmp_ge C 29 dX9_lastNote_9 (by decide) (fun c1 => ?_) (fun c1 => ?_)
    · have h := ite_t c1 h
      refine j_iload_n C 1 dX9_lastNote_29 rfl rfl ?_
      obtain ⟨rfl, rfl⟩ := pr_x h
      exact j_iret C dX9_lastNote_30
    · have h := ite_f c1 h
      refine j_iload_n C 1 dX9_lastNote_12 rfl rfl ?_
      refine j_aload_n C 0 dX9_lastNote_13 rfl rfl ?_
      refine j_getS C (9, i0, 4, 0) fl_X9_32 dX9_lastNote_14 hv0 ⟨rfl, rfl⟩ rfl rfl ?_
      refine j_iload_n C 2 dX9_lastNote_17 rfl rfl ?_
      obtain ⟨g2, h⟩ := grd_x h
      refine j_ialdK C 10 (l2.toNatClampNeg) dX9_lastNote_18 (V_f 3 hv0 (by decide)) rfl g2 rfl ?_
      refine j_max C km_X9_72 (by omega) (Nat.le_of_ble_eq_true rfl) dX9_lastNote_19 ?_
      obtain ⟨v3, ev3, h⟩ := bnd_x h
      refine j_istore_n C [(1, .int v3), (0, .ref (ad G (9, i0, 0, 0))), (2, .int l2)] dX9_lastNote_22 rfl (Nat.le_of_ble_eq_true rfl) ev3 rfl ?_
      obtain ⟨v4, ev4, h⟩ := bnd_x h
      refine j_iinc C 2 [(2, .int v4), (1, .int v3), (0, .ref (ad G (9, i0, 0, 0)))] dX9_lastNote_23 rfl (Nat.le_of_ble_eq_true rfl) (ev4.trans (congrArg (l2 + ·) (by decide))) rfl ?_
      refine j_goto C 4 dX9_lastNote_26 (by decide) ?_
      refine j_sub [2, 1, 0] [(0, .ref (ad G (9, i0, 0, 0))), (1, .int v3), (2, .int v4)] rfl ?_
      exact ih v3 v4 D h
def F_X9_lastNote (i0 : Nat) (D : Dt) : Option (Int32 × Dt) := (grd (V (9, i0, 0, 0) = true) (F_X9_lastNote_b4 i0 2000 (-1 : Int32) (0 : Int32) D))
set_option maxRecDepth 100000 in
set_option maxHeartbeats 4000000 in
theorem M_X9_lastNote {l : Launch} {G : Gt} {A : Nat → Prop} {lv : Nat} {i0 : Nat} {D : Dt} {r : Int32} {D' : Dt} (hG : Gok G A) (hlv : 1 ≤ lv)  (h : F_X9_lastNote i0 D = some (r, D')) : MD l G A lv yX9_lastNote cX9_lastNote 3 (some .int) [.ref (ad G (9, i0, 0, 0))] D (some (.int r)) D' := by
  unfold F_X9_lastNote at h
  obtain ⟨hv0, h⟩ := grd_x h
  refine md_start RX9 hG (by decide +kernel) rfl (Nat.le_of_ble_eq_true rfl) (L := [(0, .ref (ad G (9, i0, 0, 0)))]) rfl (fun X C => ?_)
  refine j_iconst C (-1 : Int32) (by decide) dX9_lastNote_0 ?_
  refine j_istore_n C [(1, .int (-1 : Int32)), (0, .ref (ad G (9, i0, 0, 0)))] dX9_lastNote_1 rfl (Nat.le_of_ble_eq_true rfl) rfl rfl ?_
  refine j_iconst C (0 : Int32) (by decide) dX9_lastNote_2 ?_
  refine j_istore_n C [(2, .int (0 : Int32)), (1, .int (-1 : Int32)), (0, .ref (ad G (9, i0, 0, 0)))] dX9_lastNote_3 rfl (Nat.le_of_ble_eq_true rfl) rfl rfl ?_
  refine j_sub [2, 1, 0] [(0, .ref (ad G (9, i0, 0, 0))), (1, .int (-1 : Int32)), (2, .int (0 : Int32))] rfl ?_
  refine T_X9_lastNote_b4 hG hlv hv0 C  2000 (-1 : Int32) (0 : Int32) D h
def F_X9_notesHold_b39 (i0 : Nat) (a1 : Int32) (a2 : LA) (k2 : Int32 → Int32 → Dt → Option (Int32 × Dt)) (l1 : Int32) (l3 : Int32) (D : Dt) : Option (Int32 × Dt) := (bnd (l3 + (1 : Int32)) (fun v4 => (k2 l1 v4 D)))
set_option maxRecDepth 100000 in
set_option maxHeartbeats 4000000 in
theorem T_X9_notesHold_b39 {r : Int32} {D' : Dt} {X : Ctx} {l : Launch} {G : Gt} {A : Nat → Prop} {lv : Nat} {i0 : Nat} {a1 : Int32} {a2 : LA}  {k2 : Int32 → Int32 → Dt → Option (Int32 × Dt)} (hG : Gok G A) (hlv : 1 ≤ lv) (hv0 : V (9, i0, 0, 0) = true) (hv2 : V a2 = true ∧ sh a2 = .inr (0, lenOf a2))  (C : Cx X cX9_notesHold RX9 G l A lv 4 (some .boolean) (some (.int r)) D') (hk2 : ∀ (l1 : Int32) (l3 : Int32) (D : Dt), k2 l1 l3 D = some (r, D') → J X (Rep G D) 2 [(0, .ref (ad G (9, i0, 0, 0))), (1, .int l1), (2, .ref (ad G a2)), (3, .int l3)] []) : ∀ (l1 : Int32) (l3 : Int32) (D : Dt), F_X9_notesHold_b39 i0 a1 a2 k2 l1 l3 D = some (r, D') → J X (Rep G D) 39 [(0, .ref (ad G (9, i0, 0, 0))), (1, .int l1), (2, .ref (ad G a2)), (3, .int l3)] [] := by
  intro l1 l3 D h
  unfold F_X9_notesHold_b39 at h
  obtain ⟨v4, ev4, h⟩ := bnd_x h
  refine j_iinc C 3 [(3, .int v4), (0, .ref (ad G (9, i0, 0, 0))), (1, .int l1), (2, .ref (ad G a2))] dX9_notesHold_39 rfl (Nat.le_of_ble_eq_true rfl) (ev4.trans (congrArg (l3 + ·) (by decide))) rfl ?_
  refine j_goto C 2 dX9_notesHold_42 (by decide) ?_
  refine j_sub [1, 2, 3, 0] [(0, .ref (ad G (9, i0, 0, 0))), (1, .int l1), (2, .ref (ad G a2)), (3, .int v4)] rfl ?_
  exact hk2 l1 v4 D h
def F_X9_notesHold_b2 (i0 : Nat) (a1 : Int32) (a2 : LA)  : Nat → Int32 → Int32 → Dt → Option (Int32 × Dt)
  | 0, _, _, _ => none
  | f + 1, l1, l3, D => (if (D.1 (9, i0, 0, 0) 6) ≤ l3 then (some ((1 : Int32), D)) else (grd (inB l3 10 = true) (if (D.1 (9, i0, 4, 0) (l3.toNatClampNeg)) = l1 then (grd (inB (D.1 (9, i0, 5, 0) (l3.toNatClampNeg)) (lenOf a2) = true) (if (D.1 a2 ((D.1 (9, i0, 5, 0) (l3.toNatClampNeg)).toNatClampNeg)) = (D.1 (9, i0, 6, 0) (l3.toNatClampNeg)) then (F_X9_notesHold_b39 i0 a1 a2 (fun l1_10 l3_11 D12 => (F_X9_notesHold_b2 i0 a1 a2 f l1_10 l3_11 D12)) l1 l3 D) else (some ((0 : Int32), D)))) else (F_X9_notesHold_b39 i0 a1 a2 (fun l1_5 l3_6 D7 => (F_X9_notesHold_b2 i0 a1 a2 f l1_5 l3_6 D7)) l1 l3 D))))
set_option maxRecDepth 100000 in
set_option maxHeartbeats 4000000 in
theorem T_X9_notesHold_b2 {r : Int32} {D' : Dt} {X : Ctx} {l : Launch} {G : Gt} {A : Nat → Prop} {lv : Nat} {i0 : Nat} {a1 : Int32} {a2 : LA}   (hG : Gok G A) (hlv : 1 ≤ lv) (hv0 : V (9, i0, 0, 0) = true) (hv2 : V a2 = true ∧ sh a2 = .inr (0, lenOf a2))  (C : Cx X cX9_notesHold RX9 G l A lv 4 (some .boolean) (some (.int r)) D')  : ∀ (f : Nat) (l1 : Int32) (l3 : Int32) (D : Dt), F_X9_notesHold_b2 i0 a1 a2 f l1 l3 D = some (r, D') → J X (Rep G D) 2 [(0, .ref (ad G (9, i0, 0, 0))), (1, .int l1), (2, .ref (ad G a2)), (3, .int l3)] [] := by
  intro f
  induction f with
  | zero =>
    intro l1 l3 D h
    exact nomatch h
  | succ f ih =>
    intro l1 l3 D h
    rw [F_X9_notesHold_b2] at h
    refine j_iload_n C 3 dX9_notesHold_2 rfl rfl ?_
    refine j_aload_n C 0 dX9_notesHold_3 rfl rfl ?_
    refine j_getI C fl_X9_56 dX9_notesHold_4 hv0 ⟨rfl, rfl⟩ rfl ?_
    refine j_icmp_ge C 45 dX9_notesHold_7 (by decide) (fun c1 => ?_) (fun c1 => ?_)
    · have h := ite_t c1 h
      refine j_iconst C (1 : Int32) (by decide) dX9_notesHold_45 ?_
      obtain ⟨rfl, rfl⟩ := pr_x h
      exact j_zret C (Or.inr rfl) dX9_notesHold_46
    · have h := ite_f c1 h
      refine j_aload_n C 0 dX9_notesHold_10 rfl rfl ?_
      refine j_getS C (9, i0, 4, 0) fl_X9_32 dX9_notesHold_11 hv0 ⟨rfl, rfl⟩ rfl rfl ?_
      refine j_iload_n C 3 dX9_notesHold_14 rfl rfl ?_
      obtain ⟨g2, h⟩ := grd_x h
      refine j_ialdK C 10 (l3.toNatClampNeg) dX9_notesHold_15 (V_f 3 hv0 (by decide)) rfl g2 rfl ?_
      refine j_iload_n C 1 dX9_notesHold_16 rfl rfl ?_
      refine j_icmp_ne C 39 dX9_notesHold_17 (by decide) (fun c3 => ?_) (fun c3 => ?_)
      · have h := ite_f c3 h
        refine T_X9_notesHold_b39 hG hlv hv0 hv2 C (fun l1_5 l3_6 D7 h => ?_) l1 l3 D h
        · exact ih l1_5 l3_6 D7 h
      · have h := ite_t c3 h
        refine j_aload_n C 2 dX9_notesHold_20 rfl rfl ?_
        refine j_aload_n C 0 dX9_notesHold_21 rfl rfl ?_
        refine j_getS C (9, i0, 5, 0) fl_X9_36 dX9_notesHold_22 hv0 ⟨rfl, rfl⟩ rfl rfl ?_
        refine j_iload_n C 3 dX9_notesHold_25 rfl rfl ?_
        refine j_ialdK C 10 (l3.toNatClampNeg) dX9_notesHold_26 (V_f 4 hv0 (by decide)) rfl g2 rfl ?_
        obtain ⟨g8, h⟩ := grd_x h
        refine j_ialdK C (lenOf a2) ((D.1 (9, i0, 5, 0) (l3.toNatClampNeg)).toNatClampNeg) dX9_notesHold_27 hv2.1 hv2.2 g8 rfl ?_
        refine j_aload_n C 0 dX9_notesHold_28 rfl rfl ?_
        refine j_getS C (9, i0, 6, 0) fl_X9_39 dX9_notesHold_29 hv0 ⟨rfl, rfl⟩ rfl rfl ?_
        refine j_iload_n C 3 dX9_notesHold_32 rfl rfl ?_
        refine j_ialdK C 10 (l3.toNatClampNeg) dX9_notesHold_33 (V_f 5 hv0 (by decide)) rfl g2 rfl ?_
        refine j_icmp_eq C 39 dX9_notesHold_34 (by decide) (fun c9 => ?_) (fun c9 => ?_)
        · have h := ite_t c9 h
          refine T_X9_notesHold_b39 hG hlv hv0 hv2 C (fun l1_10 l3_11 D12 h => ?_) l1 l3 D h
          · exact ih l1_10 l3_11 D12 h
        · have h := ite_f c9 h
          refine j_iconst C (0 : Int32) (by decide) dX9_notesHold_37 ?_
          obtain ⟨rfl, rfl⟩ := pr_x h
          exact j_zret C (Or.inl rfl) dX9_notesHold_38
def F_X9_notesHold (i0 : Nat) (a1 : Int32) (a2 : LA) (D : Dt) : Option (Int32 × Dt) := (grd (V (9, i0, 0, 0) = true) (grd (V a2 = true ∧ sh a2 = .inr (0, lenOf a2)) (F_X9_notesHold_b2 i0 a1 a2 2000 a1 (0 : Int32) D)))
set_option maxRecDepth 100000 in
set_option maxHeartbeats 4000000 in
theorem M_X9_notesHold {l : Launch} {G : Gt} {A : Nat → Prop} {lv : Nat} {i0 : Nat} {a1 : Int32} {a2 : LA} {D : Dt} {r : Int32} {D' : Dt} (hG : Gok G A) (hlv : 1 ≤ lv)  (h : F_X9_notesHold i0 a1 a2 D = some (r, D')) : MD l G A lv yX9_notesHold cX9_notesHold 4 (some .boolean) [.ref (ad G (9, i0, 0, 0)), .int a1, .ref (ad G a2)] D (some (.int r)) D' := by
  unfold F_X9_notesHold at h
  obtain ⟨hv0, h⟩ := grd_x h
  obtain ⟨hv2, h⟩ := grd_x h
  refine md_start RX9 hG (by decide +kernel) rfl (Nat.le_of_ble_eq_true rfl) (L := [(0, .ref (ad G (9, i0, 0, 0))), (1, .int a1), (2, .ref (ad G a2))]) rfl (fun X C => ?_)
  refine j_iconst C (0 : Int32) (by decide) dX9_notesHold_0 ?_
  refine j_istore_n C [(3, .int (0 : Int32)), (0, .ref (ad G (9, i0, 0, 0))), (1, .int a1), (2, .ref (ad G a2))] dX9_notesHold_1 rfl (Nat.le_of_ble_eq_true rfl) rfl rfl ?_
  refine j_sub [1, 2, 3, 0] [(0, .ref (ad G (9, i0, 0, 0))), (1, .int a1), (2, .ref (ad G a2)), (3, .int (0 : Int32))] rfl ?_
  refine T_X9_notesHold_b2 hG hlv hv0 hv2 C  2000 a1 (0 : Int32) D h
def F_X1_isSo_b114 (a1 : Int32) (a2 : Int32) (k51 : Int32 → Int32 → Int32 → Int32 → Dt → Option (Int32 × Dt)) (l1 : Int32) (l2 : Int32) (l3 : Int32) (l4 : Int32) (D : Dt) : Option (Int32 × Dt) := (bnd (l4 + (1 : Int32)) (fun v21 => (k51 l1 l2 l3 v21 D)))
set_option maxRecDepth 100000 in
set_option maxHeartbeats 4000000 in
theorem T_X1_isSo_b114 {r : Int32} {D' : Dt} {X : Ctx} {l : Launch} {G : Gt} {A : Nat → Prop} {lv : Nat} {a1 : Int32} {a2 : Int32}  {k51 : Int32 → Int32 → Int32 → Int32 → Dt → Option (Int32 × Dt)} (hG : Gok G A) (hlv : 6 ≤ lv)   (C : Cx X cX1_isSo RX1 G l A lv 5 (some .boolean) (some (.int r)) D') (hk51 : ∀ (l1 : Int32) (l2 : Int32) (l3 : Int32) (l4 : Int32) (D : Dt), k51 l1 l2 l3 l4 D = some (r, D') → J X (Rep G D) 51 [(0, .ref (ad G (1, 0, 0, 0))), (1, .int l1), (2, .int l2), (3, .int l3), (4, .int l4)] []) : ∀ (l1 : Int32) (l2 : Int32) (l3 : Int32) (l4 : Int32) (D : Dt), F_X1_isSo_b114 a1 a2 k51 l1 l2 l3 l4 D = some (r, D') → J X (Rep G D) 114 [(0, .ref (ad G (1, 0, 0, 0))), (1, .int l1), (2, .int l2), (3, .int l3), (4, .int l4)] [] := by
  intro l1 l2 l3 l4 D h
  unfold F_X1_isSo_b114 at h
  obtain ⟨v21, ev21, h⟩ := bnd_x h
  refine j_iinc C 4 [(4, .int v21), (0, .ref (ad G (1, 0, 0, 0))), (1, .int l1), (2, .int l2), (3, .int l3)] dX1_isSo_114 rfl (Nat.le_of_ble_eq_true rfl) (ev21.trans (congrArg (l4 + ·) (by decide))) rfl ?_
  refine j_goto C 51 dX1_isSo_117 (by decide) ?_
  refine j_sub [1, 2, 3, 4, 0] [(0, .ref (ad G (1, 0, 0, 0))), (1, .int l1), (2, .int l2), (3, .int l3), (4, .int v21)] rfl ?_
  exact hk51 l1 l2 l3 v21 D h
def F_X1_isSo_b51 (a1 : Int32) (a2 : Int32)  : Nat → Int32 → Int32 → Int32 → Int32 → Dt → Option (Int32 × Dt)
  | 0, _, _, _, _, _ => none
  | f + 1, l1, l2, l3, l4, D => (if l3 < l4 then (some ((1 : Int32), D)) else (cbd (F_X8_pass 1 105 D) (fun r14 D15 => (cbd (F_X9_notesHold 0 l4 (6, 105, 5, 0) D15) (fun r17 D18 => (if r17 = 0 then (some ((0 : Int32), D18)) else (if l4 = l2 then (grd (inB (l1 + (1 : Int32)) 7 = true) (vbd (F_X10_copyRow (6, 105, 5, 0) (1, 0, 9, (l1 + (1 : Int32)).toNatClampNeg + 1) D18) (fun D29 => (F_X1_isSo_b114 a1 a2 (fun l1_30 l2_31 l3_32 l4_33 D34 => (F_X1_isSo_b51 a1 a2 f l1_30 l2_31 l3_32 l4_33 D34)) l1 l2 l3 l4 D29)))) else (F_X1_isSo_b114 a1 a2 (fun l1_22 l2_23 l3_24 l4_25 D26 => (F_X1_isSo_b51 a1 a2 f l1_22 l2_23 l3_24 l4_25 D26)) l1 l2 l3 l4 D18))))))))
set_option maxRecDepth 100000 in
set_option maxHeartbeats 4000000 in
theorem T_X1_isSo_b51 {r : Int32} {D' : Dt} {X : Ctx} {l : Launch} {G : Gt} {A : Nat → Prop} {lv : Nat} {a1 : Int32} {a2 : Int32}   (hG : Gok G A) (hlv : 6 ≤ lv)   (C : Cx X cX1_isSo RX1 G l A lv 5 (some .boolean) (some (.int r)) D')  : ∀ (f : Nat) (l1 : Int32) (l2 : Int32) (l3 : Int32) (l4 : Int32) (D : Dt), F_X1_isSo_b51 a1 a2 f l1 l2 l3 l4 D = some (r, D') → J X (Rep G D) 51 [(0, .ref (ad G (1, 0, 0, 0))), (1, .int l1), (2, .int l2), (3, .int l3), (4, .int l4)] [] := by
  intro f
  induction f with
  | zero =>
    intro l1 l2 l3 l4 D h
    exact nomatch h
  | succ f ih =>
    intro l1 l2 l3 l4 D h
    rw [F_X1_isSo_b51] at h
    refine j_iload C 4 dX1_isSo_51 rfl ?_
    refine j_iload_n C 3 dX1_isSo_53 rfl rfl ?_
    refine j_icmp_gt C 120 dX1_isSo_54 (by decide) (fun c12 => ?_) (fun c12 => ?_)
    · have h := ite_t c12 h
      refine j_iconst C (1 : Int32) (by decide) dX1_isSo_120 ?_
      obtain ⟨rfl, rfl⟩ := pr_x h
      exact j_zret C (Or.inr rfl) dX1_isSo_121
    · have h := ite_f c12 h
      refine j_aload_n C 0 dX1_isSo_57 rfl rfl ?_
      refine j_getS C (8, 1, 0, 0) fl_X1_12 dX1_isSo_58 (by decide) ⟨rfl, rfl⟩ rfl rfl ?_
      refine j_aload_n C 0 dX1_isSo_61 rfl rfl ?_
      refine j_getS C (6, 105, 0, 0) fl_X1_21 dX1_isSo_62 (by decide) ⟨rfl, rfl⟩ rfl rfl ?_
      obtain ⟨r14, D15, h13, h⟩ := cbd_x h
      refine j_callV C [.ref (ad G (6, 105, 0, 0))] [] cl_X1_84 (M_X8_pass (lv := lv - 1) hG (by omega) h13) (by omega) dX1_isSo_65 (by decide) ⟨rfl, rfl⟩ rfl rfl (Nat.le_of_ble_eq_true rfl) ?_
      refine j_st (st' := [.int r14]) rfl ?_
      refine j_pop C rfl dX1_isSo_68 ?_
      refine j_aload_n C 0 dX1_isSo_69 rfl rfl ?_
      refine j_getS C (9, 0, 0, 0) fl_X1_48 dX1_isSo_70 (by decide) ⟨rfl, rfl⟩ rfl rfl ?_
      refine j_iload C 4 dX1_isSo_73 rfl ?_
      refine j_aload_n C 0 dX1_isSo_75 rfl rfl ?_
      refine j_getS C (6, 105, 0, 0) fl_X1_21 dX1_isSo_76 (by decide) ⟨rfl, rfl⟩ rfl rfl ?_
      refine j_getS C (6, 105, 5, 0) fl_X1_193 dX1_isSo_79 (by decide) ⟨rfl, rfl⟩ rfl rfl ?_
      obtain ⟨r17, D18, h16, h⟩ := cbd_x h
      refine j_callV C [.int l4, .ref (ad G (6, 105, 5, 0))] [] cl_X1_196 (M_X9_notesHold (lv := lv - 1) hG (by omega) h16) (by omega) dX1_isSo_82 (by decide) ⟨rfl, rfl⟩ rfl rfl (Nat.le_of_ble_eq_true rfl) ?_
      refine j_st (st' := [.int r17]) rfl ?_
      refine j_if_ne C 90 dX1_isSo_85 (by decide) (fun c19 => ?_) (fun c19 => ?_)
      · have h := ite_f c19 h
        refine j_iload C 4 dX1_isSo_90 rfl ?_
        refine j_iload_n C 2 dX1_isSo_92 rfl rfl ?_
        refine j_icmp_ne C 114 dX1_isSo_93 (by decide) (fun c20 => ?_) (fun c20 => ?_)
        · have h := ite_f c20 h
          refine T_X1_isSo_b114 hG hlv  C (fun l1_22 l2_23 l3_24 l4_25 D26 h => ?_) l1 l2 l3 l4 D18 h
          · exact ih l1_22 l2_23 l3_24 l4_25 D26 h
        · have h := ite_t c20 h
          refine j_aload_n C 0 dX1_isSo_96 rfl rfl ?_
          refine j_getS C (6, 105, 0, 0) fl_X1_21 dX1_isSo_97 (by decide) ⟨rfl, rfl⟩ rfl rfl ?_
          refine j_getS C (6, 105, 5, 0) fl_X1_193 dX1_isSo_100 (by decide) ⟨rfl, rfl⟩ rfl rfl ?_
          refine j_aload_n C 0 dX1_isSo_103 rfl rfl ?_
          refine j_getS C (1, 0, 9, 0) fl_X1_42 dX1_isSo_104 (by decide) ⟨rfl, rfl⟩ rfl rfl ?_
          refine j_iload_n C 1 dX1_isSo_107 rfl rfl ?_
          refine j_iconst C (1 : Int32) (by decide) dX1_isSo_108 ?_
          refine j_iadd C dX1_isSo_109 ?_
          obtain ⟨g27, h⟩ := grd_x h
          refine j_aald C 7 7 (1, 0, 9, (l1 + (1 : Int32)).toNatClampNeg + 1) dX1_isSo_110 (V_f 8 (by decide) (by decide)) rfl (by decide) g27 rfl ?_
          obtain ⟨D29, h28, h⟩ := vbd_x h
          refine j_callS C [.ref (ad G (6, 105, 5, 0)), .ref (ad G (1, 0, 9, (l1 + (1 : Int32)).toNatClampNeg + 1))] [] cl_X1_107 (M_X10_copyRow (lv := lv - 1) hG (by omega) h28) (by omega) dX1_isSo_111 rfl rfl (Nat.le_of_ble_eq_true rfl) ?_
          refine j_st (st' := []) rfl ?_
          refine T_X1_isSo_b114 hG hlv  C (fun l1_30 l2_31 l3_32 l4_33 D34 h => ?_) l1 l2 l3 l4 D29 h
          · exact ih l1_30 l2_31 l3_32 l4_33 D34 h
      · have h := ite_t c19 h
        refine j_iconst C (0 : Int32) (by decide) dX1_isSo_88 ?_
        obtain ⟨rfl, rfl⟩ := pr_x h
        exact j_zret C (Or.inl rfl) dX1_isSo_89
def F_X1_isSo (a1 : Int32) (a2 : Int32) (D : Dt) : Option (Int32 × Dt) := (vbd (F_X6_begin 105 0 D) (fun D2 => (cbd (F_X10_ruleOf a1 D2) (fun r4 D5 => (vbd (F_X8_follow 1 0 r4 D5) (fun D7 => (cbd (F_X9_lastNote 0 D7) (fun r9 D10 => (bnd (if a2 < r9 then r9 else a2) (fun v11 => (F_X1_isSo_b51 a1 a2 2000 a1 a2 v11 (0 : Int32) D10)))))))))))
set_option maxRecDepth 100000 in
set_option maxHeartbeats 4000000 in
theorem M_X1_isSo {l : Launch} {G : Gt} {A : Nat → Prop} {lv : Nat} {a1 : Int32} {a2 : Int32} {D : Dt} {r : Int32} {D' : Dt} (hG : Gok G A) (hlv : 6 ≤ lv)  (h : F_X1_isSo a1 a2 D = some (r, D')) : MD l G A lv yX1_isSo cX1_isSo 5 (some .boolean) [.ref (ad G (1, 0, 0, 0)), .int a1, .int a2] D (some (.int r)) D' := by
  unfold F_X1_isSo at h
  refine md_start RX1 hG (by decide +kernel) rfl (Nat.le_of_ble_eq_true rfl) (L := [(0, .ref (ad G (1, 0, 0, 0))), (1, .int a1), (2, .int a2)]) rfl (fun X C => ?_)
  refine j_aload_n C 0 dX1_isSo_0 rfl rfl ?_
  refine j_getS C (6, 105, 0, 0) fl_X1_21 dX1_isSo_1 (by decide) ⟨rfl, rfl⟩ rfl rfl ?_
  refine j_aload_n C 0 dX1_isSo_4 rfl rfl ?_
  refine j_getS C (9, 0, 0, 0) fl_X1_48 dX1_isSo_5 (by decide) ⟨rfl, rfl⟩ rfl rfl ?_
  refine j_getS C (5, 0, 0, 0) fl_X1_65 dX1_isSo_8 (by decide) ⟨rfl, rfl⟩ rfl rfl ?_
  obtain ⟨D2, h1, h⟩ := vbd_x h
  refine j_callV C [.ref (ad G (5, 0, 0, 0))] [] cl_X1_179 (M_X6_begin (lv := lv - 1) hG (by omega) h1) (by omega) dX1_isSo_11 (by decide) ⟨rfl, rfl⟩ rfl rfl (Nat.le_of_ble_eq_true rfl) ?_
  refine j_st (st' := []) rfl ?_
  refine j_aload_n C 0 dX1_isSo_14 rfl rfl ?_
  refine j_getS C (8, 1, 0, 0) fl_X1_12 dX1_isSo_15 (by decide) ⟨rfl, rfl⟩ rfl rfl ?_
  refine j_aload_n C 0 dX1_isSo_18 rfl rfl ?_
  refine j_getS C (9, 0, 0, 0) fl_X1_48 dX1_isSo_19 (by decide) ⟨rfl, rfl⟩ rfl rfl ?_
  refine j_getS C (5, 0, 0, 0) fl_X1_65 dX1_isSo_22 (by decide) ⟨rfl, rfl⟩ rfl rfl ?_
  refine j_aload_n C 0 dX1_isSo_25 rfl rfl ?_
  refine j_getS C (10, 0, 5, 0) fl_X1_52 dX1_isSo_26 (by decide) ⟨rfl, rfl⟩ rfl rfl ?_
  refine j_iload_n C 1 dX1_isSo_29 rfl rfl ?_
  obtain ⟨r4, D5, h3, h⟩ := cbd_x h
  refine j_callS C [.ref (ad G (10, 0, 5, 0)), .int a1] [.ref (ad G (5, 0, 0, 0)), .ref (ad G (8, 1, 0, 0))] cl_X1_73 (M_X10_ruleOf (lv := lv - 1) hG (by omega) h3) (by omega) dX1_isSo_30 rfl rfl (Nat.le_of_ble_eq_true rfl) ?_
  refine j_st (st' := [va_rf (Option.map (fun n => ad G (3, n, 0, 0)) r4), .ref (ad G (5, 0, 0, 0)), .ref (ad G (8, 1, 0, 0))]) rfl ?_
  obtain ⟨D7, h6, h⟩ := vbd_x h
  refine j_callV C [.ref (ad G (5, 0, 0, 0)), va_rf (Option.map (fun n => ad G (3, n, 0, 0)) r4)] [] cl_X1_77 (M_X8_follow (lv := lv - 1) hG (by omega) h6) (by omega) dX1_isSo_33 (by decide) ⟨rfl, rfl⟩ rfl rfl (Nat.le_of_ble_eq_true rfl) ?_
  refine j_st (st' := []) rfl ?_
  refine j_iload_n C 2 dX1_isSo_36 rfl rfl ?_
  refine j_aload_n C 0 dX1_isSo_37 rfl rfl ?_
  refine j_getS C (9, 0, 0, 0) fl_X1_48 dX1_isSo_38 (by decide) ⟨rfl, rfl⟩ rfl rfl ?_
  obtain ⟨r9, D10, h8, h⟩ := cbd_x h
  refine j_callV C [] [.int a2] cl_X1_183 (M_X9_lastNote (lv := lv - 1) hG (by omega) h8) (by omega) dX1_isSo_41 (by decide) ⟨rfl, rfl⟩ rfl rfl (Nat.le_of_ble_eq_true rfl) ?_
  refine j_st (st' := [.int r9, .int a2]) rfl ?_
  refine j_max C km_X1_187 (by omega) (Nat.le_of_ble_eq_true rfl) dX1_isSo_44 ?_
  obtain ⟨v11, ev11, h⟩ := bnd_x h
  refine j_istore_n C [(3, .int v11), (0, .ref (ad G (1, 0, 0, 0))), (1, .int a1), (2, .int a2)] dX1_isSo_47 rfl (Nat.le_of_ble_eq_true rfl) ev11 rfl ?_
  refine j_iconst C (0 : Int32) (by decide) dX1_isSo_48 ?_
  refine j_istore C [(4, .int (0 : Int32)), (3, .int v11), (0, .ref (ad G (1, 0, 0, 0))), (1, .int a1), (2, .int a2)] dX1_isSo_49 (Nat.le_of_ble_eq_true rfl) rfl rfl ?_
  refine j_sub [2, 3, 4, 1, 0] [(0, .ref (ad G (1, 0, 0, 0))), (1, .int a1), (2, .int a2), (3, .int v11), (4, .int (0 : Int32))] rfl ?_
  refine T_X1_isSo_b51 hG hlv  C  2000 a1 a2 v11 (0 : Int32) D10 h
def F_X1_findRules_b81 (a1 : Int32) (a2 : Int32) (k13 : Int32 → Int32 → Int32 → Dt → Option Dt) (l1 : Int32) (l2 : Int32) (l3 : Int32) (D : Dt) : Option Dt := (bnd (l3 + (1 : Int32)) (fun v9 => (k13 l1 l2 v9 D)))
set_option maxRecDepth 100000 in
set_option maxHeartbeats 4000000 in
theorem T_X1_findRules_b81 {D' : Dt} {X : Ctx} {l : Launch} {G : Gt} {A : Nat → Prop} {lv : Nat} {a1 : Int32} {a2 : Int32}  {k13 : Int32 → Int32 → Int32 → Dt → Option Dt} (hG : Gok G A) (hlv : 7 ≤ lv)   (C : Cx X cX1_findRules RX1 G l A lv 4 none none D') (hk13 : ∀ (l1 : Int32) (l2 : Int32) (l3 : Int32) (D : Dt), k13 l1 l2 l3 D = some D' → J X (Rep G D) 13 [(0, .ref (ad G (1, 0, 0, 0))), (1, .int l1), (2, .int l2), (3, .int l3)] []) : ∀ (l1 : Int32) (l2 : Int32) (l3 : Int32) (D : Dt), F_X1_findRules_b81 a1 a2 k13 l1 l2 l3 D = some D' → J X (Rep G D) 81 [(0, .ref (ad G (1, 0, 0, 0))), (1, .int l1), (2, .int l2), (3, .int l3)] [] := by
  intro l1 l2 l3 D h
  unfold F_X1_findRules_b81 at h
  obtain ⟨v9, ev9, h⟩ := bnd_x h
  refine j_iinc C 3 [(3, .int v9), (0, .ref (ad G (1, 0, 0, 0))), (1, .int l1), (2, .int l2)] dX1_findRules_81 rfl (Nat.le_of_ble_eq_true rfl) (ev9.trans (congrArg (l3 + ·) (by decide))) rfl ?_
  refine j_goto C 13 dX1_findRules_84 (by decide) ?_
  refine j_sub [1, 2, 3, 0] [(0, .ref (ad G (1, 0, 0, 0))), (1, .int l1), (2, .int l2), (3, .int v9)] rfl ?_
  exact hk13 l1 l2 v9 D h
def F_X1_findRules_b45 (a1 : Int32) (a2 : Int32) (k13 : Int32 → Int32 → Int32 → Dt → Option Dt) (l1 : Int32) (l2 : Int32) (l3 : Int32) (s1 : Int32) (s2 : Int32) (D : Dt) : Option Dt := (grd (inB s1 7 = true) (bnd (setI D (1, 0, 8, 0) (s1.toNatClampNeg) (vp_nar .boolean s2)) (fun D6 => (grd (inB (l3 + (1 : Int32)) 7 = true) (if (D6.1 (1, 0, 8, 0) ((l3 + (1 : Int32)).toNatClampNeg)) = 0 then (F_X1_findRules_b81 a1 a2 (fun l1_10 l2_11 l3_12 D13 => (k13 l1_10 l2_11 l3_12 D13)) l1 l2 l3 D6) else (bnd (setI D6 (1, 0, 0, 0) 11 ((D6.1 (1, 0, 0, 0) 11) + (1 : Int32))) (fun D14 => (if (D14.1 (1, 0, 0, 0) 10) = (-2 : Int32) then (bnd (setI D14 (1, 0, 0, 0) 10 l3) (fun D20 => (F_X1_findRules_b81 a1 a2 (fun l1_21 l2_22 l3_23 D24 => (k13 l1_21 l2_22 l3_23 D24)) l1 l2 l3 D20))) else (F_X1_findRules_b81 a1 a2 (fun l1_16 l2_17 l3_18 D19 => (k13 l1_16 l2_17 l3_18 D19)) l1 l2 l3 D14)))))))))
set_option maxRecDepth 100000 in
set_option maxHeartbeats 4000000 in
theorem T_X1_findRules_b45 {D' : Dt} {X : Ctx} {l : Launch} {G : Gt} {A : Nat → Prop} {lv : Nat} {a1 : Int32} {a2 : Int32}  {k13 : Int32 → Int32 → Int32 → Dt → Option Dt} (hG : Gok G A) (hlv : 7 ≤ lv)   (C : Cx X cX1_findRules RX1 G l A lv 4 none none D') (hk13 : ∀ (l1 : Int32) (l2 : Int32) (l3 : Int32) (D : Dt), k13 l1 l2 l3 D = some D' → J X (Rep G D) 13 [(0, .ref (ad G (1, 0, 0, 0))), (1, .int l1), (2, .int l2), (3, .int l3)] []) : ∀ (l1 : Int32) (l2 : Int32) (l3 : Int32) (s1 : Int32) (s2 : Int32) (D : Dt), F_X1_findRules_b45 a1 a2 k13 l1 l2 l3 s1 s2 D = some D' → J X (Rep G D) 45 [(0, .ref (ad G (1, 0, 0, 0))), (1, .int l1), (2, .int l2), (3, .int l3)] [.int s2, .int s1, .ref (ad G (1, 0, 8, 0))] := by
  intro l1 l2 l3 s1 s2 D h
  unfold F_X1_findRules_b45 at h
  obtain ⟨g5, h⟩ := grd_x h
  obtain ⟨D6, eD6, h⟩ := bnd_x h
  refine j_zastK C 7 (s1.toNatClampNeg) dX1_findRules_45 (V_f 7 (by decide) (by decide)) rfl g5 rfl ?_
  refine j_rep eD6 ?_
  refine j_aload_n C 0 dX1_findRules_46 rfl rfl ?_
  refine j_getS C (1, 0, 8, 0) fl_X1_36 dX1_findRules_47 (by decide) ⟨rfl, rfl⟩ rfl rfl ?_
  refine j_iload_n C 3 dX1_findRules_50 rfl rfl ?_
  refine j_iconst C (1 : Int32) (by decide) dX1_findRules_51 ?_
  refine j_iadd C dX1_findRules_52 ?_
  obtain ⟨g7, h⟩ := grd_x h
  refine j_zaldK C 7 ((l3 + (1 : Int32)).toNatClampNeg) dX1_findRules_53 (V_f 7 (by decide) (by decide)) rfl g7 rfl ?_
  refine j_if_eq C 81 dX1_findRules_54 (by decide) (fun c8 => ?_) (fun c8 => ?_)
  · have h := ite_t c8 h
    refine T_X1_findRules_b81 hG hlv  C (fun l1_10 l2_11 l3_12 D13 h => ?_) l1 l2 l3 D6 h
    · exact hk13 l1_10 l2_11 l3_12 D13 h
  · have h := ite_f c8 h
    refine j_aload_n C 0 dX1_findRules_57 rfl rfl ?_
    refine j_dup C rfl dX1_findRules_58 ?_
    refine j_getI C fl_X1_97 dX1_findRules_59 (by decide) ⟨rfl, rfl⟩ rfl ?_
    refine j_iconst C (1 : Int32) (by decide) dX1_findRules_62 ?_
    refine j_iadd C dX1_findRules_63 ?_
    obtain ⟨D14, eD14, h⟩ := bnd_x h
    refine j_putI C fl_X1_97 dX1_findRules_64 (by decide) ⟨rfl, rfl⟩ rfl rfl rfl ?_
    refine j_rep eD14 ?_
    refine j_aload_n C 0 dX1_findRules_67 rfl rfl ?_
    refine j_getI C fl_X1_138 dX1_findRules_68 (by decide) ⟨rfl, rfl⟩ rfl ?_
    refine j_bipush C (-2 : Int32) (by decide) dX1_findRules_71 ?_
    refine j_icmp_ne C 81 dX1_findRules_73 (by decide) (fun c15 => ?_) (fun c15 => ?_)
    · have h := ite_f c15 h
      refine T_X1_findRules_b81 hG hlv  C (fun l1_16 l2_17 l3_18 D19 h => ?_) l1 l2 l3 D14 h
      · exact hk13 l1_16 l2_17 l3_18 D19 h
    · have h := ite_t c15 h
      refine j_aload_n C 0 dX1_findRules_76 rfl rfl ?_
      refine j_iload_n C 3 dX1_findRules_77 rfl rfl ?_
      obtain ⟨D20, eD20, h⟩ := bnd_x h
      refine j_putI C fl_X1_138 dX1_findRules_78 (by decide) ⟨rfl, rfl⟩ rfl rfl rfl ?_
      refine j_rep eD20 ?_
      refine T_X1_findRules_b81 hG hlv  C (fun l1_21 l2_22 l3_23 D24 h => ?_) l1 l2 l3 D20 h
      · exact hk13 l1_21 l2_22 l3_23 D24 h
def F_X1_findRules_b44 (a1 : Int32) (a2 : Int32) (k13 : Int32 → Int32 → Int32 → Dt → Option Dt) (l1 : Int32) (l2 : Int32) (l3 : Int32) (s1 : Int32) (D : Dt) : Option Dt := (F_X1_findRules_b45 a1 a2 (fun l1_25 l2_26 l3_27 D28 => (k13 l1_25 l2_26 l3_27 D28)) l1 l2 l3 s1 (0 : Int32) D)
set_option maxRecDepth 100000 in
set_option maxHeartbeats 4000000 in
theorem T_X1_findRules_b44 {D' : Dt} {X : Ctx} {l : Launch} {G : Gt} {A : Nat → Prop} {lv : Nat} {a1 : Int32} {a2 : Int32}  {k13 : Int32 → Int32 → Int32 → Dt → Option Dt} (hG : Gok G A) (hlv : 7 ≤ lv)   (C : Cx X cX1_findRules RX1 G l A lv 4 none none D') (hk13 : ∀ (l1 : Int32) (l2 : Int32) (l3 : Int32) (D : Dt), k13 l1 l2 l3 D = some D' → J X (Rep G D) 13 [(0, .ref (ad G (1, 0, 0, 0))), (1, .int l1), (2, .int l2), (3, .int l3)] []) : ∀ (l1 : Int32) (l2 : Int32) (l3 : Int32) (s1 : Int32) (D : Dt), F_X1_findRules_b44 a1 a2 k13 l1 l2 l3 s1 D = some D' → J X (Rep G D) 44 [(0, .ref (ad G (1, 0, 0, 0))), (1, .int l1), (2, .int l2), (3, .int l3)] [.int s1, .ref (ad G (1, 0, 8, 0))] := by
  intro l1 l2 l3 s1 D h
  unfold F_X1_findRules_b44 at h
  refine j_iconst C (0 : Int32) (by decide) dX1_findRules_44 ?_
  refine T_X1_findRules_b45 hG hlv  C (fun l1_25 l2_26 l3_27 D28 h => ?_) l1 l2 l3 s1 (0 : Int32) D h
  · exact hk13 l1_25 l2_26 l3_27 D28 h
def F_X1_findRules_b13 (a1 : Int32) (a2 : Int32)  : Nat → Int32 → Int32 → Int32 → Dt → Option Dt
  | 0, _, _, _, _ => none
  | f + 1, l1, l2, l3, D => (if (6 : Int32) ≤ l3 then (some D) else (if l1 ≤ l3 then (F_X1_findRules_b44 a1 a2 (fun l1_29 l2_30 l3_31 D32 => (F_X1_findRules_b13 a1 a2 f l1_29 l2_30 l3_31 D32)) l1 l2 l3 (l3 + (1 : Int32)) D) else (cbd (F_X1_isSo l3 l2 D) (fun r34 D35 => (if r34 = 0 then (F_X1_findRules_b44 a1 a2 (fun l1_37 l2_38 l3_39 D40 => (F_X1_findRules_b13 a1 a2 f l1_37 l2_38 l3_39 D40)) l1 l2 l3 (l3 + (1 : Int32)) D35) else (F_X1_findRules_b45 a1 a2 (fun l1_41 l2_42 l3_43 D44 => (F_X1_findRules_b13 a1 a2 f l1_41 l2_42 l3_43 D44)) l1 l2 l3 (l3 + (1 : Int32)) (1 : Int32) D35))))))
set_option maxRecDepth 100000 in
set_option maxHeartbeats 4000000 in
theorem T_X1_findRules_b13 {D' : Dt} {X : Ctx} {l : Launch} {G : Gt} {A : Nat → Prop} {lv : Nat} {a1 : Int32} {a2 : Int32}   (hG : Gok G A) (hlv : 7 ≤ lv)   (C : Cx X cX1_findRules RX1 G l A lv 4 none none D')  : ∀ (f : Nat) (l1 : Int32) (l2 : Int32) (l3 : Int32) (D : Dt), F_X1_findRules_b13 a1 a2 f l1 l2 l3 D = some D' → J X (Rep G D) 13 [(0, .ref (ad G (1, 0, 0, 0))), (1, .int l1), (2, .int l2), (3, .int l3)] [] := by
  intro f
  induction f with
  | zero =>
    intro l1 l2 l3 D h
    exact nomatch h
  | succ f ih =>
    intro l1 l2 l3 D h
    rw [F_X1_findRules_b13] at h
    refine j_iload_n C 3 dX1_findRules_13 rfl rfl ?_
    refine j_bipush C (6 : Int32) (by decide) dX1_findRules_14 ?_
    refine j_icmp_ge C 87 dX1_findRules_16 (by decide) (fun c3 => ?_) (fun c3 => ?_)
    · have h := ite_t c3 h
      obtain rfl := Option.some.inj h
      exact j_vret C dX1_findRules_87
    · have h := ite_f c3 h
      refine j_aload_n C 0 dX1_findRules_19 rfl rfl ?_
      refine j_getS C (1, 0, 8, 0) fl_X1_36 dX1_findRules_20 (by decide) ⟨rfl, rfl⟩ rfl rfl ?_
      refine j_iload_n C 3 dX1_findRules_23 rfl rfl ?_
      refine j_iconst C (1 : Int32) (by decide) dX1_findRules_24 ?_
      refine j_iadd C dX1_findRules_25 ?_
      refine j_iload_n C 3 dX1_findRules_26 rfl rfl ?_
      refine j_iload_n C 1 dX1_findRules_27 rfl rfl ?_
      refine j_icmp_ge C 44 dX1_findRules_28 (by decide) (fun c4 => ?_) (fun c4 => ?_)
      · have h := ite_t c4 h
        refine T_X1_findRules_b44 hG hlv  C (fun l1_29 l2_30 l3_31 D32 h => ?_) l1 l2 l3 (l3 + (1 : Int32)) D h
        · exact ih l1_29 l2_30 l3_31 D32 h
      · have h := ite_f c4 h
        refine j_aload_n C 0 dX1_findRules_31 rfl rfl ?_
        refine j_iload_n C 3 dX1_findRules_32 rfl rfl ?_
        refine j_iload_n C 2 dX1_findRules_33 rfl rfl ?_
        obtain ⟨r34, D35, h33, h⟩ := cbd_x h
        refine j_callV C [.int l3, .int l2] [.int (l3 + (1 : Int32)), .ref (ad G (1, 0, 8, 0))] cl_X1_176 (M_X1_isSo (lv := lv - 1) hG (by omega) h33) (by omega) dX1_findRules_34 (by decide) ⟨rfl, rfl⟩ rfl rfl (Nat.le_of_ble_eq_true rfl) ?_
        refine j_st (st' := [.int r34, .int (l3 + (1 : Int32)), .ref (ad G (1, 0, 8, 0))]) rfl ?_
        refine j_if_eq C 44 dX1_findRules_37 (by decide) (fun c36 => ?_) (fun c36 => ?_)
        · have h := ite_t c36 h
          refine T_X1_findRules_b44 hG hlv  C (fun l1_37 l2_38 l3_39 D40 h => ?_) l1 l2 l3 (l3 + (1 : Int32)) D35 h
          · exact ih l1_37 l2_38 l3_39 D40 h
        · have h := ite_f c36 h
          refine j_iconst C (1 : Int32) (by decide) dX1_findRules_40 ?_
          refine j_goto C 45 dX1_findRules_41 (by decide) ?_
          refine T_X1_findRules_b45 hG hlv  C (fun l1_41 l2_42 l3_43 D44 h => ?_) l1 l2 l3 (l3 + (1 : Int32)) (1 : Int32) D35 h
          · exact ih l1_41 l2_42 l3_43 D44 h
def F_X1_findRules (a1 : Int32) (a2 : Int32) (D : Dt) : Option Dt := (bnd (setI D (1, 0, 0, 0) 11 (0 : Int32)) (fun D1 => (bnd (setI D1 (1, 0, 0, 0) 10 (-2 : Int32)) (fun D2 => (F_X1_findRules_b13 a1 a2 2000 a1 a2 (-1 : Int32) D2)))))
set_option maxRecDepth 100000 in
set_option maxHeartbeats 4000000 in
theorem M_X1_findRules {l : Launch} {G : Gt} {A : Nat → Prop} {lv : Nat} {a1 : Int32} {a2 : Int32} {D : Dt} {D' : Dt} (hG : Gok G A) (hlv : 7 ≤ lv)  (h : F_X1_findRules a1 a2 D = some D') : MD l G A lv yX1_findRules cX1_findRules 4 none [.ref (ad G (1, 0, 0, 0)), .int a1, .int a2] D none D' := by
  unfold F_X1_findRules at h
  refine md_start RX1 hG (by decide +kernel) rfl (Nat.le_of_ble_eq_true rfl) (L := [(0, .ref (ad G (1, 0, 0, 0))), (1, .int a1), (2, .int a2)]) rfl (fun X C => ?_)
  refine j_aload_n C 0 dX1_findRules_0 rfl rfl ?_
  refine j_iconst C (0 : Int32) (by decide) dX1_findRules_1 ?_
  obtain ⟨D1, eD1, h⟩ := bnd_x h
  refine j_putI C fl_X1_97 dX1_findRules_2 (by decide) ⟨rfl, rfl⟩ rfl rfl rfl ?_
  refine j_rep eD1 ?_
  refine j_aload_n C 0 dX1_findRules_5 rfl rfl ?_
  refine j_bipush C (-2 : Int32) (by decide) dX1_findRules_6 ?_
  obtain ⟨D2, eD2, h⟩ := bnd_x h
  refine j_putI C fl_X1_138 dX1_findRules_8 (by decide) ⟨rfl, rfl⟩ rfl rfl rfl ?_
  refine j_rep eD2 ?_
  refine j_iconst C (-1 : Int32) (by decide) dX1_findRules_11 ?_
  refine j_istore_n C [(3, .int (-1 : Int32)), (0, .ref (ad G (1, 0, 0, 0))), (1, .int a1), (2, .int a2)] dX1_findRules_12 rfl (Nat.le_of_ble_eq_true rfl) rfl rfl ?_
  refine j_sub [1, 2, 3, 0] [(0, .ref (ad G (1, 0, 0, 0))), (1, .int a1), (2, .int a2), (3, .int (-1 : Int32))] rfl ?_
  refine T_X1_findRules_b13 hG hlv  C  2000 a1 a2 (-1 : Int32) D2 h
def F_X1_mostAlike_b71 (a1 : Int32) (k19 : Int32 → Int32 → Int32 → Int32 → Int32 → Dt → Option (Int32 × Dt)) (l1 : Int32) (l2 : Int32) (l3 : Int32) (l4 : Int32) (l5 : Int32) (D : Dt) : Option (Int32 × Dt) := (bnd (l5 + (1 : Int32)) (fun v5 => (k19 l1 l2 l3 l4 v5 D)))
set_option maxRecDepth 100000 in
set_option maxHeartbeats 4000000 in
theorem T_X1_mostAlike_b71 {r : Int32} {D' : Dt} {X : Ctx} {l : Launch} {G : Gt} {A : Nat → Prop} {lv : Nat} {a1 : Int32}  {k19 : Int32 → Int32 → Int32 → Int32 → Int32 → Dt → Option (Int32 × Dt)} (hG : Gok G A) (hlv : 1 ≤ lv)   (C : Cx X cX1_mostAlike RX1 G l A lv 6 (some .int) (some (.int r)) D') (hk19 : ∀ (l1 : Int32) (l2 : Int32) (l3 : Int32) (l4 : Int32) (l5 : Int32) (D : Dt), k19 l1 l2 l3 l4 l5 D = some (r, D') → J X (Rep G D) 19 [(0, .ref (ad G (1, 0, 0, 0))), (1, .int l1), (2, .int l2), (3, .int l3), (4, .int l4), (5, .int l5)] []) : ∀ (l1 : Int32) (l2 : Int32) (l3 : Int32) (l4 : Int32) (l5 : Int32) (D : Dt), F_X1_mostAlike_b71 a1 k19 l1 l2 l3 l4 l5 D = some (r, D') → J X (Rep G D) 71 [(0, .ref (ad G (1, 0, 0, 0))), (1, .int l1), (2, .int l2), (3, .int l3), (4, .int l4), (5, .int l5)] [] := by
  intro l1 l2 l3 l4 l5 D h
  unfold F_X1_mostAlike_b71 at h
  obtain ⟨v5, ev5, h⟩ := bnd_x h
  refine j_iinc C 5 [(5, .int v5), (0, .ref (ad G (1, 0, 0, 0))), (1, .int l1), (2, .int l2), (3, .int l3), (4, .int l4)] dX1_mostAlike_71 rfl (Nat.le_of_ble_eq_true rfl) (ev5.trans (congrArg (l5 + ·) (by decide))) rfl ?_
  refine j_goto C 19 dX1_mostAlike_74 (by decide) ?_
  refine j_sub [1, 2, 3, 4, 5, 0] [(0, .ref (ad G (1, 0, 0, 0))), (1, .int l1), (2, .int l2), (3, .int l3), (4, .int l4), (5, .int v5)] rfl ?_
  exact hk19 l1 l2 l3 l4 v5 D h
def F_X1_mostAlike_b19 (a1 : Int32) (k77 : Int32 → Int32 → Int32 → Int32 → Dt → Option (Int32 × Dt)) : Nat → Int32 → Int32 → Int32 → Int32 → Int32 → Dt → Option (Int32 × Dt)
  | 0, _, _, _, _, _, _ => none
  | f + 1, l1, l2, l3, l4, l5, D => (if (7 : Int32) ≤ l5 then (k77 l1 l2 l3 l4 D) else (grd (inB l3 7 = true) (if (D.1 (1, 0, 8, 0) (l3.toNatClampNeg)) = 0 then (F_X1_mostAlike_b71 a1 (fun l1_6 l2_7 l3_8 l4_9 l5_10 D11 => (F_X1_mostAlike_b19 a1 k77 f l1_6 l2_7 l3_8 l4_9 l5_10 D11)) l1 l2 l3 l4 l5 D) else (grd (inB l5 7 = true) (if (D.1 (1, 0, 8, 0) (l5.toNatClampNeg)) = 0 then (F_X1_mostAlike_b71 a1 (fun l1_14 l2_15 l3_16 l4_17 l5_18 D19 => (F_X1_mostAlike_b19 a1 k77 f l1_14 l2_15 l3_16 l4_17 l5_18 D19)) l1 l2 l3 l4 l5 D) else (grd (inB l1 5 = true) (if (D.1 (1, 0, 9, l3.toNatClampNeg + 1) (l1.toNatClampNeg)) = (D.1 (1, 0, 9, l5.toNatClampNeg + 1) (l1.toNatClampNeg)) then (bnd (l4 + (1 : Int32)) (fun v28 => (F_X1_mostAlike_b71 a1 (fun l1_29 l2_30 l3_31 l4_32 l5_33 D34 => (F_X1_mostAlike_b19 a1 k77 f l1_29 l2_30 l3_31 l4_32 l5_33 D34)) l1 l2 l3 v28 l5 D))) else (F_X1_mostAlike_b71 a1 (fun l1_22 l2_23 l3_24 l4_25 l5_26 D27 => (F_X1_mostAlike_b19 a1 k77 f l1_22 l2_23 l3_24 l4_25 l5_26 D27)) l1 l2 l3 l4 l5 D))))))))
set_option maxRecDepth 100000 in
set_option maxHeartbeats 4000000 in
theorem T_X1_mostAlike_b19 {r : Int32} {D' : Dt} {X : Ctx} {l : Launch} {G : Gt} {A : Nat → Prop} {lv : Nat} {a1 : Int32}  {k77 : Int32 → Int32 → Int32 → Int32 → Dt → Option (Int32 × Dt)} (hG : Gok G A) (hlv : 1 ≤ lv)   (C : Cx X cX1_mostAlike RX1 G l A lv 6 (some .int) (some (.int r)) D') (hk77 : ∀ (l1 : Int32) (l2 : Int32) (l3 : Int32) (l4 : Int32) (D : Dt), k77 l1 l2 l3 l4 D = some (r, D') → J X (Rep G D) 77 [(0, .ref (ad G (1, 0, 0, 0))), (1, .int l1), (2, .int l2), (3, .int l3), (4, .int l4)] []) : ∀ (f : Nat) (l1 : Int32) (l2 : Int32) (l3 : Int32) (l4 : Int32) (l5 : Int32) (D : Dt), F_X1_mostAlike_b19 a1 k77 f l1 l2 l3 l4 l5 D = some (r, D') → J X (Rep G D) 19 [(0, .ref (ad G (1, 0, 0, 0))), (1, .int l1), (2, .int l2), (3, .int l3), (4, .int l4), (5, .int l5)] [] := by
  intro f
  induction f with
  | zero =>
    intro l1 l2 l3 l4 l5 D h
    exact nomatch h
  | succ f ih =>
    intro l1 l2 l3 l4 l5 D h
    rw [F_X1_mostAlike_b19] at h
    refine j_iload C 5 dX1_mostAlike_19 rfl ?_
    refine j_aload_n C 0 dX1_mostAlike_21 rfl rfl ?_
    refine j_getS C (1, 0, 8, 0) fl_X1_36 dX1_mostAlike_22 (by decide) ⟨rfl, rfl⟩ rfl rfl ?_
    refine j_alen C (7 : Int32) dX1_mostAlike_25 (V_f 7 (by decide) (by decide)) rfl (by decide) (by decide) ?_
    refine j_icmp_ge C 77 dX1_mostAlike_26 (by decide) (fun c2 => ?_) (fun c2 => ?_)
    · have h := ite_t c2 h
      refine j_sub [0, 1, 2, 3, 4] [(0, .ref (ad G (1, 0, 0, 0))), (1, .int l1), (2, .int l2), (3, .int l3), (4, .int l4)] rfl ?_
      exact hk77 l1 l2 l3 l4 D h
    · have h := ite_f c2 h
      refine j_aload_n C 0 dX1_mostAlike_29 rfl rfl ?_
      refine j_getS C (1, 0, 8, 0) fl_X1_36 dX1_mostAlike_30 (by decide) ⟨rfl, rfl⟩ rfl rfl ?_
      refine j_iload_n C 3 dX1_mostAlike_33 rfl rfl ?_
      obtain ⟨g3, h⟩ := grd_x h
      refine j_zaldK C 7 (l3.toNatClampNeg) dX1_mostAlike_34 (V_f 7 (by decide) (by decide)) rfl g3 rfl ?_
      refine j_if_eq C 71 dX1_mostAlike_35 (by decide) (fun c4 => ?_) (fun c4 => ?_)
      · have h := ite_t c4 h
        refine T_X1_mostAlike_b71 hG hlv  C (fun l1_6 l2_7 l3_8 l4_9 l5_10 D11 h => ?_) l1 l2 l3 l4 l5 D h
        · exact ih l1_6 l2_7 l3_8 l4_9 l5_10 D11 h
      · have h := ite_f c4 h
        refine j_aload_n C 0 dX1_mostAlike_38 rfl rfl ?_
        refine j_getS C (1, 0, 8, 0) fl_X1_36 dX1_mostAlike_39 (by decide) ⟨rfl, rfl⟩ rfl rfl ?_
        refine j_iload C 5 dX1_mostAlike_42 rfl ?_
        obtain ⟨g12, h⟩ := grd_x h
        refine j_zaldK C 7 (l5.toNatClampNeg) dX1_mostAlike_44 (V_f 7 (by decide) (by decide)) rfl g12 rfl ?_
        refine j_if_eq C 71 dX1_mostAlike_45 (by decide) (fun c13 => ?_) (fun c13 => ?_)
        · have h := ite_t c13 h
          refine T_X1_mostAlike_b71 hG hlv  C (fun l1_14 l2_15 l3_16 l4_17 l5_18 D19 h => ?_) l1 l2 l3 l4 l5 D h
          · exact ih l1_14 l2_15 l3_16 l4_17 l5_18 D19 h
        · have h := ite_f c13 h
          refine j_aload_n C 0 dX1_mostAlike_48 rfl rfl ?_
          refine j_getS C (1, 0, 9, 0) fl_X1_42 dX1_mostAlike_49 (by decide) ⟨rfl, rfl⟩ rfl rfl ?_
          refine j_iload_n C 3 dX1_mostAlike_52 rfl rfl ?_
          refine j_aald C 7 7 (1, 0, 9, l3.toNatClampNeg + 1) dX1_mostAlike_53 (V_f 8 (by decide) (by decide)) rfl (by decide) g3 rfl ?_
          refine j_iload_n C 1 dX1_mostAlike_54 rfl rfl ?_
          obtain ⟨g20, h⟩ := grd_x h
          refine j_ialdK C 5 (l1.toNatClampNeg) dX1_mostAlike_55 (V_w (by decide) rfl (inB_lt g3)) rfl g20 rfl ?_
          refine j_aload_n C 0 dX1_mostAlike_56 rfl rfl ?_
          refine j_getS C (1, 0, 9, 0) fl_X1_42 dX1_mostAlike_57 (by decide) ⟨rfl, rfl⟩ rfl rfl ?_
          refine j_iload C 5 dX1_mostAlike_60 rfl ?_
          refine j_aald C 7 7 (1, 0, 9, l5.toNatClampNeg + 1) dX1_mostAlike_62 (V_f 8 (by decide) (by decide)) rfl (by decide) g12 rfl ?_
          refine j_iload_n C 1 dX1_mostAlike_63 rfl rfl ?_
          refine j_ialdK C 5 (l1.toNatClampNeg) dX1_mostAlike_64 (V_w (by decide) rfl (inB_lt g12)) rfl g20 rfl ?_
          refine j_icmp_ne C 71 dX1_mostAlike_65 (by decide) (fun c21 => ?_) (fun c21 => ?_)
          · have h := ite_f c21 h
            refine T_X1_mostAlike_b71 hG hlv  C (fun l1_22 l2_23 l3_24 l4_25 l5_26 D27 h => ?_) l1 l2 l3 l4 l5 D h
            · exact ih l1_22 l2_23 l3_24 l4_25 l5_26 D27 h
          · have h := ite_t c21 h
            obtain ⟨v28, ev28, h⟩ := bnd_x h
            refine j_iinc C 4 [(4, .int v28), (0, .ref (ad G (1, 0, 0, 0))), (1, .int l1), (2, .int l2), (3, .int l3), (5, .int l5)] dX1_mostAlike_68 rfl (Nat.le_of_ble_eq_true rfl) (ev28.trans (congrArg (l4 + ·) (by decide))) rfl ?_
            refine j_sub [1, 2, 3, 4, 0, 5] [(0, .ref (ad G (1, 0, 0, 0))), (1, .int l1), (2, .int l2), (3, .int l3), (4, .int v28), (5, .int l5)] rfl ?_
            refine T_X1_mostAlike_b71 hG hlv  C (fun l1_29 l2_30 l3_31 l4_32 l5_33 D34 h => ?_) l1 l2 l3 v28 l5 D h
            · exact ih l1_29 l2_30 l3_31 l4_32 l5_33 D34 h
def F_X1_mostAlike_b4 (a1 : Int32)  : Nat → Int32 → Int32 → Int32 → Dt → Option (Int32 × Dt)
  | 0, _, _, _, _ => none
  | f + 1, l1, l2, l3, D => (if (7 : Int32) ≤ l3 then (some (l2, D)) else (F_X1_mostAlike_b19 a1 (fun l1_35 l2_36 l3_37 l4_38 D39 => (bnd (if l2_36 < l4_38 then l4_38 else l2_36) (fun v40 => (bnd (l3_37 + (1 : Int32)) (fun v41 => (F_X1_mostAlike_b4 a1 f l1_35 v40 v41 D39)))))) 2000 l1 l2 l3 (0 : Int32) (0 : Int32) D))
set_option maxRecDepth 100000 in
set_option maxHeartbeats 4000000 in
theorem T_X1_mostAlike_b4 {r : Int32} {D' : Dt} {X : Ctx} {l : Launch} {G : Gt} {A : Nat → Prop} {lv : Nat} {a1 : Int32}   (hG : Gok G A) (hlv : 1 ≤ lv)   (C : Cx X cX1_mostAlike RX1 G l A lv 6 (some .int) (some (.int r)) D')  : ∀ (f : Nat) (l1 : Int32) (l2 : Int32) (l3 : Int32) (D : Dt), F_X1_mostAlike_b4 a1 f l1 l2 l3 D = some (r, D') → J X (Rep G D) 4 [(0, .ref (ad G (1, 0, 0, 0))), (1, .int l1), (2, .int l2), (3, .int l3)] [] := by
  intro f
  induction f with
  | zero =>
    intro l1 l2 l3 D h
    exact nomatch h
  | succ f ih =>
    intro l1 l2 l3 D h
    rw [F_X1_mostAlike_b4] at h
    refine j_iload_n C 3 dX1_mostAlike_4 rfl rfl ?_
    refine j_aload_n C 0 dX1_mostAlike_5 rfl rfl ?_
    refine j_getS C (1, 0, 8, 0) fl_X1_36 dX1_mostAlike_6 (by decide) ⟨rfl, rfl⟩ rfl rfl ?_
    refine j_alen C (7 : Int32) dX1_mostAlike_9 (V_f 7 (by decide) (by decide)) rfl (by decide) (by decide) ?_
    refine j_icmp_ge C 90 dX1_mostAlike_10 (by decide) (fun c1 => ?_) (fun c1 => ?_)
    · have h := ite_t c1 h
      refine j_iload_n C 2 dX1_mostAlike_90 rfl rfl ?_
      obtain ⟨rfl, rfl⟩ := pr_x h
      exact j_iret C dX1_mostAlike_91
    · have h := ite_f c1 h
      refine j_iconst C (0 : Int32) (by decide) dX1_mostAlike_13 ?_
      refine j_istore C [(4, .int (0 : Int32)), (0, .ref (ad G (1, 0, 0, 0))), (1, .int l1), (2, .int l2), (3, .int l3)] dX1_mostAlike_14 (Nat.le_of_ble_eq_true rfl) rfl rfl ?_
      refine j_iconst C (0 : Int32) (by decide) dX1_mostAlike_16 ?_
      refine j_istore C [(5, .int (0 : Int32)), (4, .int (0 : Int32)), (0, .ref (ad G (1, 0, 0, 0))), (1, .int l1), (2, .int l2), (3, .int l3)] dX1_mostAlike_17 (Nat.le_of_ble_eq_true rfl) rfl rfl ?_
      refine j_sub [2, 3, 4, 5, 1, 0] [(0, .ref (ad G (1, 0, 0, 0))), (1, .int l1), (2, .int l2), (3, .int l3), (4, .int (0 : Int32)), (5, .int (0 : Int32))] rfl ?_
      refine T_X1_mostAlike_b19 hG hlv  C (fun l1_35 l2_36 l3_37 l4_38 D39 h => ?_) 2000 l1 l2 l3 (0 : Int32) (0 : Int32) D h
      · refine j_iload_n C 2 dX1_mostAlike_77 rfl rfl ?_
        refine j_iload C 4 dX1_mostAlike_78 rfl ?_
        refine j_max C km_X1_187 (by omega) (Nat.le_of_ble_eq_true rfl) dX1_mostAlike_80 ?_
        obtain ⟨v40, ev40, h⟩ := bnd_x h
        refine j_istore_n C [(2, .int v40), (0, .ref (ad G (1, 0, 0, 0))), (1, .int l1_35), (3, .int l3_37), (4, .int l4_38)] dX1_mostAlike_83 rfl (Nat.le_of_ble_eq_true rfl) ev40 rfl ?_
        obtain ⟨v41, ev41, h⟩ := bnd_x h
        refine j_iinc C 3 [(3, .int v41), (2, .int v40), (0, .ref (ad G (1, 0, 0, 0))), (1, .int l1_35), (4, .int l4_38)] dX1_mostAlike_84 rfl (Nat.le_of_ble_eq_true rfl) (ev41.trans (congrArg (l3_37 + ·) (by decide))) rfl ?_
        refine j_goto C 4 dX1_mostAlike_87 (by decide) ?_
        refine j_sub [2, 3, 1, 0] [(0, .ref (ad G (1, 0, 0, 0))), (1, .int l1_35), (2, .int v40), (3, .int v41)] rfl ?_
        exact ih l1_35 v40 v41 D39 h
def F_X1_mostAlike (a1 : Int32) (D : Dt) : Option (Int32 × Dt) := (F_X1_mostAlike_b4 a1 2000 a1 (0 : Int32) (0 : Int32) D)
set_option maxRecDepth 100000 in
set_option maxHeartbeats 4000000 in
theorem M_X1_mostAlike {l : Launch} {G : Gt} {A : Nat → Prop} {lv : Nat} {a1 : Int32} {D : Dt} {r : Int32} {D' : Dt} (hG : Gok G A) (hlv : 1 ≤ lv)  (h : F_X1_mostAlike a1 D = some (r, D')) : MD l G A lv yX1_mostAlike cX1_mostAlike 6 (some .int) [.ref (ad G (1, 0, 0, 0)), .int a1] D (some (.int r)) D' := by
  unfold F_X1_mostAlike at h
  refine md_start RX1 hG (by decide +kernel) rfl (Nat.le_of_ble_eq_true rfl) (L := [(0, .ref (ad G (1, 0, 0, 0))), (1, .int a1)]) rfl (fun X C => ?_)
  refine j_iconst C (0 : Int32) (by decide) dX1_mostAlike_0 ?_
  refine j_istore_n C [(2, .int (0 : Int32)), (0, .ref (ad G (1, 0, 0, 0))), (1, .int a1)] dX1_mostAlike_1 rfl (Nat.le_of_ble_eq_true rfl) rfl rfl ?_
  refine j_iconst C (0 : Int32) (by decide) dX1_mostAlike_2 ?_
  refine j_istore_n C [(3, .int (0 : Int32)), (2, .int (0 : Int32)), (0, .ref (ad G (1, 0, 0, 0))), (1, .int a1)] dX1_mostAlike_3 rfl (Nat.le_of_ble_eq_true rfl) rfl rfl ?_
  refine j_sub [2, 3, 1, 0] [(0, .ref (ad G (1, 0, 0, 0))), (1, .int a1), (2, .int (0 : Int32)), (3, .int (0 : Int32))] rfl ?_
  refine T_X1_mostAlike_b4 hG hlv  C  2000 a1 (0 : Int32) (0 : Int32) D h
def F_X1_findLook_b46  (k8 : Int32 → Dt → Option Dt) (l1 : Int32) (D : Dt) : Option Dt := (bnd (l1 + (1 : Int32)) (fun v7 => (k8 v7 D)))
set_option maxRecDepth 100000 in
set_option maxHeartbeats 4000000 in
theorem T_X1_findLook_b46 {D' : Dt} {X : Ctx} {l : Launch} {G : Gt} {A : Nat → Prop} {lv : Nat}   {k8 : Int32 → Dt → Option Dt} (hG : Gok G A) (hlv : 2 ≤ lv)   (C : Cx X cX1_findLook RX1 G l A lv 3 none none D') (hk8 : ∀ (l1 : Int32) (D : Dt), k8 l1 D = some D' → J X (Rep G D) 8 [(0, .ref (ad G (1, 0, 0, 0))), (1, .int l1)] []) : ∀ (l1 : Int32) (D : Dt), F_X1_findLook_b46 k8 l1 D = some D' → J X (Rep G D) 46 [(0, .ref (ad G (1, 0, 0, 0))), (1, .int l1)] [] := by
  intro l1 D h
  unfold F_X1_findLook_b46 at h
  obtain ⟨v7, ev7, h⟩ := bnd_x h
  refine j_iinc C 1 [(1, .int v7), (0, .ref (ad G (1, 0, 0, 0)))] dX1_findLook_46 rfl (Nat.le_of_ble_eq_true rfl) (ev7.trans (congrArg (l1 + ·) (by decide))) rfl ?_
  refine j_goto C 8 dX1_findLook_49 (by decide) ?_
  refine j_sub [1, 0] [(0, .ref (ad G (1, 0, 0, 0))), (1, .int v7)] rfl ?_
  exact hk8 v7 D h
def F_X1_findLook_b8   : Nat → Int32 → Dt → Option Dt
  | 0, _, _ => none
  | f + 1, l1, D => (if (D.1 (5, 0, 0, 0) 3) ≤ l1 then (some D) else (cbd (F_X1_mostAlike l1 D) (fun r4 D5 => (if (D5.1 (1, 0, 0, 0) 11) ≤ r4 then (F_X1_findLook_b46 (fun l1_8 D9 => (F_X1_findLook_b8  f l1_8 D9)) l1 D5) else (bnd (setI D5 (1, 0, 0, 0) 11 r4) (fun D10 => (bnd (setI D10 (1, 0, 0, 0) 10 l1) (fun D11 => (F_X1_findLook_b46 (fun l1_12 D13 => (F_X1_findLook_b8  f l1_12 D13)) l1 D11)))))))))
set_option maxRecDepth 100000 in
set_option maxHeartbeats 4000000 in
theorem T_X1_findLook_b8 {D' : Dt} {X : Ctx} {l : Launch} {G : Gt} {A : Nat → Prop} {lv : Nat}    (hG : Gok G A) (hlv : 2 ≤ lv)   (C : Cx X cX1_findLook RX1 G l A lv 3 none none D')  : ∀ (f : Nat) (l1 : Int32) (D : Dt), F_X1_findLook_b8  f l1 D = some D' → J X (Rep G D) 8 [(0, .ref (ad G (1, 0, 0, 0))), (1, .int l1)] [] := by
  intro f
  induction f with
  | zero =>
    intro l1 D h
    exact nomatch h
  | succ f ih =>
    intro l1 D h
    rw [F_X1_findLook_b8] at h
    refine j_iload_n C 1 dX1_findLook_8 rfl rfl ?_
    refine j_aload_n C 0 dX1_findLook_9 rfl rfl ?_
    refine j_getS C (9, 0, 0, 0) fl_X1_48 dX1_findLook_10 (by decide) ⟨rfl, rfl⟩ rfl rfl ?_
    refine j_getS C (5, 0, 0, 0) fl_X1_65 dX1_findLook_13 (by decide) ⟨rfl, rfl⟩ rfl rfl ?_
    refine j_getI C fl_X1_111 dX1_findLook_16 (V_95 (by decide)) ⟨rfl, rfl⟩ rfl ?_
    refine j_icmp_ge C 52 dX1_findLook_19 (by decide) (fun c2 => ?_) (fun c2 => ?_)
    · have h := ite_t c2 h
      obtain rfl := Option.some.inj h
      exact j_vret C dX1_findLook_52
    · have h := ite_f c2 h
      refine j_aload_n C 0 dX1_findLook_22 rfl rfl ?_
      refine j_iload_n C 1 dX1_findLook_23 rfl rfl ?_
      obtain ⟨r4, D5, h3, h⟩ := cbd_x h
      refine j_callV C [.int l1] [] cl_X1_200 (M_X1_mostAlike (lv := lv - 1) hG (by omega) h3) (by omega) dX1_findLook_24 (by decide) ⟨rfl, rfl⟩ rfl rfl (Nat.le_of_ble_eq_true rfl) ?_
      refine j_st (st' := [.int r4]) rfl ?_
      refine j_istore_n C [(2, .int r4), (0, .ref (ad G (1, 0, 0, 0))), (1, .int l1)] dX1_findLook_27 rfl (Nat.le_of_ble_eq_true rfl) rfl rfl ?_
      refine j_iload_n C 0 dX1_findLook_28 rfl rfl ?_
      refine j_aload_n C 1 dX1_findLook_29 rfl rfl ?_
      refine j_getI C fl_X1_97 dX1_findLook_30 (by decide) ⟨rfl, rfl⟩ rfl ?_
      refine j_icmp_ge C 46 dX1_findLook_33 (by decide) (fun c6 => ?_) (fun c6 => ?_)
      · have h := ite_t c6 h
        refine j_sub [1, 2] [(0, .ref (ad G (1, 0, 0, 0))), (1, .int l1)] rfl ?_
        refine T_X1_findLook_b46 hG hlv  C (fun l1_8 D9 h => ?_) l1 D5 h
        · exact ih l1_8 D9 h
      · have h := ite_f c6 h
        refine j_aload_n C 1 dX1_findLook_36 rfl rfl ?_
        refine j_iload_n C 0 dX1_findLook_37 rfl rfl ?_
        obtain ⟨D10, eD10, h⟩ := bnd_x h
        refine j_putI C fl_X1_97 dX1_findLook_38 (by decide) ⟨rfl, rfl⟩ rfl rfl rfl ?_
        refine j_rep eD10 ?_
        refine j_aload_n C 1 dX1_findLook_41 rfl rfl ?_
        refine j_iload_n C 2 dX1_findLook_42 rfl rfl ?_
        obtain ⟨D11, eD11, h⟩ := bnd_x h
        refine j_putI C fl_X1_138 dX1_findLook_43 (by decide) ⟨rfl, rfl⟩ rfl rfl rfl ?_
        refine j_rep eD11 ?_
        refine j_sub [1, 2] [(0, .ref (ad G (1, 0, 0, 0))), (1, .int l1)] rfl ?_
        refine T_X1_findLook_b46 hG hlv  C (fun l1_12 D13 h => ?_) l1 D11 h
        · exact ih l1_12 D13 h
def F_X1_findLook  (D : Dt) : Option Dt := (bnd (setI D (1, 0, 0, 0) 11 (8 : Int32)) (fun D1 => (F_X1_findLook_b8  2000 (0 : Int32) D1)))
set_option maxRecDepth 100000 in
set_option maxHeartbeats 4000000 in
theorem M_X1_findLook {l : Launch} {G : Gt} {A : Nat → Prop} {lv : Nat}  {D : Dt} {D' : Dt} (hG : Gok G A) (hlv : 2 ≤ lv)  (h : F_X1_findLook  D = some D') : MD l G A lv yX1_findLook cX1_findLook 3 none [.ref (ad G (1, 0, 0, 0))] D none D' := by
  unfold F_X1_findLook at h
  refine md_start RX1 hG (by decide +kernel) rfl (Nat.le_of_ble_eq_true rfl) (L := [(0, .ref (ad G (1, 0, 0, 0)))]) rfl (fun X C => ?_)
  refine j_aload_n C 0 dX1_findLook_0 rfl rfl ?_
  refine j_bipush C (8 : Int32) (by decide) dX1_findLook_1 ?_
  obtain ⟨D1, eD1, h⟩ := bnd_x h
  refine j_putI C fl_X1_97 dX1_findLook_3 (by decide) ⟨rfl, rfl⟩ rfl rfl rfl ?_
  refine j_rep eD1 ?_
  refine j_iconst C (0 : Int32) (by decide) dX1_findLook_6 ?_
  refine j_istore_n C [(1, .int (0 : Int32)), (0, .ref (ad G (1, 0, 0, 0)))] dX1_findLook_7 rfl (Nat.le_of_ble_eq_true rfl) rfl rfl ?_
  refine j_sub [1, 0] [(0, .ref (ad G (1, 0, 0, 0))), (1, .int (0 : Int32))] rfl ?_
  refine T_X1_findLook_b8 hG hlv  C  2000 (0 : Int32) D1 h
def F_X1_nextDrawn (a1 : Int32) (D : Dt) : Option (Int32 × Dt) := (some (((((a1.toInt64 * (1103515245 : Int64)) + (12345 : Int64)) &&& (2147483647 : Int64)).toInt32), D))
set_option maxRecDepth 100000 in
set_option maxHeartbeats 4000000 in
theorem M_X1_nextDrawn {l : Launch} {G : Gt} {A : Nat → Prop} {lv : Nat} {a1 : Int32} {D : Dt} {r : Int32} {D' : Dt} (hG : Gok G A) (hlv : 1 ≤ lv)  (h : F_X1_nextDrawn a1 D = some (r, D')) : MD l G A lv yX1_nextDrawn cX1_nextDrawn 1 (some .int) [.int a1] D (some (.int r)) D' := by
  unfold F_X1_nextDrawn at h
  refine md_start RX1 hG (by decide +kernel) rfl (Nat.le_of_ble_eq_true rfl) (L := [(0, .int a1)]) rfl (fun X C => ?_)
  refine j_iload_n C 0 dX1_nextDrawn_0 rfl rfl ?_
  refine j_i2l C dX1_nextDrawn_1 ?_
  refine j_ldc2 C (1103515245 : Int64) kc_X1_209 dX1_nextDrawn_2 ?_
  refine j_lmul C dX1_nextDrawn_5 ?_
  refine j_ldc2 C (12345 : Int64) kc_X1_211 dX1_nextDrawn_6 ?_
  refine j_ladd C dX1_nextDrawn_9 ?_
  refine j_ldc2 C (2147483647 : Int64) kc_X1_213 dX1_nextDrawn_10 ?_
  refine j_land C dX1_nextDrawn_13 ?_
  refine j_l2i C dX1_nextDrawn_14 ?_
  obtain ⟨rfl, rfl⟩ := pr_x h
  exact j_iret C dX1_nextDrawn_15
def F_X1_drawSummers_b108 (a1 : Int32) (a2 : Int32) (a3 : Int32) (k39 : Int32 → Int32 → Int32 → Int32 → Int32 → Int32 → Dt → Option Dt) (l1 : Int32) (l2 : Int32) (l3 : Int32) (l4 : Int32) (l5 : Int32) (l6 : Int32) (D : Dt) : Option Dt := (cbd (F_X8_pass 1 105 D) (fun r13 D14 => (bnd (setI D14 (1, 0, 0, 0) 10 ((D.1 (1, 0, 0, 0) 10) + r13)) (fun D15 => (bnd (l6 + (1 : Int32)) (fun v16 => (k39 l1 l2 l3 l4 l5 v16 D15)))))))
set_option maxRecDepth 100000 in
set_option maxHeartbeats 4000000 in
theorem T_X1_drawSummers_b108 {D' : Dt} {X : Ctx} {l : Launch} {G : Gt} {A : Nat → Prop} {lv : Nat} {a1 : Int32} {a2 : Int32} {a3 : Int32}  {k39 : Int32 → Int32 → Int32 → Int32 → Int32 → Int32 → Dt → Option Dt} (hG : Gok G A) (hlv : 6 ≤ lv)   (C : Cx X cX1_drawSummers RX1 G l A lv 7 none none D') (hk39 : ∀ (l1 : Int32) (l2 : Int32) (l3 : Int32) (l4 : Int32) (l5 : Int32) (l6 : Int32) (D : Dt), k39 l1 l2 l3 l4 l5 l6 D = some D' → J X (Rep G D) 39 [(0, .ref (ad G (1, 0, 0, 0))), (1, .int l1), (2, .int l2), (3, .int l3), (4, .int l4), (5, .int l5), (6, .int l6)] []) : ∀ (l1 : Int32) (l2 : Int32) (l3 : Int32) (l4 : Int32) (l5 : Int32) (l6 : Int32) (D : Dt), F_X1_drawSummers_b108 a1 a2 a3 k39 l1 l2 l3 l4 l5 l6 D = some D' → J X (Rep G D) 108 [(0, .ref (ad G (1, 0, 0, 0))), (1, .int l1), (2, .int l2), (3, .int l3), (4, .int l4), (5, .int l5), (6, .int l6)] [] := by
  intro l1 l2 l3 l4 l5 l6 D h
  unfold F_X1_drawSummers_b108 at h
  refine j_aload_n C 0 dX1_drawSummers_108 rfl rfl ?_
  refine j_dup C rfl dX1_drawSummers_109 ?_
  refine j_getI C fl_X1_138 dX1_drawSummers_110 (by decide) ⟨rfl, rfl⟩ rfl ?_
  refine j_aload_n C 0 dX1_drawSummers_113 rfl rfl ?_
  refine j_getS C (8, 1, 0, 0) fl_X1_12 dX1_drawSummers_114 (by decide) ⟨rfl, rfl⟩ rfl rfl ?_
  refine j_aload_n C 0 dX1_drawSummers_117 rfl rfl ?_
  refine j_getS C (6, 105, 0, 0) fl_X1_21 dX1_drawSummers_118 (by decide) ⟨rfl, rfl⟩ rfl rfl ?_
  obtain ⟨r13, D14, h12, h⟩ := cbd_x h
  refine j_callV C [.ref (ad G (6, 105, 0, 0))] [.int (D.1 (1, 0, 0, 0) 10), .ref (ad G (1, 0, 0, 0))] cl_X1_84 (M_X8_pass (lv := lv - 1) hG (by omega) h12) (by omega) dX1_drawSummers_121 (by decide) ⟨rfl, rfl⟩ rfl rfl (Nat.le_of_ble_eq_true rfl) ?_
  refine j_st (st' := [.int r13, .int (D.1 (1, 0, 0, 0) 10), .ref (ad G (1, 0, 0, 0))]) rfl ?_
  refine j_iadd C dX1_drawSummers_124 ?_
  obtain ⟨D15, eD15, h⟩ := bnd_x h
  refine j_putI C fl_X1_138 dX1_drawSummers_125 (by decide) ⟨rfl, rfl⟩ rfl rfl rfl ?_
  refine j_rep eD15 ?_
  obtain ⟨v16, ev16, h⟩ := bnd_x h
  refine j_iinc C 6 [(6, .int v16), (0, .ref (ad G (1, 0, 0, 0))), (1, .int l1), (2, .int l2), (3, .int l3), (4, .int l4), (5, .int l5)] dX1_drawSummers_128 rfl (Nat.le_of_ble_eq_true rfl) (ev16.trans (congrArg (l6 + ·) (by decide))) rfl ?_
  refine j_goto C 39 dX1_drawSummers_131 (by decide) ?_
  refine j_sub [1, 2, 3, 4, 5, 6, 0] [(0, .ref (ad G (1, 0, 0, 0))), (1, .int l1), (2, .int l2), (3, .int l3), (4, .int l4), (5, .int l5), (6, .int v16)] rfl ?_
  exact hk39 l1 l2 l3 l4 l5 v16 D15 h
def F_X1_drawSummers_b39 (a1 : Int32) (a2 : Int32) (a3 : Int32) (k134 : Int32 → Int32 → Int32 → Int32 → Int32 → Dt → Option Dt) : Nat → Int32 → Int32 → Int32 → Int32 → Int32 → Int32 → Dt → Option Dt
  | 0, _, _, _, _, _, _, _ => none
  | f + 1, l1, l2, l3, l4, l5, l6, D => (if l2 ≤ l6 then (k134 l1 l2 l3 l4 l5 D) else (cbd (F_X1_nextDrawn l4 D) (fun r9 D10 => (if l3 ≤ ((r9 >>> ((16 : Int32) &&& 31)) - (r9 >>> ((16 : Int32) &&& 31)) / (100 : Int32) * (100 : Int32)) then (F_X1_drawSummers_b108 a1 a2 a3 (fun l1_17 l2_18 l3_19 l4_20 l5_21 l6_22 D23 => (F_X1_drawSummers_b39 a1 a2 a3 k134 f l1_17 l2_18 l3_19 l4_20 l5_21 l6_22 D23)) l1 l2 l3 r9 l5 l6 D10) else (if (D10.1 (5, 0, 0, 0) 3) ≤ 0 then (F_X1_drawSummers_b108 a1 a2 a3 (fun l1_25 l2_26 l3_27 l4_28 l5_29 l6_30 D31 => (F_X1_drawSummers_b39 a1 a2 a3 k134 f l1_25 l2_26 l3_27 l4_28 l5_29 l6_30 D31)) l1 l2 l3 r9 l5 l6 D10) else (cbd (F_X1_nextDrawn r9 D10) (fun r33 D34 => (grd (¬ (D34.1 (5, 0, 0, 0) 3) = 0) (vbd (F_X6_addSun 105 ((r33 >>> ((16 : Int32) &&& 31)) - (r33 >>> ((16 : Int32) &&& 31)) / (D34.1 (5, 0, 0, 0) 3) * (D34.1 (5, 0, 0, 0) 3)) (1 : Int32) D34) (fun D37 => (F_X1_drawSummers_b108 a1 a2 a3 (fun l1_38 l2_39 l3_40 l4_41 l5_42 l6_43 D44 => (F_X1_drawSummers_b39 a1 a2 a3 k134 f l1_38 l2_39 l3_40 l4_41 l5_42 l6_43 D44)) l1 l2 l3 r33 l5 l6 D37)))))))))))
set_option maxRecDepth 100000 in
set_option maxHeartbeats 4000000 in
theorem T_X1_drawSummers_b39 {D' : Dt} {X : Ctx} {l : Launch} {G : Gt} {A : Nat → Prop} {lv : Nat} {a1 : Int32} {a2 : Int32} {a3 : Int32}  {k134 : Int32 → Int32 → Int32 → Int32 → Int32 → Dt → Option Dt} (hG : Gok G A) (hlv : 6 ≤ lv)   (C : Cx X cX1_drawSummers RX1 G l A lv 7 none none D') (hk134 : ∀ (l1 : Int32) (l2 : Int32) (l3 : Int32) (l4 : Int32) (l5 : Int32) (D : Dt), k134 l1 l2 l3 l4 l5 D = some D' → J X (Rep G D) 134 [(0, .ref (ad G (1, 0, 0, 0))), (1, .int l1), (2, .int l2), (3, .int l3), (4, .int l4), (5, .int l5)] []) : ∀ (f : Nat) (l1 : Int32) (l2 : Int32) (l3 : Int32) (l4 : Int32) (l5 : Int32) (l6 : Int32) (D : Dt), F_X1_drawSummers_b39 a1 a2 a3 k134 f l1 l2 l3 l4 l5 l6 D = some D' → J X (Rep G D) 39 [(0, .ref (ad G (1, 0, 0, 0))), (1, .int l1), (2, .int l2), (3, .int l3), (4, .int l4), (5, .int l5), (6, .int l6)] [] := by
  intro f
  induction f with
  | zero =>
    intro l1 l2 l3 l4 l5 l6 D h
    exact nomatch h
  | succ f ih =>
    intro l1 l2 l3 l4 l5 l6 D h
    rw [F_X1_drawSummers_b39] at h
    refine j_iload C 6 dX1_drawSummers_39 rfl ?_
    refine j_iload_n C 2 dX1_drawSummers_41 rfl rfl ?_
    refine j_icmp_ge C 134 dX1_drawSummers_42 (by decide) (fun c7 => ?_) (fun c7 => ?_)
    · have h := ite_t c7 h
      refine j_sub [0, 1, 2, 3, 4, 5] [(0, .ref (ad G (1, 0, 0, 0))), (1, .int l1), (2, .int l2), (3, .int l3), (4, .int l4), (5, .int l5)] rfl ?_
      exact hk134 l1 l2 l3 l4 l5 D h
    · have h := ite_f c7 h
      refine j_iload C 4 dX1_drawSummers_45 rfl ?_
      obtain ⟨r9, D10, h8, h⟩ := cbd_x h
      refine j_callS C [.int l4] [] cl_X1_206 (M_X1_nextDrawn (lv := lv - 1) hG (by omega) h8) (by omega) dX1_drawSummers_47 rfl rfl (Nat.le_of_ble_eq_true rfl) ?_
      refine j_st (st' := [.int r9]) rfl ?_
      refine j_istore C [(4, .int r9), (0, .ref (ad G (1, 0, 0, 0))), (1, .int l1), (2, .int l2), (3, .int l3), (5, .int l5), (6, .int l6)] dX1_drawSummers_50 (Nat.le_of_ble_eq_true rfl) rfl rfl ?_
      refine j_iload C 0 dX1_drawSummers_52 rfl ?_
      refine j_bipush C (16 : Int32) (by decide) dX1_drawSummers_54 ?_
      refine j_ishr C dX1_drawSummers_56 ?_
      refine j_bipush C (100 : Int32) (by decide) dX1_drawSummers_57 ?_
      refine j_irem C (by decide) dX1_drawSummers_59 ?_
      refine j_iload_n C 4 dX1_drawSummers_60 rfl rfl ?_
      refine j_icmp_ge C 108 dX1_drawSummers_61 (by decide) (fun c11 => ?_) (fun c11 => ?_)
      · have h := ite_t c11 h
        refine j_sub [1, 2, 3, 4, 0, 5, 6] [(0, .ref (ad G (1, 0, 0, 0))), (1, .int l1), (2, .int l2), (3, .int l3), (4, .int r9), (5, .int l5), (6, .int l6)] rfl ?_
        refine T_X1_drawSummers_b108 hG hlv  C (fun l1_17 l2_18 l3_19 l4_20 l5_21 l6_22 D23 h => ?_) l1 l2 l3 r9 l5 l6 D10 h
        · exact ih l1_17 l2_18 l3_19 l4_20 l5_21 l6_22 D23 h
      · have h := ite_f c11 h
        refine j_aload_n C 1 dX1_drawSummers_64 rfl rfl ?_
        refine j_getS C (9, 0, 0, 0) fl_X1_48 dX1_drawSummers_65 (by decide) ⟨rfl, rfl⟩ rfl rfl ?_
        refine j_getS C (5, 0, 0, 0) fl_X1_65 dX1_drawSummers_68 (by decide) ⟨rfl, rfl⟩ rfl rfl ?_
        refine j_getI C fl_X1_111 dX1_drawSummers_71 (V_95 (by decide)) ⟨rfl, rfl⟩ rfl ?_
        refine j_if_le C 108 dX1_drawSummers_74 (by decide) (fun c24 => ?_) (fun c24 => ?_)
        · have h := ite_t c24 h
          refine j_sub [1, 2, 3, 4, 0, 5, 6] [(0, .ref (ad G (1, 0, 0, 0))), (1, .int l1), (2, .int l2), (3, .int l3), (4, .int r9), (5, .int l5), (6, .int l6)] rfl ?_
          refine T_X1_drawSummers_b108 hG hlv  C (fun l1_25 l2_26 l3_27 l4_28 l5_29 l6_30 D31 h => ?_) l1 l2 l3 r9 l5 l6 D10 h
          · exact ih l1_25 l2_26 l3_27 l4_28 l5_29 l6_30 D31 h
        · have h := ite_f c24 h
          refine j_iload C 0 dX1_drawSummers_77 rfl ?_
          obtain ⟨r33, D34, h32, h⟩ := cbd_x h
          refine j_callS C [.int r9] [] cl_X1_206 (M_X1_nextDrawn (lv := lv - 1) hG (by omega) h32) (by omega) dX1_drawSummers_79 rfl rfl (Nat.le_of_ble_eq_true rfl) ?_
          refine j_st (st' := [.int r33]) rfl ?_
          refine j_istore C [(4, .int r33), (0, .ref (ad G (1, 0, 0, 0))), (1, .int l1), (2, .int l2), (3, .int l3), (5, .int l5), (6, .int l6)] dX1_drawSummers_82 (Nat.le_of_ble_eq_true rfl) rfl rfl ?_
          refine j_aload_n C 1 dX1_drawSummers_84 rfl rfl ?_
          refine j_getS C (6, 105, 0, 0) fl_X1_21 dX1_drawSummers_85 (by decide) ⟨rfl, rfl⟩ rfl rfl ?_
          refine j_iload C 0 dX1_drawSummers_88 rfl ?_
          refine j_bipush C (16 : Int32) (by decide) dX1_drawSummers_90 ?_
          refine j_ishr C dX1_drawSummers_92 ?_
          refine j_aload_n C 1 dX1_drawSummers_93 rfl rfl ?_
          refine j_getS C (9, 0, 0, 0) fl_X1_48 dX1_drawSummers_94 (by decide) ⟨rfl, rfl⟩ rfl rfl ?_
          refine j_getS C (5, 0, 0, 0) fl_X1_65 dX1_drawSummers_97 (by decide) ⟨rfl, rfl⟩ rfl rfl ?_
          refine j_getI C fl_X1_111 dX1_drawSummers_100 (V_95 (by decide)) ⟨rfl, rfl⟩ rfl ?_
          obtain ⟨g35, h⟩ := grd_x h
          refine j_irem C g35 dX1_drawSummers_103 ?_
          refine j_iconst C (1 : Int32) (by decide) dX1_drawSummers_104 ?_
          obtain ⟨D37, h36, h⟩ := vbd_x h
          refine j_callV C [.int ((r33 >>> ((16 : Int32) &&& 31)) - (r33 >>> ((16 : Int32) &&& 31)) / (D34.1 (5, 0, 0, 0) 3) * (D34.1 (5, 0, 0, 0) 3)), .int (1 : Int32)] [] cl_X1_145 (M_X6_addSun (lv := lv - 1) hG (by omega) h36) (by omega) dX1_drawSummers_105 (by decide) ⟨rfl, rfl⟩ rfl rfl (Nat.le_of_ble_eq_true rfl) ?_
          refine j_st (st' := []) rfl ?_
          refine j_sub [1, 2, 3, 4, 0, 5, 6] [(0, .ref (ad G (1, 0, 0, 0))), (1, .int l1), (2, .int l2), (3, .int l3), (4, .int r33), (5, .int l5), (6, .int l6)] rfl ?_
          refine T_X1_drawSummers_b108 hG hlv  C (fun l1_38 l2_39 l3_40 l4_41 l5_42 l6_43 D44 h => ?_) l1 l2 l3 r33 l5 l6 D37 h
          · exact ih l1_38 l2_39 l3_40 l4_41 l5_42 l6_43 D44 h
def F_X1_drawSummers_b22 (a1 : Int32) (a2 : Int32) (a3 : Int32)  : Nat → Int32 → Int32 → Int32 → Int32 → Int32 → Dt → Option Dt
  | 0, _, _, _, _, _, _ => none
  | f + 1, l1, l2, l3, l4, l5, D => (if l1 ≤ l5 then (some D) else (vbd (F_X1_startOn 105 D) (fun D6 => (F_X1_drawSummers_b39 a1 a2 a3 (fun l1_45 l2_46 l3_47 l4_48 l5_49 D50 => (cbd (F_X10_total (6, 105, 4, 0) D50) (fun r52 D53 => (bnd (setI D53 (1, 0, 0, 0) 11 ((D50.1 (1, 0, 0, 0) 11) + r52)) (fun D54 => (bnd (l5_49 + (1 : Int32)) (fun v55 => (F_X1_drawSummers_b22 a1 a2 a3 f l1_45 l2_46 l3_47 l4_48 v55 D54)))))))) 2000 l1 l2 l3 l4 l5 (0 : Int32) D6))))
set_option maxRecDepth 100000 in
set_option maxHeartbeats 4000000 in
theorem T_X1_drawSummers_b22 {D' : Dt} {X : Ctx} {l : Launch} {G : Gt} {A : Nat → Prop} {lv : Nat} {a1 : Int32} {a2 : Int32} {a3 : Int32}   (hG : Gok G A) (hlv : 6 ≤ lv)   (C : Cx X cX1_drawSummers RX1 G l A lv 7 none none D')  : ∀ (f : Nat) (l1 : Int32) (l2 : Int32) (l3 : Int32) (l4 : Int32) (l5 : Int32) (D : Dt), F_X1_drawSummers_b22 a1 a2 a3 f l1 l2 l3 l4 l5 D = some D' → J X (Rep G D) 22 [(0, .ref (ad G (1, 0, 0, 0))), (1, .int l1), (2, .int l2), (3, .int l3), (4, .int l4), (5, .int l5)] [] := by
  intro f
  induction f with
  | zero =>
    intro l1 l2 l3 l4 l5 D h
    exact nomatch h
  | succ f ih =>
    intro l1 l2 l3 l4 l5 D h
    rw [F_X1_drawSummers_b22] at h
    refine j_iload C 5 dX1_drawSummers_22 rfl ?_
    refine j_iload_n C 1 dX1_drawSummers_24 rfl rfl ?_
    refine j_icmp_ge C 159 dX1_drawSummers_25 (by decide) (fun c4 => ?_) (fun c4 => ?_)
    · have h := ite_t c4 h
      obtain rfl := Option.some.inj h
      exact j_vret C dX1_drawSummers_159
    · have h := ite_f c4 h
      refine j_aload_n C 0 dX1_drawSummers_28 rfl rfl ?_
      refine j_aload_n C 0 dX1_drawSummers_29 rfl rfl ?_
      refine j_getS C (6, 105, 0, 0) fl_X1_21 dX1_drawSummers_30 (by decide) ⟨rfl, rfl⟩ rfl rfl ?_
      obtain ⟨D6, h5, h⟩ := vbd_x h
      refine j_callV C [.ref (ad G (6, 105, 0, 0))] [] cl_X1_81 (M_X1_startOn (lv := lv - 1) hG (by omega) h5) (by omega) dX1_drawSummers_33 (by decide) ⟨rfl, rfl⟩ rfl rfl (Nat.le_of_ble_eq_true rfl) ?_
      refine j_st (st' := []) rfl ?_
      refine j_iconst C (0 : Int32) (by decide) dX1_drawSummers_36 ?_
      refine j_istore C [(6, .int (0 : Int32)), (0, .ref (ad G (1, 0, 0, 0))), (1, .int l1), (2, .int l2), (3, .int l3), (4, .int l4), (5, .int l5)] dX1_drawSummers_37 (Nat.le_of_ble_eq_true rfl) rfl rfl ?_
      refine j_sub [1, 2, 3, 4, 5, 6, 0] [(0, .ref (ad G (1, 0, 0, 0))), (1, .int l1), (2, .int l2), (3, .int l3), (4, .int l4), (5, .int l5), (6, .int (0 : Int32))] rfl ?_
      refine T_X1_drawSummers_b39 hG hlv  C (fun l1_45 l2_46 l3_47 l4_48 l5_49 D50 h => ?_) 2000 l1 l2 l3 l4 l5 (0 : Int32) D6 h
      · refine j_aload_n C 0 dX1_drawSummers_134 rfl rfl ?_
        refine j_dup C rfl dX1_drawSummers_135 ?_
        refine j_getI C fl_X1_97 dX1_drawSummers_136 (by decide) ⟨rfl, rfl⟩ rfl ?_
        refine j_aload_n C 0 dX1_drawSummers_139 rfl rfl ?_
        refine j_getS C (6, 105, 0, 0) fl_X1_21 dX1_drawSummers_140 (by decide) ⟨rfl, rfl⟩ rfl rfl ?_
        refine j_getS C (6, 105, 4, 0) fl_X1_104 dX1_drawSummers_143 (by decide) ⟨rfl, rfl⟩ rfl rfl ?_
        obtain ⟨r52, D53, h51, h⟩ := cbd_x h
        refine j_callS C [.ref (ad G (6, 105, 4, 0))] [.int (D50.1 (1, 0, 0, 0) 11), .ref (ad G (1, 0, 0, 0))] cl_X1_134 (M_X10_total (lv := lv - 1) hG (by omega) h51) (by omega) dX1_drawSummers_146 rfl rfl (Nat.le_of_ble_eq_true rfl) ?_
        refine j_st (st' := [.int r52, .int (D50.1 (1, 0, 0, 0) 11), .ref (ad G (1, 0, 0, 0))]) rfl ?_
        refine j_iadd C dX1_drawSummers_149 ?_
        obtain ⟨D54, eD54, h⟩ := bnd_x h
        refine j_putI C fl_X1_97 dX1_drawSummers_150 (by decide) ⟨rfl, rfl⟩ rfl rfl rfl ?_
        refine j_rep eD54 ?_
        obtain ⟨v55, ev55, h⟩ := bnd_x h
        refine j_iinc C 5 [(5, .int v55), (0, .ref (ad G (1, 0, 0, 0))), (1, .int l1_45), (2, .int l2_46), (3, .int l3_47), (4, .int l4_48)] dX1_drawSummers_153 rfl (Nat.le_of_ble_eq_true rfl) (ev55.trans (congrArg (l5_49 + ·) (by decide))) rfl ?_
        refine j_goto C 22 dX1_drawSummers_156 (by decide) ?_
        refine j_sub [1, 2, 3, 4, 5, 0] [(0, .ref (ad G (1, 0, 0, 0))), (1, .int l1_45), (2, .int l2_46), (3, .int l3_47), (4, .int l4_48), (5, .int v55)] rfl ?_
        exact ih l1_45 l2_46 l3_47 l4_48 v55 D54 h
def F_X1_drawSummers (a1 : Int32) (a2 : Int32) (a3 : Int32) (D : Dt) : Option Dt := (bnd (D.1 (9, 0, 0, 0) 8) (fun v1 => (bnd (setI D (1, 0, 0, 0) 11 (0 : Int32)) (fun D2 => (bnd (setI D2 (1, 0, 0, 0) 10 (0 : Int32)) (fun D3 => (F_X1_drawSummers_b22 a1 a2 a3 2000 a1 a2 a3 v1 (0 : Int32) D3)))))))
set_option maxRecDepth 100000 in
set_option maxHeartbeats 4000000 in
theorem M_X1_drawSummers {l : Launch} {G : Gt} {A : Nat → Prop} {lv : Nat} {a1 : Int32} {a2 : Int32} {a3 : Int32} {D : Dt} {D' : Dt} (hG : Gok G A) (hlv : 6 ≤ lv)  (h : F_X1_drawSummers a1 a2 a3 D = some D') : MD l G A lv yX1_drawSummers cX1_drawSummers 7 none [.ref (ad G (1, 0, 0, 0)), .int a1, .int a2, .int a3] D none D' := by
  unfold F_X1_drawSummers at h
  refine md_start RX1 hG (by decide +kernel) rfl (Nat.le_of_ble_eq_true rfl) (L := [(0, .ref (ad G (1, 0, 0, 0))), (1, .int a1), (2, .int a2), (3, .int a3)]) rfl (fun X C => ?_)
  refine j_aload_n C 0 dX1_drawSummers_0 rfl rfl ?_
  refine j_getS C (9, 0, 0, 0) fl_X1_48 dX1_drawSummers_1 (by decide) ⟨rfl, rfl⟩ rfl rfl ?_
  refine j_getI C fl_X1_203 dX1_drawSummers_4 (by decide) ⟨rfl, rfl⟩ rfl ?_
  obtain ⟨v1, ev1, h⟩ := bnd_x h
  refine j_istore C [(4, .int v1), (0, .ref (ad G (1, 0, 0, 0))), (1, .int a1), (2, .int a2), (3, .int a3)] dX1_drawSummers_7 (Nat.le_of_ble_eq_true rfl) ev1 rfl ?_
  refine j_aload_n C 1 dX1_drawSummers_9 rfl rfl ?_
  refine j_iconst C (0 : Int32) (by decide) dX1_drawSummers_10 ?_
  obtain ⟨D2, eD2, h⟩ := bnd_x h
  refine j_putI C fl_X1_97 dX1_drawSummers_11 (by decide) ⟨rfl, rfl⟩ rfl rfl rfl ?_
  refine j_rep eD2 ?_
  refine j_aload_n C 1 dX1_drawSummers_14 rfl rfl ?_
  refine j_iconst C (0 : Int32) (by decide) dX1_drawSummers_15 ?_
  obtain ⟨D3, eD3, h⟩ := bnd_x h
  refine j_putI C fl_X1_138 dX1_drawSummers_16 (by decide) ⟨rfl, rfl⟩ rfl rfl rfl ?_
  refine j_rep eD3 ?_
  refine j_iconst C (0 : Int32) (by decide) dX1_drawSummers_19 ?_
  refine j_istore C [(5, .int (0 : Int32)), (4, .int v1), (0, .ref (ad G (1, 0, 0, 0))), (1, .int a1), (2, .int a2), (3, .int a3)] dX1_drawSummers_20 (Nat.le_of_ble_eq_true rfl) rfl rfl ?_
  refine j_sub [2, 3, 4, 5, 1, 0] [(0, .ref (ad G (1, 0, 0, 0))), (1, .int a1), (2, .int a2), (3, .int a3), (4, .int v1), (5, .int (0 : Int32))] rfl ?_
  refine T_X1_drawSummers_b22 hG hlv  C  2000 a1 a2 a3 v1 (0 : Int32) D3 h
def F_X2_putNumber_b43 (a1 : Int32) (k3 : Int32 → Int32 → Dt → Option Dt) (l1 : Int32) (l2 : Int32) (D : Dt) : Option Dt := (bnd (l2 + (-8 : Int32)) (fun v3 => (k3 l1 v3 D)))
set_option maxRecDepth 100000 in
set_option maxHeartbeats 4000000 in
theorem T_X2_putNumber_b43 {D' : Dt} {X : Ctx} {l : Launch} {G : Gt} {A : Nat → Prop} {lv : Nat} {a1 : Int32}  {k3 : Int32 → Int32 → Dt → Option Dt} (hG : Gok G A) (hlv : 1 ≤ lv)   (C : Cx X cX2_putNumber RX2 G l A lv 3 none none D') (hk3 : ∀ (l1 : Int32) (l2 : Int32) (D : Dt), k3 l1 l2 D = some D' → J X (Rep G D) 3 [(0, .ref (ad G (2, 0, 0, 0))), (1, .int l1), (2, .int l2)] []) : ∀ (l1 : Int32) (l2 : Int32) (D : Dt), F_X2_putNumber_b43 a1 k3 l1 l2 D = some D' → J X (Rep G D) 43 [(0, .ref (ad G (2, 0, 0, 0))), (1, .int l1), (2, .int l2)] [] := by
  intro l1 l2 D h
  unfold F_X2_putNumber_b43 at h
  obtain ⟨v3, ev3, h⟩ := bnd_x h
  refine j_iinc C 2 [(2, .int v3), (0, .ref (ad G (2, 0, 0, 0))), (1, .int l1)] dX2_putNumber_43 rfl (Nat.le_of_ble_eq_true rfl) (ev3.trans (congrArg (l2 + ·) (by decide))) rfl ?_
  refine j_goto C 3 dX2_putNumber_46 (by decide) ?_
  refine j_sub [1, 2, 0] [(0, .ref (ad G (2, 0, 0, 0))), (1, .int l1), (2, .int v3)] rfl ?_
  exact hk3 l1 v3 D h
def F_X2_putNumber_b3 (a1 : Int32)  : Nat → Int32 → Int32 → Dt → Option Dt
  | 0, _, _, _ => none
  | f + 1, l1, l2, D => (if l2 < 0 then (some D) else (if (400 : Int32) ≤ (D.1 (2, 0, 0, 0) 1) then (F_X2_putNumber_b43 a1 (fun l1_4 l2_5 D6 => (F_X2_putNumber_b3 a1 f l1_4 l2_5 D6)) l1 l2 D) else (grd (inB (D.1 (2, 0, 0, 0) 1) 400 = true) (bnd (setI D (2, 0, 1, 0) ((D.1 (2, 0, 0, 0) 1).toNatClampNeg) (((l1.toUInt32 >>> (l2.toUInt32 &&& Int32.toUInt32 31)).toInt32) &&& (255 : Int32))) (fun D8 => (bnd (setI D8 (2, 0, 0, 0) 1 ((D8.1 (2, 0, 0, 0) 1) + (1 : Int32))) (fun D9 => (F_X2_putNumber_b43 a1 (fun l1_10 l2_11 D12 => (F_X2_putNumber_b3 a1 f l1_10 l2_11 D12)) l1 l2 D9))))))))
set_option maxRecDepth 100000 in
set_option maxHeartbeats 4000000 in
theorem T_X2_putNumber_b3 {D' : Dt} {X : Ctx} {l : Launch} {G : Gt} {A : Nat → Prop} {lv : Nat} {a1 : Int32}   (hG : Gok G A) (hlv : 1 ≤ lv)   (C : Cx X cX2_putNumber RX2 G l A lv 3 none none D')  : ∀ (f : Nat) (l1 : Int32) (l2 : Int32) (D : Dt), F_X2_putNumber_b3 a1 f l1 l2 D = some D' → J X (Rep G D) 3 [(0, .ref (ad G (2, 0, 0, 0))), (1, .int l1), (2, .int l2)] [] := by
  intro f
  induction f with
  | zero =>
    intro l1 l2 D h
    exact nomatch h
  | succ f ih =>
    intro l1 l2 D h
    rw [F_X2_putNumber_b3] at h
    refine j_iload_n C 2 dX2_putNumber_3 rfl rfl ?_
    refine j_if_lt C 49 dX2_putNumber_4 (by decide) (fun c1 => ?_) (fun c1 => ?_)
    · have h := ite_t c1 h
      obtain rfl := Option.some.inj h
      exact j_vret C dX2_putNumber_49
    · have h := ite_f c1 h
      refine j_aload_n C 0 dX2_putNumber_7 rfl rfl ?_
      refine j_getI C fl_X2_24 dX2_putNumber_8 (by decide) ⟨rfl, rfl⟩ rfl ?_
      refine j_sipush C (400 : Int32) (by decide) dX2_putNumber_11 ?_
      refine j_icmp_ge C 43 dX2_putNumber_14 (by decide) (fun c2 => ?_) (fun c2 => ?_)
      · have h := ite_t c2 h
        refine T_X2_putNumber_b43 hG hlv  C (fun l1_4 l2_5 D6 h => ?_) l1 l2 D h
        · exact ih l1_4 l2_5 D6 h
      · have h := ite_f c2 h
        refine j_aload_n C 0 dX2_putNumber_17 rfl rfl ?_
        refine j_getS C (2, 0, 1, 0) fl_X2_9 dX2_putNumber_18 (by decide) ⟨rfl, rfl⟩ rfl rfl ?_
        refine j_aload_n C 0 dX2_putNumber_21 rfl rfl ?_
        refine j_getI C fl_X2_24 dX2_putNumber_22 (by decide) ⟨rfl, rfl⟩ rfl ?_
        refine j_iload_n C 1 dX2_putNumber_25 rfl rfl ?_
        refine j_iload_n C 2 dX2_putNumber_26 rfl rfl ?_
        refine j_iushr C dX2_putNumber_27 ?_
        refine j_sipush C (255 : Int32) (by decide) dX2_putNumber_28 ?_
        refine j_iand C dX2_putNumber_31 ?_
        obtain ⟨g7, h⟩ := grd_x h
        obtain ⟨D8, eD8, h⟩ := bnd_x h
        refine j_iastK C 400 ((D.1 (2, 0, 0, 0) 1).toNatClampNeg) dX2_putNumber_32 (V_f 0 (by decide) (by decide)) rfl g7 rfl ?_
        refine j_rep eD8 ?_
        refine j_aload_n C 0 dX2_putNumber_33 rfl rfl ?_
        refine j_dup C rfl dX2_putNumber_34 ?_
        refine j_getI C fl_X2_24 dX2_putNumber_35 (by decide) ⟨rfl, rfl⟩ rfl ?_
        refine j_iconst C (1 : Int32) (by decide) dX2_putNumber_38 ?_
        refine j_iadd C dX2_putNumber_39 ?_
        obtain ⟨D9, eD9, h⟩ := bnd_x h
        refine j_putI C fl_X2_24 dX2_putNumber_40 (by decide) ⟨rfl, rfl⟩ rfl rfl rfl ?_
        refine j_rep eD9 ?_
        refine T_X2_putNumber_b43 hG hlv  C (fun l1_10 l2_11 D12 h => ?_) l1 l2 D9 h
        · exact ih l1_10 l2_11 D12 h
def F_X2_putNumber (a1 : Int32) (D : Dt) : Option Dt := (F_X2_putNumber_b3 a1 2000 a1 (24 : Int32) D)
set_option maxRecDepth 100000 in
set_option maxHeartbeats 4000000 in
theorem M_X2_putNumber {l : Launch} {G : Gt} {A : Nat → Prop} {lv : Nat} {a1 : Int32} {D : Dt} {D' : Dt} (hG : Gok G A) (hlv : 1 ≤ lv)  (h : F_X2_putNumber a1 D = some D') : MD l G A lv yX2_putNumber cX2_putNumber 3 none [.ref (ad G (2, 0, 0, 0)), .int a1] D none D' := by
  unfold F_X2_putNumber at h
  refine md_start RX2 hG (by decide +kernel) rfl (Nat.le_of_ble_eq_true rfl) (L := [(0, .ref (ad G (2, 0, 0, 0))), (1, .int a1)]) rfl (fun X C => ?_)
  refine j_bipush C (24 : Int32) (by decide) dX2_putNumber_0 ?_
  refine j_istore_n C [(2, .int (24 : Int32)), (0, .ref (ad G (2, 0, 0, 0))), (1, .int a1)] dX2_putNumber_2 rfl (Nat.le_of_ble_eq_true rfl) rfl rfl ?_
  refine j_sub [1, 2, 0] [(0, .ref (ad G (2, 0, 0, 0))), (1, .int a1), (2, .int (24 : Int32))] rfl ?_
  refine T_X2_putNumber_b3 hG hlv  C  2000 a1 (24 : Int32) D h
def F_X2_add (a1 : Int32) (a2 : Int32) (a3 : Int32) (D : Dt) : Option Dt := (if (400 : Int32) < (D.1 (2, 0, 0, 0) 5) then (some D) else (grd (inB (D.1 (2, 0, 0, 0) 5) 401 = true) (bnd (setI D (2, 0, 3, 0) ((D.1 (2, 0, 0, 0) 5).toNatClampNeg) a1) (fun D3 => (grd (inB (D3.1 (2, 0, 0, 0) 5) 401 = true) (bnd (setI D3 (2, 0, 4, 0) ((D3.1 (2, 0, 0, 0) 5).toNatClampNeg) a2) (fun D5 => (grd (inB (D5.1 (2, 0, 0, 0) 5) 401 = true) (bnd (setI D5 (2, 0, 5, 0) ((D5.1 (2, 0, 0, 0) 5).toNatClampNeg) a3) (fun D7 => (bnd (setI D7 (2, 0, 0, 0) 5 ((D7.1 (2, 0, 0, 0) 5) + (1 : Int32))) (fun D8 => (some D8)))))))))))))
set_option maxRecDepth 100000 in
set_option maxHeartbeats 4000000 in
theorem M_X2_add {l : Launch} {G : Gt} {A : Nat → Prop} {lv : Nat} {a1 : Int32} {a2 : Int32} {a3 : Int32} {D : Dt} {D' : Dt} (hG : Gok G A) (hlv : 1 ≤ lv)  (h : F_X2_add a1 a2 a3 D = some D') : MD l G A lv yX2_add cX2_add 4 none [.ref (ad G (2, 0, 0, 0)), .int a1, .int a2, .int a3] D none D' := by
  unfold F_X2_add at h
  refine md_start RX2 hG (by decide +kernel) rfl (Nat.le_of_ble_eq_true rfl) (L := [(0, .ref (ad G (2, 0, 0, 0))), (1, .int a1), (2, .int a2), (3, .int a3)]) rfl (fun X C => ?_)
  refine j_aload_n C 0 dX2_add_0 rfl rfl ?_
  refine j_getI C fl_X2_28 dX2_add_1 (by decide) ⟨rfl, rfl⟩ rfl ?_
  refine j_sipush C (400 : Int32) (by decide) dX2_add_4 ?_
  refine j_icmp_gt C 50 dX2_add_7 (by decide) (fun c1 => ?_) (fun c1 => ?_)
  · have h := ite_t c1 h
    obtain rfl := Option.some.inj h
    exact j_vret C dX2_add_50
  · have h := ite_f c1 h
    refine j_aload_n C 0 dX2_add_10 rfl rfl ?_
    refine j_getS C (2, 0, 3, 0) fl_X2_15 dX2_add_11 (by decide) ⟨rfl, rfl⟩ rfl rfl ?_
    refine j_aload_n C 0 dX2_add_14 rfl rfl ?_
    refine j_getI C fl_X2_28 dX2_add_15 (by decide) ⟨rfl, rfl⟩ rfl ?_
    refine j_iload_n C 1 dX2_add_18 rfl rfl ?_
    obtain ⟨g2, h⟩ := grd_x h
    obtain ⟨D3, eD3, h⟩ := bnd_x h
    refine j_iastK C 401 ((D.1 (2, 0, 0, 0) 5).toNatClampNeg) dX2_add_19 (V_f 2 (by decide) (by decide)) rfl g2 rfl ?_
    refine j_rep eD3 ?_
    refine j_aload_n C 0 dX2_add_20 rfl rfl ?_
    refine j_getS C (2, 0, 4, 0) fl_X2_18 dX2_add_21 (by decide) ⟨rfl, rfl⟩ rfl rfl ?_
    refine j_aload_n C 0 dX2_add_24 rfl rfl ?_
    refine j_getI C fl_X2_28 dX2_add_25 (by decide) ⟨rfl, rfl⟩ rfl ?_
    refine j_iload_n C 2 dX2_add_28 rfl rfl ?_
    obtain ⟨g4, h⟩ := grd_x h
    obtain ⟨D5, eD5, h⟩ := bnd_x h
    refine j_iastK C 401 ((D3.1 (2, 0, 0, 0) 5).toNatClampNeg) dX2_add_29 (V_f 3 (by decide) (by decide)) rfl g4 rfl ?_
    refine j_rep eD5 ?_
    refine j_aload_n C 0 dX2_add_30 rfl rfl ?_
    refine j_getS C (2, 0, 5, 0) fl_X2_21 dX2_add_31 (by decide) ⟨rfl, rfl⟩ rfl rfl ?_
    refine j_aload_n C 0 dX2_add_34 rfl rfl ?_
    refine j_getI C fl_X2_28 dX2_add_35 (by decide) ⟨rfl, rfl⟩ rfl ?_
    refine j_iload_n C 3 dX2_add_38 rfl rfl ?_
    obtain ⟨g6, h⟩ := grd_x h
    obtain ⟨D7, eD7, h⟩ := bnd_x h
    refine j_iastK C 401 ((D5.1 (2, 0, 0, 0) 5).toNatClampNeg) dX2_add_39 (V_f 4 (by decide) (by decide)) rfl g6 rfl ?_
    refine j_rep eD7 ?_
    refine j_aload_n C 0 dX2_add_40 rfl rfl ?_
    refine j_dup C rfl dX2_add_41 ?_
    refine j_getI C fl_X2_28 dX2_add_42 (by decide) ⟨rfl, rfl⟩ rfl ?_
    refine j_iconst C (1 : Int32) (by decide) dX2_add_45 ?_
    refine j_iadd C dX2_add_46 ?_
    obtain ⟨D8, eD8, h⟩ := bnd_x h
    refine j_putI C fl_X2_28 dX2_add_47 (by decide) ⟨rfl, rfl⟩ rfl rfl rfl ?_
    refine j_rep eD8 ?_
    obtain rfl := Option.some.inj h
    exact j_vret C dX2_add_50
def F_X2_addNumber_b20 (a1 : Int32) (a2 : Int32) (k48 : Int32 → Int32 → Dt → Option Dt) : Nat → Int32 → Int32 → Int32 → Int32 → Dt → Option Dt
  | 0, _, _, _, _, _ => none
  | f + 1, l1, l2, l3, l4, D => (if l2 ≤ l4 then (k48 l1 l3 D) else (grd (inB l4 400 = true) (bnd (((l3 * (10 : Int32)) + (D.1 (2, 0, 1, 0) (l4.toNatClampNeg))) - (48 : Int32)) (fun v4 => (bnd (l4 + (1 : Int32)) (fun v5 => (F_X2_addNumber_b20 a1 a2 k48 f l1 l2 v4 v5 D)))))))
set_option maxRecDepth 100000 in
set_option maxHeartbeats 4000000 in
theorem T_X2_addNumber_b20 {D' : Dt} {X : Ctx} {l : Launch} {G : Gt} {A : Nat → Prop} {lv : Nat} {a1 : Int32} {a2 : Int32}  {k48 : Int32 → Int32 → Dt → Option Dt} (hG : Gok G A) (hlv : 2 ≤ lv)   (C : Cx X cX2_addNumber RX2 G l A lv 5 none none D') (hk48 : ∀ (l1 : Int32) (l3 : Int32) (D : Dt), k48 l1 l3 D = some D' → J X (Rep G D) 48 [(0, .ref (ad G (2, 0, 0, 0))), (1, .int l1), (3, .int l3)] []) : ∀ (f : Nat) (l1 : Int32) (l2 : Int32) (l3 : Int32) (l4 : Int32) (D : Dt), F_X2_addNumber_b20 a1 a2 k48 f l1 l2 l3 l4 D = some D' → J X (Rep G D) 20 [(0, .ref (ad G (2, 0, 0, 0))), (1, .int l1), (2, .int l2), (3, .int l3), (4, .int l4)] [] := by
  intro f
  induction f with
  | zero =>
    intro l1 l2 l3 l4 D h
    exact nomatch h
  | succ f ih =>
    intro l1 l2 l3 l4 D h
    rw [F_X2_addNumber_b20] at h
    refine j_iload C 4 dX2_addNumber_20 rfl ?_
    refine j_iload_n C 2 dX2_addNumber_22 rfl rfl ?_
    refine j_icmp_ge C 48 dX2_addNumber_23 (by decide) (fun c2 => ?_) (fun c2 => ?_)
    · have h := ite_t c2 h
      refine j_sub [0, 1, 3] [(0, .ref (ad G (2, 0, 0, 0))), (1, .int l1), (3, .int l3)] rfl ?_
      exact hk48 l1 l3 D h
    · have h := ite_f c2 h
      refine j_iload_n C 3 dX2_addNumber_26 rfl rfl ?_
      refine j_bipush C (10 : Int32) (by decide) dX2_addNumber_27 ?_
      refine j_imul C dX2_addNumber_29 ?_
      refine j_aload_n C 0 dX2_addNumber_30 rfl rfl ?_
      refine j_getS C (2, 0, 1, 0) fl_X2_9 dX2_addNumber_31 (by decide) ⟨rfl, rfl⟩ rfl rfl ?_
      refine j_iload C 4 dX2_addNumber_34 rfl ?_
      obtain ⟨g3, h⟩ := grd_x h
      refine j_ialdK C 400 (l4.toNatClampNeg) dX2_addNumber_36 (V_f 0 (by decide) (by decide)) rfl g3 rfl ?_
      refine j_iadd C dX2_addNumber_37 ?_
      refine j_bipush C (48 : Int32) (by decide) dX2_addNumber_38 ?_
      refine j_isub C dX2_addNumber_40 ?_
      obtain ⟨v4, ev4, h⟩ := bnd_x h
      refine j_istore_n C [(3, .int v4), (0, .ref (ad G (2, 0, 0, 0))), (1, .int l1), (2, .int l2), (4, .int l4)] dX2_addNumber_41 rfl (Nat.le_of_ble_eq_true rfl) ev4 rfl ?_
      obtain ⟨v5, ev5, h⟩ := bnd_x h
      refine j_iinc C 4 [(4, .int v5), (3, .int v4), (0, .ref (ad G (2, 0, 0, 0))), (1, .int l1), (2, .int l2)] dX2_addNumber_42 rfl (Nat.le_of_ble_eq_true rfl) (ev5.trans (congrArg (l4 + ·) (by decide))) rfl ?_
      refine j_goto C 20 dX2_addNumber_45 (by decide) ?_
      refine j_sub [2, 3, 4, 1, 0] [(0, .ref (ad G (2, 0, 0, 0))), (1, .int l1), (2, .int l2), (3, .int v4), (4, .int v5)] rfl ?_
      exact ih l1 l2 v4 v5 D h
def F_X2_addNumber (a1 : Int32) (a2 : Int32) (D : Dt) : Option Dt := (if (a2 - a1) ≤ (5 : Int32) then (F_X2_addNumber_b20 a1 a2 (fun l1_6 l3_7 D8 => (vbd (F_X2_add (1 : Int32) l1_6 l3_7 D8) (fun D10 => (some D10)))) 2000 a1 a2 (0 : Int32) a1 D) else (vbd (F_X2_add (2 : Int32) a1 (0 : Int32) D) (fun D12 => (some D12))))
set_option maxRecDepth 100000 in
set_option maxHeartbeats 4000000 in
theorem M_X2_addNumber {l : Launch} {G : Gt} {A : Nat → Prop} {lv : Nat} {a1 : Int32} {a2 : Int32} {D : Dt} {D' : Dt} (hG : Gok G A) (hlv : 2 ≤ lv)  (h : F_X2_addNumber a1 a2 D = some D') : MD l G A lv yX2_addNumber cX2_addNumber 5 none [.ref (ad G (2, 0, 0, 0)), .int a1, .int a2] D none D' := by
  unfold F_X2_addNumber at h
  refine md_start RX2 hG (by decide +kernel) rfl (Nat.le_of_ble_eq_true rfl) (L := [(0, .ref (ad G (2, 0, 0, 0))), (1, .int a1), (2, .int a2)]) rfl (fun X C => ?_)
  refine j_iload_n C 2 dX2_addNumber_0 rfl rfl ?_
  refine j_iload_n C 1 dX2_addNumber_1 rfl rfl ?_
  refine j_isub C dX2_addNumber_2 ?_
  refine j_iconst C (5 : Int32) (by decide) dX2_addNumber_3 ?_
  refine j_icmp_le C 15 dX2_addNumber_4 (by decide) (fun c1 => ?_) (fun c1 => ?_)
  · have h := ite_t c1 h
    refine j_iconst C (0 : Int32) (by decide) dX2_addNumber_15 ?_
    refine j_istore_n C [(3, .int (0 : Int32)), (0, .ref (ad G (2, 0, 0, 0))), (1, .int a1), (2, .int a2)] dX2_addNumber_16 rfl (Nat.le_of_ble_eq_true rfl) rfl rfl ?_
    refine j_iload_n C 2 dX2_addNumber_17 rfl rfl ?_
    refine j_istore C [(4, .int a1), (3, .int (0 : Int32)), (0, .ref (ad G (2, 0, 0, 0))), (1, .int a1), (2, .int a2)] dX2_addNumber_18 (Nat.le_of_ble_eq_true rfl) rfl rfl ?_
    refine j_sub [2, 3, 4, 1, 0] [(0, .ref (ad G (2, 0, 0, 0))), (1, .int a1), (2, .int a2), (3, .int (0 : Int32)), (4, .int a1)] rfl ?_
    refine T_X2_addNumber_b20 hG hlv  C (fun l1_6 l3_7 D8 h => ?_) 2000 a1 a2 (0 : Int32) a1 D h
    · refine j_aload_n C 0 dX2_addNumber_48 rfl rfl ?_
      refine j_iconst C (1 : Int32) (by decide) dX2_addNumber_49 ?_
      refine j_iload_n C 1 dX2_addNumber_50 rfl rfl ?_
      refine j_iload_n C 2 dX2_addNumber_51 rfl rfl ?_
      obtain ⟨D10, h9, h⟩ := vbd_x h
      refine j_callV C [.int (1 : Int32), .int l1_6, .int l3_7] [] cl_X2_59 (M_X2_add (lv := lv - 1) hG (by omega) h9) (by omega) dX2_addNumber_52 (by decide) ⟨rfl, rfl⟩ rfl rfl (Nat.le_of_ble_eq_true rfl) ?_
      refine j_st (st' := []) rfl ?_
      obtain rfl := Option.some.inj h
      exact j_vret C dX2_addNumber_55
  · have h := ite_f c1 h
    refine j_aload_n C 0 dX2_addNumber_7 rfl rfl ?_
    refine j_iconst C (2 : Int32) (by decide) dX2_addNumber_8 ?_
    refine j_iload_n C 1 dX2_addNumber_9 rfl rfl ?_
    refine j_iconst C (0 : Int32) (by decide) dX2_addNumber_10 ?_
    obtain ⟨D12, h11, h⟩ := vbd_x h
    refine j_callV C [.int (2 : Int32), .int a1, .int (0 : Int32)] [] cl_X2_59 (M_X2_add (lv := lv - 1) hG (by omega) h11) (by omega) dX2_addNumber_11 (by decide) ⟨rfl, rfl⟩ rfl rfl (Nat.le_of_ble_eq_true rfl) ?_
    refine j_st (st' := []) rfl ?_
    obtain rfl := Option.some.inj h
    exact j_vret C dX2_addNumber_14
def F_X2_addSign_b101 (a1 : Int32)  (l1 : Int32) (l3 : Int32) (D : Dt) : Option (Int32 × Dt) := (vbd (F_X2_add l3 l1 (0 : Int32) D) (fun D9 => (some ((l1 + (1 : Int32)), D9))))
set_option maxRecDepth 100000 in
set_option maxHeartbeats 4000000 in
theorem T_X2_addSign_b101 {r : Int32} {D' : Dt} {X : Ctx} {l : Launch} {G : Gt} {A : Nat → Prop} {lv : Nat} {a1 : Int32}   (hG : Gok G A) (hlv : 8 ≤ lv)   (C : Cx X cX2_addSign RX2 G l A lv 5 (some .int) (some (.int r)) D')  : ∀ (l1 : Int32) (l3 : Int32) (D : Dt), F_X2_addSign_b101 a1 l1 l3 D = some (r, D') → J X (Rep G D) 101 [(0, .ref (ad G (2, 0, 0, 0))), (1, .int l1), (3, .int l3)] [] := by
  intro l1 l3 D h
  unfold F_X2_addSign_b101 at h
  refine j_aload_n C 0 dX2_addSign_101 rfl rfl ?_
  refine j_iload_n C 2 dX2_addSign_102 rfl rfl ?_
  refine j_iload_n C 1 dX2_addSign_103 rfl rfl ?_
  refine j_iconst C (0 : Int32) (by decide) dX2_addSign_104 ?_
  obtain ⟨D9, h8, h⟩ := vbd_x h
  refine j_callV C [.int l3, .int l1, .int (0 : Int32)] [] cl_X2_59 (M_X2_add (lv := lv - 1) hG (by omega) h8) (by omega) dX2_addSign_105 (by decide) ⟨rfl, rfl⟩ rfl rfl (Nat.le_of_ble_eq_true rfl) ?_
  refine j_st (st' := []) rfl ?_
  refine j_iload_n C 1 dX2_addSign_108 rfl rfl ?_
  refine j_iconst C (1 : Int32) (by decide) dX2_addSign_109 ?_
  refine j_iadd C dX2_addSign_110 ?_
  obtain ⟨rfl, rfl⟩ := pr_x h
  exact j_iret C dX2_addSign_111
def F_X2_addSign_b78 (a1 : Int32)  (l1 : Int32) (l3 : Int32) (l4 : Int32) (D : Dt) : Option (Int32 × Dt) := (if l4 = 0 then (F_X2_addSign_b101 a1 l1 l3 D) else (if l3 = (14 : Int32) then (vbd (F_X2_add (16 : Int32) l1 (0 : Int32) D) (fun D12 => (some ((l1 + (2 : Int32)), D12)))) else (F_X2_addSign_b101 a1 l1 l3 D)))
set_option maxRecDepth 100000 in
set_option maxHeartbeats 4000000 in
theorem T_X2_addSign_b78 {r : Int32} {D' : Dt} {X : Ctx} {l : Launch} {G : Gt} {A : Nat → Prop} {lv : Nat} {a1 : Int32}   (hG : Gok G A) (hlv : 8 ≤ lv)   (C : Cx X cX2_addSign RX2 G l A lv 5 (some .int) (some (.int r)) D')  : ∀ (l1 : Int32) (l3 : Int32) (l4 : Int32) (D : Dt), F_X2_addSign_b78 a1 l1 l3 l4 D = some (r, D') → J X (Rep G D) 78 [(0, .ref (ad G (2, 0, 0, 0))), (1, .int l1), (3, .int l3), (4, .int l4)] [] := by
  intro l1 l3 l4 D h
  unfold F_X2_addSign_b78 at h
  refine j_iload C 3 dX2_addSign_78 rfl ?_
  refine j_if_eq C 101 dX2_addSign_80 (by decide) (fun c7 => ?_) (fun c7 => ?_)
  · have h := ite_t c7 h
    refine j_sub [0, 1, 2] [(0, .ref (ad G (2, 0, 0, 0))), (1, .int l1), (3, .int l3)] rfl ?_
    refine T_X2_addSign_b101 hG hlv  C  l1 l3 D h
  · have h := ite_f c7 h
    refine j_iload_n C 2 dX2_addSign_83 rfl rfl ?_
    refine j_bipush C (14 : Int32) (by decide) dX2_addSign_84 ?_
    refine j_icmp_ne C 101 dX2_addSign_86 (by decide) (fun c10 => ?_) (fun c10 => ?_)
    · have h := ite_f c10 h
      refine j_sub [0, 1, 2] [(0, .ref (ad G (2, 0, 0, 0))), (1, .int l1), (3, .int l3)] rfl ?_
      refine T_X2_addSign_b101 hG hlv  C  l1 l3 D h
    · have h := ite_t c10 h
      refine j_aload_n C 0 dX2_addSign_89 rfl rfl ?_
      refine j_bipush C (16 : Int32) (by decide) dX2_addSign_90 ?_
      refine j_iload_n C 1 dX2_addSign_92 rfl rfl ?_
      refine j_iconst C (0 : Int32) (by decide) dX2_addSign_93 ?_
      obtain ⟨D12, h11, h⟩ := vbd_x h
      refine j_callV C [.int (16 : Int32), .int l1, .int (0 : Int32)] [] cl_X2_59 (M_X2_add (lv := lv - 1) hG (by omega) h11) (by omega) dX2_addSign_94 (by decide) ⟨rfl, rfl⟩ rfl rfl (Nat.le_of_ble_eq_true rfl) ?_
      refine j_st (st' := []) rfl ?_
      refine j_iload_n C 1 dX2_addSign_97 rfl rfl ?_
      refine j_iconst C (2 : Int32) (by decide) dX2_addSign_98 ?_
      refine j_iadd C dX2_addSign_99 ?_
      obtain ⟨rfl, rfl⟩ := pr_x h
      exact j_iret C dX2_addSign_100
def F_X2_addSign_b53 (a1 : Int32)  (l1 : Int32) (l3 : Int32) (s0 : Int32) (D : Dt) : Option (Int32 × Dt) := (if s0 = 0 then (F_X2_addSign_b78 a1 l1 l3 s0 D) else (if l3 = (12 : Int32) then (vbd (F_X2_add (15 : Int32) l1 (0 : Int32) D) (fun D15 => (some ((l1 + (2 : Int32)), D15)))) else (F_X2_addSign_b78 a1 l1 l3 s0 D)))
set_option maxRecDepth 100000 in
set_option maxHeartbeats 4000000 in
theorem T_X2_addSign_b53 {r : Int32} {D' : Dt} {X : Ctx} {l : Launch} {G : Gt} {A : Nat → Prop} {lv : Nat} {a1 : Int32}   (hG : Gok G A) (hlv : 8 ≤ lv)   (C : Cx X cX2_addSign RX2 G l A lv 5 (some .int) (some (.int r)) D')  : ∀ (l1 : Int32) (l3 : Int32) (s0 : Int32) (D : Dt), F_X2_addSign_b53 a1 l1 l3 s0 D = some (r, D') → J X (Rep G D) 53 [(0, .ref (ad G (2, 0, 0, 0))), (1, .int l1), (3, .int l3)] [.int s0] := by
  intro l1 l3 s0 D h
  unfold F_X2_addSign_b53 at h
  refine j_istore C [(4, .int s0), (0, .ref (ad G (2, 0, 0, 0))), (1, .int l1), (3, .int l3)] dX2_addSign_53 (Nat.le_of_ble_eq_true rfl) rfl rfl ?_
  refine j_iload C 0 dX2_addSign_55 rfl ?_
  refine j_if_eq C 78 dX2_addSign_57 (by decide) (fun c6 => ?_) (fun c6 => ?_)
  · have h := ite_t c6 h
    refine j_sub [1, 2, 3, 0] [(0, .ref (ad G (2, 0, 0, 0))), (1, .int l1), (3, .int l3), (4, .int s0)] rfl ?_
    refine T_X2_addSign_b78 hG hlv  C  l1 l3 s0 D h
  · have h := ite_f c6 h
    refine j_iload_n C 3 dX2_addSign_60 rfl rfl ?_
    refine j_bipush C (12 : Int32) (by decide) dX2_addSign_61 ?_
    refine j_icmp_ne C 78 dX2_addSign_63 (by decide) (fun c13 => ?_) (fun c13 => ?_)
    · have h := ite_f c13 h
      refine j_sub [1, 2, 3, 0] [(0, .ref (ad G (2, 0, 0, 0))), (1, .int l1), (3, .int l3), (4, .int s0)] rfl ?_
      refine T_X2_addSign_b78 hG hlv  C  l1 l3 s0 D h
    · have h := ite_t c13 h
      refine j_aload_n C 1 dX2_addSign_66 rfl rfl ?_
      refine j_bipush C (15 : Int32) (by decide) dX2_addSign_67 ?_
      refine j_iload_n C 2 dX2_addSign_69 rfl rfl ?_
      refine j_iconst C (0 : Int32) (by decide) dX2_addSign_70 ?_
      obtain ⟨D15, h14, h⟩ := vbd_x h
      refine j_callV C [.int (15 : Int32), .int l1, .int (0 : Int32)] [] cl_X2_59 (M_X2_add (lv := lv - 1) hG (by omega) h14) (by omega) dX2_addSign_71 (by decide) ⟨rfl, rfl⟩ rfl rfl (Nat.le_of_ble_eq_true rfl) ?_
      refine j_st (st' := []) rfl ?_
      refine j_iload_n C 2 dX2_addSign_74 rfl rfl ?_
      refine j_iconst C (2 : Int32) (by decide) dX2_addSign_75 ?_
      refine j_iadd C dX2_addSign_76 ?_
      obtain ⟨rfl, rfl⟩ := pr_x h
      exact j_iret C dX2_addSign_77
def F_X2_addSign_b52 (a1 : Int32)  (l1 : Int32) (l3 : Int32) (D : Dt) : Option (Int32 × Dt) := (F_X2_addSign_b53 a1 l1 l3 (0 : Int32) D)
set_option maxRecDepth 100000 in
set_option maxHeartbeats 4000000 in
theorem T_X2_addSign_b52 {r : Int32} {D' : Dt} {X : Ctx} {l : Launch} {G : Gt} {A : Nat → Prop} {lv : Nat} {a1 : Int32}   (hG : Gok G A) (hlv : 8 ≤ lv)   (C : Cx X cX2_addSign RX2 G l A lv 5 (some .int) (some (.int r)) D')  : ∀ (l1 : Int32) (l3 : Int32) (D : Dt), F_X2_addSign_b52 a1 l1 l3 D = some (r, D') → J X (Rep G D) 52 [(0, .ref (ad G (2, 0, 0, 0))), (1, .int l1), (3, .int l3)] [] := by
  intro l1 l3 D h
  unfold F_X2_addSign_b52 at h
  refine j_iconst C (0 : Int32) (by decide) dX2_addSign_52 ?_
  refine T_X2_addSign_b53 hG hlv  C  l1 l3 (0 : Int32) D h
def F_X2_addSign_b24 (a1 : Int32)  (l1 : Int32) (s0 : Int32) (D : Dt) : Option (Int32 × Dt) := (if (D.1 (2, 0, 0, 0) 1) ≤ (l1 + (1 : Int32)) then (F_X2_addSign_b52 a1 l1 s0 D) else (grd (inB (l1 + (1 : Int32)) 400 = true) (if (D.1 (2, 0, 1, 0) ((l1 + (1 : Int32)).toNatClampNeg)) = (61 : Int32) then (F_X2_addSign_b53 a1 l1 s0 (1 : Int32) D) else (F_X2_addSign_b52 a1 l1 s0 D))))
set_option maxRecDepth 100000 in
set_option maxHeartbeats 4000000 in
theorem T_X2_addSign_b24 {r : Int32} {D' : Dt} {X : Ctx} {l : Launch} {G : Gt} {A : Nat → Prop} {lv : Nat} {a1 : Int32}   (hG : Gok G A) (hlv : 8 ≤ lv)   (C : Cx X cX2_addSign RX2 G l A lv 5 (some .int) (some (.int r)) D')  : ∀ (l1 : Int32) (s0 : Int32) (D : Dt), F_X2_addSign_b24 a1 l1 s0 D = some (r, D') → J X (Rep G D) 24 [(0, .ref (ad G (2, 0, 0, 0))), (1, .int l1)] [.int s0] := by
  intro l1 s0 D h
  unfold F_X2_addSign_b24 at h
  refine j_istore_n C [(3, .int s0), (0, .ref (ad G (2, 0, 0, 0))), (1, .int l1)] dX2_addSign_24 rfl (Nat.le_of_ble_eq_true rfl) rfl rfl ?_
  refine j_iload_n C 2 dX2_addSign_25 rfl rfl ?_
  refine j_iconst C (1 : Int32) (by decide) dX2_addSign_26 ?_
  refine j_iadd C dX2_addSign_27 ?_
  refine j_aload_n C 1 dX2_addSign_28 rfl rfl ?_
  refine j_getI C fl_X2_24 dX2_addSign_29 (by decide) ⟨rfl, rfl⟩ rfl ?_
  refine j_icmp_ge C 52 dX2_addSign_32 (by decide) (fun c5 => ?_) (fun c5 => ?_)
  · have h := ite_t c5 h
    refine j_sub [1, 2, 0] [(0, .ref (ad G (2, 0, 0, 0))), (1, .int l1), (3, .int s0)] rfl ?_
    refine T_X2_addSign_b52 hG hlv  C  l1 s0 D h
  · have h := ite_f c5 h
    refine j_aload_n C 1 dX2_addSign_35 rfl rfl ?_
    refine j_getS C (2, 0, 1, 0) fl_X2_9 dX2_addSign_36 (by decide) ⟨rfl, rfl⟩ rfl rfl ?_
    refine j_iload_n C 2 dX2_addSign_39 rfl rfl ?_
    refine j_iconst C (1 : Int32) (by decide) dX2_addSign_40 ?_
    refine j_iadd C dX2_addSign_41 ?_
    obtain ⟨g16, h⟩ := grd_x h
    refine j_ialdK C 400 ((l1 + (1 : Int32)).toNatClampNeg) dX2_addSign_42 (V_f 0 (by decide) (by decide)) rfl g16 rfl ?_
    refine j_bipush C (61 : Int32) (by decide) dX2_addSign_43 ?_
    refine j_icmp_ne C 52 dX2_addSign_45 (by decide) (fun c17 => ?_) (fun c17 => ?_)
    · have h := ite_f c17 h
      refine j_sub [1, 2, 0] [(0, .ref (ad G (2, 0, 0, 0))), (1, .int l1), (3, .int s0)] rfl ?_
      refine T_X2_addSign_b52 hG hlv  C  l1 s0 D h
    · have h := ite_t c17 h
      refine j_iconst C (1 : Int32) (by decide) dX2_addSign_48 ?_
      refine j_goto C 53 dX2_addSign_49 (by decide) ?_
      refine j_sub [1, 2, 0] [(0, .ref (ad G (2, 0, 0, 0))), (1, .int l1), (3, .int s0)] rfl ?_
      refine T_X2_addSign_b53 hG hlv  C  l1 s0 (1 : Int32) D h
def F_X2_addSign (a1 : Int32) (D : Dt) : Option (Int32 × Dt) := (grd (inB a1 400 = true) (grd (inB (((D.1 (2, 0, 1, 0) (a1.toNatClampNeg)).toUInt32 % 65536).toInt32) 256 = true) (bnd (sIdx 1 (((D.1 (2, 0, 1, 0) (a1.toNatClampNeg)).toUInt32 % 65536).toInt32)) (fun v3 => (if 0 ≤ v3 then (F_X2_addSign_b24 a1 a1 ((4 : Int32) + v3) D) else (F_X2_addSign_b24 a1 a1 (3 : Int32) D))))))
set_option maxRecDepth 100000 in
set_option maxHeartbeats 4000000 in
theorem M_X2_addSign {l : Launch} {G : Gt} {A : Nat → Prop} {lv : Nat} {a1 : Int32} {D : Dt} {r : Int32} {D' : Dt} (hG : Gok G A) (hlv : 8 ≤ lv)  (h : F_X2_addSign a1 D = some (r, D')) : MD l G A lv yX2_addSign cX2_addSign 5 (some .int) [.ref (ad G (2, 0, 0, 0)), .int a1] D (some (.int r)) D' := by
  unfold F_X2_addSign at h
  refine md_start RX2 hG (by decide +kernel) rfl (Nat.le_of_ble_eq_true rfl) (L := [(0, .ref (ad G (2, 0, 0, 0))), (1, .int a1)]) rfl (fun X C => ?_)
  refine j_ldcS C 1 rfl dX2_addSign_0 ?_
  refine j_aload_n C 0 dX2_addSign_2 rfl rfl ?_
  refine j_getS C (2, 0, 1, 0) fl_X2_9 dX2_addSign_3 (by decide) ⟨rfl, rfl⟩ rfl rfl ?_
  refine j_iload_n C 1 dX2_addSign_6 rfl rfl ?_
  obtain ⟨g1, h⟩ := grd_x h
  refine j_ialdK C 400 (a1.toNatClampNeg) dX2_addSign_7 (V_f 0 (by decide) (by decide)) rfl g1 rfl ?_
  refine j_i2c C dX2_addSign_8 ?_
  obtain ⟨g2, h⟩ := grd_x h
  refine j_sidx C (by decide) cw_X2_68 (by omega) (Nat.le_of_ble_eq_true rfl) g2 dX2_addSign_9 ?_
  obtain ⟨v3, ev3, h⟩ := bnd_x h
  refine j_istore_n C [(2, .int v3), (0, .ref (ad G (2, 0, 0, 0))), (1, .int a1)] dX2_addSign_12 rfl (Nat.le_of_ble_eq_true rfl) ev3 rfl ?_
  refine j_iload_n C 0 dX2_addSign_13 rfl rfl ?_
  refine j_if_ge C 21 dX2_addSign_14 (by decide) (fun c4 => ?_) (fun c4 => ?_)
  · have h := ite_t c4 h
    refine j_iconst C (4 : Int32) (by decide) dX2_addSign_21 ?_
    refine j_iload_n C 0 dX2_addSign_22 rfl rfl ?_
    refine j_iadd C dX2_addSign_23 ?_
    refine j_sub [1, 2] [(0, .ref (ad G (2, 0, 0, 0))), (1, .int a1)] rfl ?_
    refine T_X2_addSign_b24 hG hlv  C  a1 ((4 : Int32) + v3) D h
  · have h := ite_f c4 h
    refine j_iconst C (3 : Int32) (by decide) dX2_addSign_17 ?_
    refine j_goto C 24 dX2_addSign_18 (by decide) ?_
    refine j_sub [1, 2] [(0, .ref (ad G (2, 0, 0, 0))), (1, .int a1)] rfl ?_
    refine T_X2_addSign_b24 hG hlv  C  a1 (3 : Int32) D h
def F_X2_isDigit (a1 : Int32) (D : Dt) : Option (Int32 × Dt) := (if a1 < (48 : Int32) then (some ((0 : Int32), D)) else (if (57 : Int32) < a1 then (some ((0 : Int32), D)) else (some ((1 : Int32), D))))
set_option maxRecDepth 100000 in
set_option maxHeartbeats 4000000 in
theorem M_X2_isDigit {l : Launch} {G : Gt} {A : Nat → Prop} {lv : Nat} {a1 : Int32} {D : Dt} {r : Int32} {D' : Dt} (hG : Gok G A) (hlv : 1 ≤ lv)  (h : F_X2_isDigit a1 D = some (r, D')) : MD l G A lv yX2_isDigit cX2_isDigit 1 (some .boolean) [.int a1] D (some (.int r)) D' := by
  unfold F_X2_isDigit at h
  refine md_start RX2 hG (by decide +kernel) rfl (Nat.le_of_ble_eq_true rfl) (L := [(0, .int a1)]) rfl (fun X C => ?_)
  refine j_iload_n C 0 dX2_isDigit_0 rfl rfl ?_
  refine j_bipush C (48 : Int32) (by decide) dX2_isDigit_1 ?_
  refine j_icmp_lt C 16 dX2_isDigit_3 (by decide) (fun c1 => ?_) (fun c1 => ?_)
  · have h := ite_t c1 h
    refine j_iconst C (0 : Int32) (by decide) dX2_isDigit_16 ?_
    obtain ⟨rfl, rfl⟩ := pr_x h
    exact j_zret C (Or.inl rfl) dX2_isDigit_17
  · have h := ite_f c1 h
    refine j_iload_n C 0 dX2_isDigit_6 rfl rfl ?_
    refine j_bipush C (57 : Int32) (by decide) dX2_isDigit_7 ?_
    refine j_icmp_gt C 16 dX2_isDigit_9 (by decide) (fun c2 => ?_) (fun c2 => ?_)
    · have h := ite_t c2 h
      refine j_iconst C (0 : Int32) (by decide) dX2_isDigit_16 ?_
      obtain ⟨rfl, rfl⟩ := pr_x h
      exact j_zret C (Or.inl rfl) dX2_isDigit_17
    · have h := ite_f c2 h
      refine j_iconst C (1 : Int32) (by decide) dX2_isDigit_12 ?_
      refine j_goto C 17 dX2_isDigit_13 (by decide) ?_
      obtain ⟨rfl, rfl⟩ := pr_x h
      exact j_zret C (Or.inr rfl) dX2_isDigit_17
def F_X2_behindDigits_b2 (a1 : Int32)  : Nat → Int32 → Dt → Option (Int32 × Dt)
  | 0, _, _ => none
  | f + 1, l2, D => (if (D.1 (2, 0, 0, 0) 1) ≤ l2 then (some ((D.1 (2, 0, 0, 0) 1), D)) else (grd (inB l2 400 = true) (cbd (F_X2_isDigit (D.1 (2, 0, 1, 0) (l2.toNatClampNeg)) D) (fun r4 D5 => (if r4 = 0 then (some (l2, D5)) else (bnd (l2 + (1 : Int32)) (fun v7 => (F_X2_behindDigits_b2 a1 f v7 D5))))))))
set_option maxRecDepth 100000 in
set_option maxHeartbeats 4000000 in
theorem T_X2_behindDigits_b2 {r : Int32} {D' : Dt} {X : Ctx} {l : Launch} {G : Gt} {A : Nat → Prop} {lv : Nat} {a1 : Int32}   (hG : Gok G A) (hlv : 2 ≤ lv)   (C : Cx X cX2_behindDigits RX2 G l A lv 3 (some .int) (some (.int r)) D')  : ∀ (f : Nat) (l2 : Int32) (D : Dt), F_X2_behindDigits_b2 a1 f l2 D = some (r, D') → J X (Rep G D) 2 [(0, .ref (ad G (2, 0, 0, 0))), (2, .int l2)] [] := by
  intro f
  induction f with
  | zero =>
    intro l2 D h
    exact nomatch h
  | succ f ih =>
    intro l2 D h
    rw [F_X2_behindDigits_b2] at h
    refine j_iload_n C 1 dX2_behindDigits_2 rfl rfl ?_
    refine j_aload_n C 0 dX2_behindDigits_3 rfl rfl ?_
    refine j_getI C fl_X2_24 dX2_behindDigits_4 (by decide) ⟨rfl, rfl⟩ rfl ?_
    refine j_icmp_ge C 30 dX2_behindDigits_7 (by decide) (fun c1 => ?_) (fun c1 => ?_)
    · have h := ite_t c1 h
      refine j_aload_n C 0 dX2_behindDigits_30 rfl rfl ?_
      refine j_getI C fl_X2_24 dX2_behindDigits_31 (by decide) ⟨rfl, rfl⟩ rfl ?_
      obtain ⟨rfl, rfl⟩ := pr_x h
      exact j_iret C dX2_behindDigits_34
    · have h := ite_f c1 h
      refine j_aload_n C 0 dX2_behindDigits_10 rfl rfl ?_
      refine j_getS C (2, 0, 1, 0) fl_X2_9 dX2_behindDigits_11 (by decide) ⟨rfl, rfl⟩ rfl rfl ?_
      refine j_iload_n C 1 dX2_behindDigits_14 rfl rfl ?_
      obtain ⟨g2, h⟩ := grd_x h
      refine j_ialdK C 400 (l2.toNatClampNeg) dX2_behindDigits_15 (V_f 0 (by decide) (by decide)) rfl g2 rfl ?_
      obtain ⟨r4, D5, h3, h⟩ := cbd_x h
      refine j_callS C [.int (D.1 (2, 0, 1, 0) (l2.toNatClampNeg))] [] cl_X2_37 (M_X2_isDigit (lv := lv - 1) hG (by omega) h3) (by omega) dX2_behindDigits_16 rfl rfl (Nat.le_of_ble_eq_true rfl) ?_
      refine j_st (st' := [.int r4]) rfl ?_
      refine j_if_ne C 24 dX2_behindDigits_19 (by decide) (fun c6 => ?_) (fun c6 => ?_)
      · have h := ite_f c6 h
        obtain ⟨v7, ev7, h⟩ := bnd_x h
        refine j_iinc C 1 [(2, .int v7), (0, .ref (ad G (2, 0, 0, 0)))] dX2_behindDigits_24 rfl (Nat.le_of_ble_eq_true rfl) (ev7.trans (congrArg (l2 + ·) (by decide))) rfl ?_
        refine j_goto C 2 dX2_behindDigits_27 (by decide) ?_
        refine j_sub [1, 0] [(0, .ref (ad G (2, 0, 0, 0))), (2, .int v7)] rfl ?_
        exact ih v7 D5 h
      · have h := ite_t c6 h
        refine j_iload_n C 1 dX2_behindDigits_22 rfl rfl ?_
        obtain ⟨rfl, rfl⟩ := pr_x h
        exact j_iret C dX2_behindDigits_23
def F_X2_behindDigits (a1 : Int32) (D : Dt) : Option (Int32 × Dt) := (F_X2_behindDigits_b2 a1 2000 a1 D)
set_option maxRecDepth 100000 in
set_option maxHeartbeats 4000000 in
theorem M_X2_behindDigits {l : Launch} {G : Gt} {A : Nat → Prop} {lv : Nat} {a1 : Int32} {D : Dt} {r : Int32} {D' : Dt} (hG : Gok G A) (hlv : 2 ≤ lv)  (h : F_X2_behindDigits a1 D = some (r, D')) : MD l G A lv yX2_behindDigits cX2_behindDigits 3 (some .int) [.ref (ad G (2, 0, 0, 0)), .int a1] D (some (.int r)) D' := by
  unfold F_X2_behindDigits at h
  refine md_start RX2 hG (by decide +kernel) rfl (Nat.le_of_ble_eq_true rfl) (L := [(0, .ref (ad G (2, 0, 0, 0))), (1, .int a1)]) rfl (fun X C => ?_)
  refine j_iload_n C 1 dX2_behindDigits_0 rfl rfl ?_
  refine j_istore_n C [(2, .int a1), (0, .ref (ad G (2, 0, 0, 0))), (1, .int a1)] dX2_behindDigits_1 rfl (Nat.le_of_ble_eq_true rfl) rfl rfl ?_
  refine j_sub [1, 0] [(0, .ref (ad G (2, 0, 0, 0))), (2, .int a1)] rfl ?_
  refine T_X2_behindDigits_b2 hG hlv  C  2000 a1 D h
def F_X2_isLetter (a1 : Int32) (D : Dt) : Option (Int32 × Dt) := (if a1 < (97 : Int32) then (some ((0 : Int32), D)) else (if (122 : Int32) < a1 then (some ((0 : Int32), D)) else (some ((1 : Int32), D))))
set_option maxRecDepth 100000 in
set_option maxHeartbeats 4000000 in
theorem M_X2_isLetter {l : Launch} {G : Gt} {A : Nat → Prop} {lv : Nat} {a1 : Int32} {D : Dt} {r : Int32} {D' : Dt} (hG : Gok G A) (hlv : 1 ≤ lv)  (h : F_X2_isLetter a1 D = some (r, D')) : MD l G A lv yX2_isLetter cX2_isLetter 1 (some .boolean) [.int a1] D (some (.int r)) D' := by
  unfold F_X2_isLetter at h
  refine md_start RX2 hG (by decide +kernel) rfl (Nat.le_of_ble_eq_true rfl) (L := [(0, .int a1)]) rfl (fun X C => ?_)
  refine j_iload_n C 0 dX2_isLetter_0 rfl rfl ?_
  refine j_bipush C (97 : Int32) (by decide) dX2_isLetter_1 ?_
  refine j_icmp_lt C 16 dX2_isLetter_3 (by decide) (fun c1 => ?_) (fun c1 => ?_)
  · have h := ite_t c1 h
    refine j_iconst C (0 : Int32) (by decide) dX2_isLetter_16 ?_
    obtain ⟨rfl, rfl⟩ := pr_x h
    exact j_zret C (Or.inl rfl) dX2_isLetter_17
  · have h := ite_f c1 h
    refine j_iload_n C 0 dX2_isLetter_6 rfl rfl ?_
    refine j_bipush C (122 : Int32) (by decide) dX2_isLetter_7 ?_
    refine j_icmp_gt C 16 dX2_isLetter_9 (by decide) (fun c2 => ?_) (fun c2 => ?_)
    · have h := ite_t c2 h
      refine j_iconst C (0 : Int32) (by decide) dX2_isLetter_16 ?_
      obtain ⟨rfl, rfl⟩ := pr_x h
      exact j_zret C (Or.inl rfl) dX2_isLetter_17
    · have h := ite_f c2 h
      refine j_iconst C (1 : Int32) (by decide) dX2_isLetter_12 ?_
      refine j_goto C 17 dX2_isLetter_13 (by decide) ?_
      obtain ⟨rfl, rfl⟩ := pr_x h
      exact j_zret C (Or.inr rfl) dX2_isLetter_17
