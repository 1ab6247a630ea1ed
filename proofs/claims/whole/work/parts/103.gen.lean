def F_X2_behindLetters_b2 (a1 : Int32)  : Nat → Int32 → Dt → Option (Int32 × Dt)
  | 0, _, _ => none
  | f + 1, l2, D => (if (D.1 (2, 0, 0, 0) 1) ≤ l2 then (some ((D.1 (2, 0, 0, 0) 1), D)) else (grd (inB l2 400 = true) (cbd (F_X2_isLetter (D.1 (2, 0, 1, 0) (l2.toNatClampNeg)) D) (fun r4 D5 => (if r4 = 0 then (some (l2, D5)) else (bnd (l2 + (1 : Int32)) (fun v7 => (F_X2_behindLetters_b2 a1 f v7 D5))))))))
set_option maxRecDepth 100000 in
set_option maxHeartbeats 4000000 in
theorem T_X2_behindLetters_b2 {r : Int32} {D' : Dt} {X : Ctx} {l : Launch} {G : Gt} {A : Nat → Prop} {lv : Nat} {a1 : Int32}   (hG : Gok G A) (hlv : 2 ≤ lv)   (C : Cx X cX2_behindLetters RX2 G l A lv 3 (some .int) (some (.int r)) D')  : ∀ (f : Nat) (l2 : Int32) (D : Dt), F_X2_behindLetters_b2 a1 f l2 D = some (r, D') → J X (Rep G D) 2 [(0, .ref (ad G (2, 0, 0, 0))), (2, .int l2)] [] := by
  intro f
  induction f with
  | zero =>
    intro l2 D h
    exact nomatch h
  | succ f ih =>
    intro l2 D h
    rw [F_X2_behindLetters_b2] at h
    refine j_iload_n C 1 dX2_behindLetters_2 rfl rfl ?_
    refine j_aload_n C 0 dX2_behindLetters_3 rfl rfl ?_
    refine j_getI C fl_X2_24 dX2_behindLetters_4 (by decide) ⟨rfl, rfl⟩ rfl ?_
    refine j_icmp_ge C 30 dX2_behindLetters_7 (by decide) (fun c1 => ?_) (fun c1 => ?_)
    · have h := ite_t c1 h
      refine j_aload_n C 0 dX2_behindLetters_30 rfl rfl ?_
      refine j_getI C fl_X2_24 dX2_behindLetters_31 (by decide) ⟨rfl, rfl⟩ rfl ?_
      obtain ⟨rfl, rfl⟩ := pr_x h
      exact j_iret C dX2_behindLetters_34
    · have h := ite_f c1 h
      refine j_aload_n C 0 dX2_behindLetters_10 rfl rfl ?_
      refine j_getS C (2, 0, 1, 0) fl_X2_9 dX2_behindLetters_11 (by decide) ⟨rfl, rfl⟩ rfl rfl ?_
      refine j_iload_n C 1 dX2_behindLetters_14 rfl rfl ?_
      obtain ⟨g2, h⟩ := grd_x h
      refine j_ialdK C 400 (l2.toNatClampNeg) dX2_behindLetters_15 (V_f 0 (by decide) (by decide)) rfl g2 rfl ?_
      obtain ⟨r4, D5, h3, h⟩ := cbd_x h
      refine j_callS C [.int (D.1 (2, 0, 1, 0) (l2.toNatClampNeg))] [] cl_X2_49 (M_X2_isLetter (lv := lv - 1) hG (by omega) h3) (by omega) dX2_behindLetters_16 rfl rfl (Nat.le_of_ble_eq_true rfl) ?_
      refine j_st (st' := [.int r4]) rfl ?_
      refine j_if_ne C 24 dX2_behindLetters_19 (by decide) (fun c6 => ?_) (fun c6 => ?_)
      · have h := ite_f c6 h
        obtain ⟨v7, ev7, h⟩ := bnd_x h
        refine j_iinc C 1 [(2, .int v7), (0, .ref (ad G (2, 0, 0, 0)))] dX2_behindLetters_24 rfl (Nat.le_of_ble_eq_true rfl) (ev7.trans (congrArg (l2 + ·) (by decide))) rfl ?_
        refine j_goto C 2 dX2_behindLetters_27 (by decide) ?_
        refine j_sub [1, 0] [(0, .ref (ad G (2, 0, 0, 0))), (2, .int v7)] rfl ?_
        exact ih v7 D5 h
      · have h := ite_t c6 h
        refine j_iload_n C 1 dX2_behindLetters_22 rfl rfl ?_
        obtain ⟨rfl, rfl⟩ := pr_x h
        exact j_iret C dX2_behindLetters_23
def F_X2_behindLetters (a1 : Int32) (D : Dt) : Option (Int32 × Dt) := (F_X2_behindLetters_b2 a1 2000 a1 D)
set_option maxRecDepth 100000 in
set_option maxHeartbeats 4000000 in
theorem M_X2_behindLetters {l : Launch} {G : Gt} {A : Nat → Prop} {lv : Nat} {a1 : Int32} {D : Dt} {r : Int32} {D' : Dt} (hG : Gok G A) (hlv : 2 ≤ lv)  (h : F_X2_behindLetters a1 D = some (r, D')) : MD l G A lv yX2_behindLetters cX2_behindLetters 3 (some .int) [.ref (ad G (2, 0, 0, 0)), .int a1] D (some (.int r)) D' := by
  unfold F_X2_behindLetters at h
  refine md_start RX2 hG (by decide +kernel) rfl (Nat.le_of_ble_eq_true rfl) (L := [(0, .ref (ad G (2, 0, 0, 0))), (1, .int a1)]) rfl (fun X C => ?_)
  refine j_iload_n C 1 dX2_behindLetters_0 rfl rfl ?_
  refine j_istore_n C [(2, .int a1), (0, .ref (ad G (2, 0, 0, 0))), (1, .int a1)] dX2_behindLetters_1 rfl (Nat.le_of_ble_eq_true rfl) rfl rfl ?_
  refine j_sub [1, 0] [(0, .ref (ad G (2, 0, 0, 0))), (2, .int a1)] rfl ?_
  refine T_X2_behindLetters_b2 hG hlv  C  2000 a1 D h
def F_X2_isWord_b3 (a1 : Int32) (a2 : Int32) (a3 : Int32)  : Nat → Int32 → Int32 → Int32 → Int32 → Dt → Option (Int32 × Dt)
  | 0, _, _, _, _, _ => none
  | f + 1, l1, l2, l3, l4, D => (if l2 ≤ l4 then (some ((1 : Int32), D)) else (grd (inB l4 (lenS.getD 0 0) = true) (grd (inB ((l3 + l4) - l1) 400 = true) (if (sChr 0 l4) = (D.1 (2, 0, 1, 0) (((l3 + l4) - l1).toNatClampNeg)) then (bnd (l4 + (1 : Int32)) (fun v5 => (F_X2_isWord_b3 a1 a2 a3 f l1 l2 l3 v5 D))) else (some ((0 : Int32), D))))))
set_option maxRecDepth 100000 in
set_option maxHeartbeats 4000000 in
theorem T_X2_isWord_b3 {r : Int32} {D' : Dt} {X : Ctx} {l : Launch} {G : Gt} {A : Nat → Prop} {lv : Nat} {a1 : Int32} {a2 : Int32} {a3 : Int32}   (hG : Gok G A) (hlv : 8 ≤ lv)   (C : Cx X cX2_isWord RX2 G l A lv 5 (some .boolean) (some (.int r)) D')  : ∀ (f : Nat) (l1 : Int32) (l2 : Int32) (l3 : Int32) (l4 : Int32) (D : Dt), F_X2_isWord_b3 a1 a2 a3 f l1 l2 l3 l4 D = some (r, D') → J X (Rep G D) 3 [(0, .ref (ad G (2, 0, 0, 0))), (1, .int l1), (2, .int l2), (3, .int l3), (4, .int l4)] [] := by
  intro f
  induction f with
  | zero =>
    intro l1 l2 l3 l4 D h
    exact nomatch h
  | succ f ih =>
    intro l1 l2 l3 l4 D h
    rw [F_X2_isWord_b3] at h
    refine j_iload C 4 dX2_isWord_3 rfl ?_
    refine j_iload_n C 2 dX2_isWord_5 rfl rfl ?_
    refine j_icmp_ge C 38 dX2_isWord_6 (by decide) (fun c1 => ?_) (fun c1 => ?_)
    · have h := ite_t c1 h
      refine j_iconst C (1 : Int32) (by decide) dX2_isWord_38 ?_
      obtain ⟨rfl, rfl⟩ := pr_x h
      exact j_zret C (Or.inr rfl) dX2_isWord_39
    · have h := ite_f c1 h
      refine j_ldcS C 0 rfl dX2_isWord_9 ?_
      refine j_iload C 4 dX2_isWord_11 rfl ?_
      obtain ⟨g2, h⟩ := grd_x h
      refine j_scha C (by decide) cw_X2_78 (by omega) (Nat.le_of_ble_eq_true rfl) g2 dX2_isWord_13 ?_
      refine j_aload_n C 0 dX2_isWord_16 rfl rfl ?_
      refine j_getS C (2, 0, 1, 0) fl_X2_9 dX2_isWord_17 (by decide) ⟨rfl, rfl⟩ rfl rfl ?_
      refine j_iload_n C 3 dX2_isWord_20 rfl rfl ?_
      refine j_iload C 4 dX2_isWord_21 rfl ?_
      refine j_iadd C dX2_isWord_23 ?_
      refine j_iload_n C 1 dX2_isWord_24 rfl rfl ?_
      refine j_isub C dX2_isWord_25 ?_
      obtain ⟨g3, h⟩ := grd_x h
      refine j_ialdK C 400 (((l3 + l4) - l1).toNatClampNeg) dX2_isWord_26 (V_f 0 (by decide) (by decide)) rfl g3 rfl ?_
      refine j_icmp_eq C 32 dX2_isWord_27 (by decide) (fun c4 => ?_) (fun c4 => ?_)
      · have h := ite_t c4 h
        obtain ⟨v5, ev5, h⟩ := bnd_x h
        refine j_iinc C 4 [(4, .int v5), (0, .ref (ad G (2, 0, 0, 0))), (1, .int l1), (2, .int l2), (3, .int l3)] dX2_isWord_32 rfl (Nat.le_of_ble_eq_true rfl) (ev5.trans (congrArg (l4 + ·) (by decide))) rfl ?_
        refine j_goto C 3 dX2_isWord_35 (by decide) ?_
        refine j_sub [1, 2, 3, 4, 0] [(0, .ref (ad G (2, 0, 0, 0))), (1, .int l1), (2, .int l2), (3, .int l3), (4, .int v5)] rfl ?_
        exact ih l1 l2 l3 v5 D h
      · have h := ite_f c4 h
        refine j_iconst C (0 : Int32) (by decide) dX2_isWord_30 ?_
        obtain ⟨rfl, rfl⟩ := pr_x h
        exact j_zret C (Or.inl rfl) dX2_isWord_31
def F_X2_isWord (a1 : Int32) (a2 : Int32) (a3 : Int32) (D : Dt) : Option (Int32 × Dt) := (F_X2_isWord_b3 a1 a2 a3 2000 a1 a2 a3 a1 D)
set_option maxRecDepth 100000 in
set_option maxHeartbeats 4000000 in
theorem M_X2_isWord {l : Launch} {G : Gt} {A : Nat → Prop} {lv : Nat} {a1 : Int32} {a2 : Int32} {a3 : Int32} {D : Dt} {r : Int32} {D' : Dt} (hG : Gok G A) (hlv : 8 ≤ lv)  (h : F_X2_isWord a1 a2 a3 D = some (r, D')) : MD l G A lv yX2_isWord cX2_isWord 5 (some .boolean) [.ref (ad G (2, 0, 0, 0)), .int a1, .int a2, .int a3] D (some (.int r)) D' := by
  unfold F_X2_isWord at h
  refine md_start RX2 hG (by decide +kernel) rfl (Nat.le_of_ble_eq_true rfl) (L := [(0, .ref (ad G (2, 0, 0, 0))), (1, .int a1), (2, .int a2), (3, .int a3)]) rfl (fun X C => ?_)
  refine j_iload_n C 1 dX2_isWord_0 rfl rfl ?_
  refine j_istore C [(4, .int a1), (0, .ref (ad G (2, 0, 0, 0))), (1, .int a1), (2, .int a2), (3, .int a3)] dX2_isWord_1 (Nat.le_of_ble_eq_true rfl) rfl rfl ?_
  refine j_sub [1, 2, 3, 4, 0] [(0, .ref (ad G (2, 0, 0, 0))), (1, .int a1), (2, .int a2), (3, .int a3), (4, .int a1)] rfl ?_
  refine T_X2_isWord_b3 hG hlv  C  2000 a1 a2 a3 a1 D h
def F_X2_wordOf_b75 (a1 : Int32) (a2 : Int32) (k9 : Int32 → Int32 → Int32 → Int32 → Int32 → Dt → Option (Int32 × Dt)) (l1 : Int32) (l2 : Int32) (l3 : Int32) (l4 : Int32) (l5 : Int32) (D : Dt) : Option (Int32 × Dt) := (bnd (l5 + (1 : Int32)) (fun v6 => (k9 l1 l2 l3 l4 v6 D)))
set_option maxRecDepth 100000 in
set_option maxHeartbeats 4000000 in
theorem T_X2_wordOf_b75 {r : Int32} {D' : Dt} {X : Ctx} {l : Launch} {G : Gt} {A : Nat → Prop} {lv : Nat} {a1 : Int32} {a2 : Int32}  {k9 : Int32 → Int32 → Int32 → Int32 → Int32 → Dt → Option (Int32 × Dt)} (hG : Gok G A) (hlv : 9 ≤ lv)   (C : Cx X cX2_wordOf RX2 G l A lv 6 (some .int) (some (.int r)) D') (hk9 : ∀ (l1 : Int32) (l2 : Int32) (l3 : Int32) (l4 : Int32) (l5 : Int32) (D : Dt), k9 l1 l2 l3 l4 l5 D = some (r, D') → J X (Rep G D) 9 [(0, .ref (ad G (2, 0, 0, 0))), (1, .int l1), (2, .int l2), (3, .int l3), (4, .int l4), (5, .int l5)] []) : ∀ (l1 : Int32) (l2 : Int32) (l3 : Int32) (l4 : Int32) (l5 : Int32) (D : Dt), F_X2_wordOf_b75 a1 a2 k9 l1 l2 l3 l4 l5 D = some (r, D') → J X (Rep G D) 75 [(0, .ref (ad G (2, 0, 0, 0))), (1, .int l1), (2, .int l2), (3, .int l3), (4, .int l4), (5, .int l5)] [] := by
  intro l1 l2 l3 l4 l5 D h
  unfold F_X2_wordOf_b75 at h
  obtain ⟨v6, ev6, h⟩ := bnd_x h
  refine j_iinc C 5 [(5, .int v6), (0, .ref (ad G (2, 0, 0, 0))), (1, .int l1), (2, .int l2), (3, .int l3), (4, .int l4)] dX2_wordOf_75 rfl (Nat.le_of_ble_eq_true rfl) (ev6.trans (congrArg (l5 + ·) (by decide))) rfl ?_
  refine j_goto C 9 dX2_wordOf_78 (by decide) ?_
  refine j_sub [1, 2, 3, 4, 5, 0] [(0, .ref (ad G (2, 0, 0, 0))), (1, .int l1), (2, .int l2), (3, .int l3), (4, .int l4), (5, .int v6)] rfl ?_
  exact hk9 l1 l2 l3 l4 v6 D h
def F_X2_wordOf_b66 (a1 : Int32) (a2 : Int32) (k9 : Int32 → Int32 → Int32 → Int32 → Int32 → Dt → Option (Int32 × Dt)) (l1 : Int32) (l2 : Int32) (l3 : Int32) (l5 : Int32) (D : Dt) : Option (Int32 × Dt) := (bnd (l3 + (1 : Int32)) (fun v4 => (bnd (l5 + (1 : Int32)) (fun v5 => (F_X2_wordOf_b75 a1 a2 (fun l1_7 l2_8 l3_9 l4_10 l5_11 D12 => (k9 l1_7 l2_8 l3_9 l4_10 l5_11 D12)) l1 l2 v4 v5 l5 D)))))
set_option maxRecDepth 100000 in
set_option maxHeartbeats 4000000 in
theorem T_X2_wordOf_b66 {r : Int32} {D' : Dt} {X : Ctx} {l : Launch} {G : Gt} {A : Nat → Prop} {lv : Nat} {a1 : Int32} {a2 : Int32}  {k9 : Int32 → Int32 → Int32 → Int32 → Int32 → Dt → Option (Int32 × Dt)} (hG : Gok G A) (hlv : 9 ≤ lv)   (C : Cx X cX2_wordOf RX2 G l A lv 6 (some .int) (some (.int r)) D') (hk9 : ∀ (l1 : Int32) (l2 : Int32) (l3 : Int32) (l4 : Int32) (l5 : Int32) (D : Dt), k9 l1 l2 l3 l4 l5 D = some (r, D') → J X (Rep G D) 9 [(0, .ref (ad G (2, 0, 0, 0))), (1, .int l1), (2, .int l2), (3, .int l3), (4, .int l4), (5, .int l5)] []) : ∀ (l1 : Int32) (l2 : Int32) (l3 : Int32) (l5 : Int32) (D : Dt), F_X2_wordOf_b66 a1 a2 k9 l1 l2 l3 l5 D = some (r, D') → J X (Rep G D) 66 [(0, .ref (ad G (2, 0, 0, 0))), (1, .int l1), (2, .int l2), (3, .int l3), (5, .int l5)] [] := by
  intro l1 l2 l3 l5 D h
  unfold F_X2_wordOf_b66 at h
  obtain ⟨v4, ev4, h⟩ := bnd_x h
  refine j_iinc C 3 [(3, .int v4), (0, .ref (ad G (2, 0, 0, 0))), (1, .int l1), (2, .int l2), (5, .int l5)] dX2_wordOf_66 rfl (Nat.le_of_ble_eq_true rfl) (ev4.trans (congrArg (l3 + ·) (by decide))) rfl ?_
  refine j_iload C 4 dX2_wordOf_69 rfl ?_
  refine j_iconst C (1 : Int32) (by decide) dX2_wordOf_71 ?_
  refine j_iadd C dX2_wordOf_72 ?_
  obtain ⟨v5, ev5, h⟩ := bnd_x h
  refine j_istore C [(4, .int v5), (3, .int v4), (0, .ref (ad G (2, 0, 0, 0))), (1, .int l1), (2, .int l2), (5, .int l5)] dX2_wordOf_73 (Nat.le_of_ble_eq_true rfl) ev5 rfl ?_
  refine j_sub [2, 3, 4, 1, 0, 5] [(0, .ref (ad G (2, 0, 0, 0))), (1, .int l1), (2, .int l2), (3, .int v4), (4, .int v5), (5, .int l5)] rfl ?_
  refine T_X2_wordOf_b75 hG hlv  C (fun l1_7 l2_8 l3_9 l4_10 l5_11 D12 h => ?_) l1 l2 v4 v5 l5 D h
  · exact hk9 l1_7 l2_8 l3_9 l4_10 l5_11 D12 h
def F_X2_wordOf_b41 (a1 : Int32) (a2 : Int32) (k9 : Int32 → Int32 → Int32 → Int32 → Int32 → Dt → Option (Int32 × Dt)) (l1 : Int32) (l2 : Int32) (l3 : Int32) (l4 : Int32) (l5 : Int32) (D : Dt) : Option (Int32 × Dt) := (if (l5 - l4) = (l2 - l1) then (cbd (F_X2_isWord l4 l5 l1 D) (fun r20 D21 => (if r20 = 0 then (F_X2_wordOf_b66 a1 a2 (fun l1_23 l2_24 l3_25 l4_26 l5_27 D28 => (k9 l1_23 l2_24 l3_25 l4_26 l5_27 D28)) l1 l2 l3 l5 D21) else (some (l3, D21))))) else (F_X2_wordOf_b66 a1 a2 (fun l1_13 l2_14 l3_15 l4_16 l5_17 D18 => (k9 l1_13 l2_14 l3_15 l4_16 l5_17 D18)) l1 l2 l3 l5 D))
set_option maxRecDepth 100000 in
set_option maxHeartbeats 4000000 in
theorem T_X2_wordOf_b41 {r : Int32} {D' : Dt} {X : Ctx} {l : Launch} {G : Gt} {A : Nat → Prop} {lv : Nat} {a1 : Int32} {a2 : Int32}  {k9 : Int32 → Int32 → Int32 → Int32 → Int32 → Dt → Option (Int32 × Dt)} (hG : Gok G A) (hlv : 9 ≤ lv)   (C : Cx X cX2_wordOf RX2 G l A lv 6 (some .int) (some (.int r)) D') (hk9 : ∀ (l1 : Int32) (l2 : Int32) (l3 : Int32) (l4 : Int32) (l5 : Int32) (D : Dt), k9 l1 l2 l3 l4 l5 D = some (r, D') → J X (Rep G D) 9 [(0, .ref (ad G (2, 0, 0, 0))), (1, .int l1), (2, .int l2), (3, .int l3), (4, .int l4), (5, .int l5)] []) : ∀ (l1 : Int32) (l2 : Int32) (l3 : Int32) (l4 : Int32) (l5 : Int32) (D : Dt), F_X2_wordOf_b41 a1 a2 k9 l1 l2 l3 l4 l5 D = some (r, D') → J X (Rep G D) 41 [(0, .ref (ad G (2, 0, 0, 0))), (1, .int l1), (2, .int l2), (3, .int l3), (4, .int l4), (5, .int l5)] [] := by
  intro l1 l2 l3 l4 l5 D h
  unfold F_X2_wordOf_b41 at h
  refine j_iload C 5 dX2_wordOf_41 rfl ?_
  refine j_iload C 4 dX2_wordOf_43 rfl ?_
  refine j_isub C dX2_wordOf_45 ?_
  refine j_iload_n C 2 dX2_wordOf_46 rfl rfl ?_
  refine j_iload_n C 1 dX2_wordOf_47 rfl rfl ?_
  refine j_isub C dX2_wordOf_48 ?_
  refine j_icmp_ne C 66 dX2_wordOf_49 (by decide) (fun c3 => ?_) (fun c3 => ?_)
  · have h := ite_f c3 h
    refine j_sub [0, 1, 2, 3, 5] [(0, .ref (ad G (2, 0, 0, 0))), (1, .int l1), (2, .int l2), (3, .int l3), (5, .int l5)] rfl ?_
    refine T_X2_wordOf_b66 hG hlv  C (fun l1_13 l2_14 l3_15 l4_16 l5_17 D18 h => ?_) l1 l2 l3 l5 D h
    · exact hk9 l1_13 l2_14 l3_15 l4_16 l5_17 D18 h
  · have h := ite_t c3 h
    refine j_aload_n C 0 dX2_wordOf_52 rfl rfl ?_
    refine j_iload C 4 dX2_wordOf_53 rfl ?_
    refine j_iload C 5 dX2_wordOf_55 rfl ?_
    refine j_iload_n C 1 dX2_wordOf_57 rfl rfl ?_
    obtain ⟨r20, D21, h19, h⟩ := cbd_x h
    refine j_callV C [.int l4, .int l5, .int l1] [] cl_X2_82 (M_X2_isWord (lv := lv - 1) hG (by omega) h19) (by omega) dX2_wordOf_58 (by decide) ⟨rfl, rfl⟩ rfl rfl (Nat.le_of_ble_eq_true rfl) ?_
    refine j_st (st' := [.int r20]) rfl ?_
    refine j_if_eq C 66 dX2_wordOf_61 (by decide) (fun c22 => ?_) (fun c22 => ?_)
    · have h := ite_t c22 h
      refine j_sub [0, 1, 2, 3, 5] [(0, .ref (ad G (2, 0, 0, 0))), (1, .int l1), (2, .int l2), (3, .int l3), (5, .int l5)] rfl ?_
      refine T_X2_wordOf_b66 hG hlv  C (fun l1_23 l2_24 l3_25 l4_26 l5_27 D28 h => ?_) l1 l2 l3 l5 D21 h
      · exact hk9 l1_23 l2_24 l3_25 l4_26 l5_27 D28 h
    · have h := ite_f c22 h
      refine j_iload_n C 3 dX2_wordOf_64 rfl rfl ?_
      obtain ⟨rfl, rfl⟩ := pr_x h
      exact j_iret C dX2_wordOf_65
def F_X2_wordOf_b9 (a1 : Int32) (a2 : Int32)  : Nat → Int32 → Int32 → Int32 → Int32 → Int32 → Dt → Option (Int32 × Dt)
  | 0, _, _, _, _, _, _ => none
  | f + 1, l1, l2, l3, l4, l5, D => (if (sLen 0) < l5 then (some ((3 : Int32), D)) else (if l5 = (sLen 0) then (F_X2_wordOf_b41 a1 a2 (fun l1_29 l2_30 l3_31 l4_32 l5_33 D34 => (F_X2_wordOf_b9 a1 a2 f l1_29 l2_30 l3_31 l4_32 l5_33 D34)) l1 l2 l3 l4 l5 D) else (grd (inB l5 (lenS.getD 0 0) = true) (if (sChr 0 l5) = (32 : Int32) then (F_X2_wordOf_b41 a1 a2 (fun l1_43 l2_44 l3_45 l4_46 l5_47 D48 => (F_X2_wordOf_b9 a1 a2 f l1_43 l2_44 l3_45 l4_46 l5_47 D48)) l1 l2 l3 l4 l5 D) else (F_X2_wordOf_b75 a1 a2 (fun l1_37 l2_38 l3_39 l4_40 l5_41 D42 => (F_X2_wordOf_b9 a1 a2 f l1_37 l2_38 l3_39 l4_40 l5_41 D42)) l1 l2 l3 l4 l5 D)))))
set_option maxRecDepth 100000 in
set_option maxHeartbeats 4000000 in
theorem T_X2_wordOf_b9 {r : Int32} {D' : Dt} {X : Ctx} {l : Launch} {G : Gt} {A : Nat → Prop} {lv : Nat} {a1 : Int32} {a2 : Int32}   (hG : Gok G A) (hlv : 9 ≤ lv)   (C : Cx X cX2_wordOf RX2 G l A lv 6 (some .int) (some (.int r)) D')  : ∀ (f : Nat) (l1 : Int32) (l2 : Int32) (l3 : Int32) (l4 : Int32) (l5 : Int32) (D : Dt), F_X2_wordOf_b9 a1 a2 f l1 l2 l3 l4 l5 D = some (r, D') → J X (Rep G D) 9 [(0, .ref (ad G (2, 0, 0, 0))), (1, .int l1), (2, .int l2), (3, .int l3), (4, .int l4), (5, .int l5)] [] := by
  intro f
  induction f with
  | zero =>
    intro l1 l2 l3 l4 l5 D h
    exact nomatch h
  | succ f ih =>
    intro l1 l2 l3 l4 l5 D h
    rw [F_X2_wordOf_b9] at h
    refine j_iload C 5 dX2_wordOf_9 rfl ?_
    refine j_ldcS C 0 rfl dX2_wordOf_11 ?_
    refine j_slen C (by decide) cw_X2_75 (by omega) (Nat.le_of_ble_eq_true rfl) dX2_wordOf_13 ?_
    refine j_icmp_gt C 81 dX2_wordOf_16 (by decide) (fun c1 => ?_) (fun c1 => ?_)
    · have h := ite_t c1 h
      refine j_iconst C (3 : Int32) (by decide) dX2_wordOf_81 ?_
      obtain ⟨rfl, rfl⟩ := pr_x h
      exact j_iret C dX2_wordOf_82
    · have h := ite_f c1 h
      refine j_iload C 5 dX2_wordOf_19 rfl ?_
      refine j_ldcS C 0 rfl dX2_wordOf_21 ?_
      refine j_slen C (by decide) cw_X2_75 (by omega) (Nat.le_of_ble_eq_true rfl) dX2_wordOf_23 ?_
      refine j_icmp_eq C 41 dX2_wordOf_26 (by decide) (fun c2 => ?_) (fun c2 => ?_)
      · have h := ite_t c2 h
        refine T_X2_wordOf_b41 hG hlv  C (fun l1_29 l2_30 l3_31 l4_32 l5_33 D34 h => ?_) l1 l2 l3 l4 l5 D h
        · exact ih l1_29 l2_30 l3_31 l4_32 l5_33 D34 h
      · have h := ite_f c2 h
        refine j_ldcS C 0 rfl dX2_wordOf_29 ?_
        refine j_iload C 5 dX2_wordOf_31 rfl ?_
        obtain ⟨g35, h⟩ := grd_x h
        refine j_scha C (by decide) cw_X2_78 (by omega) (Nat.le_of_ble_eq_true rfl) g35 dX2_wordOf_33 ?_
        refine j_bipush C (32 : Int32) (by decide) dX2_wordOf_36 ?_
        refine j_icmp_ne C 75 dX2_wordOf_38 (by decide) (fun c36 => ?_) (fun c36 => ?_)
        · have h := ite_f c36 h
          refine T_X2_wordOf_b75 hG hlv  C (fun l1_37 l2_38 l3_39 l4_40 l5_41 D42 h => ?_) l1 l2 l3 l4 l5 D h
          · exact ih l1_37 l2_38 l3_39 l4_40 l5_41 D42 h
        · have h := ite_t c36 h
          refine T_X2_wordOf_b41 hG hlv  C (fun l1_43 l2_44 l3_45 l4_46 l5_47 D48 h => ?_) l1 l2 l3 l4 l5 D h
          · exact ih l1_43 l2_44 l3_45 l4_46 l5_47 D48 h
def F_X2_wordOf (a1 : Int32) (a2 : Int32) (D : Dt) : Option (Int32 × Dt) := (F_X2_wordOf_b9 a1 a2 2000 a1 a2 (20 : Int32) (0 : Int32) (0 : Int32) D)
set_option maxRecDepth 100000 in
set_option maxHeartbeats 4000000 in
theorem M_X2_wordOf {l : Launch} {G : Gt} {A : Nat → Prop} {lv : Nat} {a1 : Int32} {a2 : Int32} {D : Dt} {r : Int32} {D' : Dt} (hG : Gok G A) (hlv : 9 ≤ lv)  (h : F_X2_wordOf a1 a2 D = some (r, D')) : MD l G A lv yX2_wordOf cX2_wordOf 6 (some .int) [.ref (ad G (2, 0, 0, 0)), .int a1, .int a2] D (some (.int r)) D' := by
  unfold F_X2_wordOf at h
  refine md_start RX2 hG (by decide +kernel) rfl (Nat.le_of_ble_eq_true rfl) (L := [(0, .ref (ad G (2, 0, 0, 0))), (1, .int a1), (2, .int a2)]) rfl (fun X C => ?_)
  refine j_bipush C (20 : Int32) (by decide) dX2_wordOf_0 ?_
  refine j_istore_n C [(3, .int (20 : Int32)), (0, .ref (ad G (2, 0, 0, 0))), (1, .int a1), (2, .int a2)] dX2_wordOf_2 rfl (Nat.le_of_ble_eq_true rfl) rfl rfl ?_
  refine j_iconst C (0 : Int32) (by decide) dX2_wordOf_3 ?_
  refine j_istore C [(4, .int (0 : Int32)), (3, .int (20 : Int32)), (0, .ref (ad G (2, 0, 0, 0))), (1, .int a1), (2, .int a2)] dX2_wordOf_4 (Nat.le_of_ble_eq_true rfl) rfl rfl ?_
  refine j_iconst C (0 : Int32) (by decide) dX2_wordOf_6 ?_
  refine j_istore C [(5, .int (0 : Int32)), (4, .int (0 : Int32)), (3, .int (20 : Int32)), (0, .ref (ad G (2, 0, 0, 0))), (1, .int a1), (2, .int a2)] dX2_wordOf_7 (Nat.le_of_ble_eq_true rfl) rfl rfl ?_
  refine j_sub [3, 4, 5, 2, 1, 0] [(0, .ref (ad G (2, 0, 0, 0))), (1, .int a1), (2, .int a2), (3, .int (20 : Int32)), (4, .int (0 : Int32)), (5, .int (0 : Int32))] rfl ?_
  refine T_X2_wordOf_b9 hG hlv  C  2000 a1 a2 (20 : Int32) (0 : Int32) (0 : Int32) D h
def F_X2_split_b113  (k19 : Int32 → Int32 → Dt → Option Dt) (l2 : Int32) (l4 : Int32) (D : Dt) : Option Dt := (bnd (l2 + (1 : Int32)) (fun v18 => (k19 l4 v18 D)))
set_option maxRecDepth 100000 in
set_option maxHeartbeats 4000000 in
theorem T_X2_split_b113 {D' : Dt} {X : Ctx} {l : Launch} {G : Gt} {A : Nat → Prop} {lv : Nat}   {k19 : Int32 → Int32 → Dt → Option Dt} (hG : Gok G A) (hlv : 10 ≤ lv)   (C : Cx X cX2_split RX2 G l A lv 5 none none D') (hk19 : ∀ (l1 : Int32) (l2 : Int32) (D : Dt), k19 l1 l2 D = some D' → J X (Rep G D) 19 [(0, .ref (ad G (2, 0, 0, 0))), (1, .int l1), (2, .int l2)] []) : ∀ (l2 : Int32) (l4 : Int32) (D : Dt), F_X2_split_b113 k19 l2 l4 D = some D' → J X (Rep G D) 113 [(0, .ref (ad G (2, 0, 0, 0))), (2, .int l2), (4, .int l4)] [] := by
  intro l2 l4 D h
  unfold F_X2_split_b113 at h
  refine j_iload C 2 dX2_split_113 rfl ?_
  refine j_istore_n C [(1, .int l4), (0, .ref (ad G (2, 0, 0, 0))), (2, .int l2), (4, .int l4)] dX2_split_115 rfl (Nat.le_of_ble_eq_true rfl) rfl rfl ?_
  obtain ⟨v18, ev18, h⟩ := bnd_x h
  refine j_iinc C 2 [(2, .int v18), (1, .int l4), (0, .ref (ad G (2, 0, 0, 0))), (4, .int l4)] dX2_split_116 rfl (Nat.le_of_ble_eq_true rfl) (ev18.trans (congrArg (l2 + ·) (by decide))) rfl ?_
  refine j_goto C 19 dX2_split_119 (by decide) ?_
  refine j_sub [2, 1, 0] [(0, .ref (ad G (2, 0, 0, 0))), (1, .int l4), (2, .int v18)] rfl ?_
  exact hk19 l4 v18 D h
def F_X2_split_b19  (k122 : Dt → Option Dt) : Nat → Int32 → Int32 → Dt → Option Dt
  | 0, _, _, _ => none
  | f + 1, l1, l2, D => (if (400 : Int32) ≤ l2 then (k122  D) else (if (D.1 (2, 0, 0, 0) 1) ≤ l1 then (k122  D) else (grd (inB l1 400 = true) (bnd (D.1 (2, 0, 1, 0) (l1.toNatClampNeg)) (fun v7 => (bnd (l1 + (1 : Int32)) (fun v8 => (cbd (F_X2_isDigit v7 D) (fun r10 D11 => (if r10 = 0 then (cbd (F_X2_isLetter v7 D11) (fun r14 D15 => (if r14 = 0 then (if v7 = (32 : Int32) then (F_X2_split_b113 (fun l1_19 l2_20 D21 => (F_X2_split_b19 k122 f l1_19 l2_20 D21)) l2 v8 D15) else (cbd (F_X2_addSign l1 D15) (fun r23 D24 => (F_X2_split_b113 (fun l1_25 l2_26 D27 => (F_X2_split_b19 k122 f l1_25 l2_26 D27)) l2 r23 D24)))) else (cbd (F_X2_behindLetters l1 D15) (fun r29 D30 => (cbd (F_X2_wordOf l1 r29 D30) (fun r32 D33 => (vbd (F_X2_add r32 l1 (0 : Int32) D33) (fun D35 => (F_X2_split_b113 (fun l1_36 l2_37 D38 => (F_X2_split_b19 k122 f l1_36 l2_37 D38)) l2 r29 D35)))))))))) else (cbd (F_X2_behindDigits l1 D11) (fun r40 D41 => (vbd (F_X2_addNumber l1 r40 D41) (fun D43 => (F_X2_split_b113 (fun l1_44 l2_45 D46 => (F_X2_split_b19 k122 f l1_44 l2_45 D46)) l2 r40 D43)))))))))))))))
set_option maxRecDepth 100000 in
set_option maxHeartbeats 4000000 in
theorem T_X2_split_b19 {D' : Dt} {X : Ctx} {l : Launch} {G : Gt} {A : Nat → Prop} {lv : Nat}   {k122 : Dt → Option Dt} (hG : Gok G A) (hlv : 10 ≤ lv)   (C : Cx X cX2_split RX2 G l A lv 5 none none D') (hk122 : ∀  (D : Dt), k122  D = some D' → J X (Rep G D) 122 [(0, .ref (ad G (2, 0, 0, 0)))] []) : ∀ (f : Nat) (l1 : Int32) (l2 : Int32) (D : Dt), F_X2_split_b19 k122 f l1 l2 D = some D' → J X (Rep G D) 19 [(0, .ref (ad G (2, 0, 0, 0))), (1, .int l1), (2, .int l2)] [] := by
  intro f
  induction f with
  | zero =>
    intro l1 l2 D h
    exact nomatch h
  | succ f ih =>
    intro l1 l2 D h
    rw [F_X2_split_b19] at h
    refine j_iload_n C 2 dX2_split_19 rfl rfl ?_
    refine j_sipush C (400 : Int32) (by decide) dX2_split_20 ?_
    refine j_icmp_ge C 122 dX2_split_23 (by decide) (fun c4 => ?_) (fun c4 => ?_)
    · have h := ite_t c4 h
      refine j_sub [0] [(0, .ref (ad G (2, 0, 0, 0)))] rfl ?_
      exact hk122  D h
    · have h := ite_f c4 h
      refine j_iload_n C 1 dX2_split_26 rfl rfl ?_
      refine j_aload_n C 0 dX2_split_27 rfl rfl ?_
      refine j_getI C fl_X2_24 dX2_split_28 (by decide) ⟨rfl, rfl⟩ rfl ?_
      refine j_icmp_ge C 122 dX2_split_31 (by decide) (fun c5 => ?_) (fun c5 => ?_)
      · have h := ite_t c5 h
        refine j_sub [0] [(0, .ref (ad G (2, 0, 0, 0)))] rfl ?_
        exact hk122  D h
      · have h := ite_f c5 h
        refine j_aload_n C 0 dX2_split_34 rfl rfl ?_
        refine j_getS C (2, 0, 1, 0) fl_X2_9 dX2_split_35 (by decide) ⟨rfl, rfl⟩ rfl rfl ?_
        refine j_iload_n C 1 dX2_split_38 rfl rfl ?_
        obtain ⟨g6, h⟩ := grd_x h
        refine j_ialdK C 400 (l1.toNatClampNeg) dX2_split_39 (V_f 0 (by decide) (by decide)) rfl g6 rfl ?_
        obtain ⟨v7, ev7, h⟩ := bnd_x h
        refine j_istore_n C [(3, .int v7), (0, .ref (ad G (2, 0, 0, 0))), (1, .int l1), (2, .int l2)] dX2_split_40 rfl (Nat.le_of_ble_eq_true rfl) ev7 rfl ?_
        refine j_iload_n C 2 dX2_split_41 rfl rfl ?_
        refine j_iconst C (1 : Int32) (by decide) dX2_split_42 ?_
        refine j_iadd C dX2_split_43 ?_
        obtain ⟨v8, ev8, h⟩ := bnd_x h
        refine j_istore C [(4, .int v8), (3, .int v7), (0, .ref (ad G (2, 0, 0, 0))), (1, .int l1), (2, .int l2)] dX2_split_44 (Nat.le_of_ble_eq_true rfl) ev8 rfl ?_
        refine j_iload_n C 1 dX2_split_46 rfl rfl ?_
        obtain ⟨r10, D11, h9, h⟩ := cbd_x h
        refine j_callS C [.int v7] [] cl_X2_37 (M_X2_isDigit (lv := lv - 1) hG (by omega) h9) (by omega) dX2_split_47 rfl rfl (Nat.le_of_ble_eq_true rfl) ?_
        refine j_st (st' := [.int r10]) rfl ?_
        refine j_if_eq C 70 dX2_split_50 (by decide) (fun c12 => ?_) (fun c12 => ?_)
        · have h := ite_t c12 h
          refine j_iload_n C 1 dX2_split_70 rfl rfl ?_
          obtain ⟨r14, D15, h13, h⟩ := cbd_x h
          refine j_callS C [.int v7] [] cl_X2_49 (M_X2_isLetter (lv := lv - 1) hG (by omega) h13) (by omega) dX2_split_71 rfl rfl (Nat.le_of_ble_eq_true rfl) ?_
          refine j_st (st' := [.int r14]) rfl ?_
          refine j_if_eq C 100 dX2_split_74 (by decide) (fun c16 => ?_) (fun c16 => ?_)
          · have h := ite_t c16 h
            refine j_iload_n C 1 dX2_split_100 rfl rfl ?_
            refine j_bipush C (32 : Int32) (by decide) dX2_split_101 ?_
            refine j_icmp_eq C 113 dX2_split_103 (by decide) (fun c17 => ?_) (fun c17 => ?_)
            · have h := ite_t c17 h
              refine j_sub [2, 4, 0] [(0, .ref (ad G (2, 0, 0, 0))), (2, .int l2), (4, .int v8)] rfl ?_
              refine T_X2_split_b113 hG hlv  C (fun l1_19 l2_20 D21 h => ?_) l2 v8 D15 h
              · exact ih l1_19 l2_20 D21 h
            · have h := ite_f c17 h
              refine j_aload_n C 2 dX2_split_106 rfl rfl ?_
              refine j_iload_n C 3 dX2_split_107 rfl rfl ?_
              obtain ⟨r23, D24, h22, h⟩ := cbd_x h
              refine j_callV C [.int l1] [] cl_X2_63 (M_X2_addSign (lv := lv - 1) hG (by omega) h22) (by omega) dX2_split_108 (by decide) ⟨rfl, rfl⟩ rfl rfl (Nat.le_of_ble_eq_true rfl) ?_
              refine j_st (st' := [.int r23]) rfl ?_
              refine j_istore C [(4, .int r23), (3, .int v7), (0, .ref (ad G (2, 0, 0, 0))), (1, .int l1), (2, .int l2)] dX2_split_111 (Nat.le_of_ble_eq_true rfl) rfl rfl ?_
              refine j_sub [2, 4, 0] [(0, .ref (ad G (2, 0, 0, 0))), (2, .int l2), (4, .int r23)] rfl ?_
              refine T_X2_split_b113 hG hlv  C (fun l1_25 l2_26 D27 h => ?_) l2 r23 D24 h
              · exact ih l1_25 l2_26 D27 h
          · have h := ite_f c16 h
            refine j_aload_n C 2 dX2_split_77 rfl rfl ?_
            refine j_iload_n C 3 dX2_split_78 rfl rfl ?_
            obtain ⟨r29, D30, h28, h⟩ := cbd_x h
            refine j_callV C [.int l1] [] cl_X2_52 (M_X2_behindLetters (lv := lv - 1) hG (by omega) h28) (by omega) dX2_split_79 (by decide) ⟨rfl, rfl⟩ rfl rfl (Nat.le_of_ble_eq_true rfl) ?_
            refine j_st (st' := [.int r29]) rfl ?_
            refine j_istore C [(4, .int r29), (3, .int v7), (0, .ref (ad G (2, 0, 0, 0))), (1, .int l1), (2, .int l2)] dX2_split_82 (Nat.le_of_ble_eq_true rfl) rfl rfl ?_
            refine j_aload_n C 2 dX2_split_84 rfl rfl ?_
            refine j_aload_n C 2 dX2_split_85 rfl rfl ?_
            refine j_iload_n C 3 dX2_split_86 rfl rfl ?_
            refine j_iload C 0 dX2_split_87 rfl ?_
            obtain ⟨r32, D33, h31, h⟩ := cbd_x h
            refine j_callV C [.int l1, .int r29] [.ref (ad G (2, 0, 0, 0))] cl_X2_55 (M_X2_wordOf (lv := lv - 1) hG (by omega) h31) (by omega) dX2_split_89 (by decide) ⟨rfl, rfl⟩ rfl rfl (Nat.le_of_ble_eq_true rfl) ?_
            refine j_st (st' := [.int r32, .ref (ad G (2, 0, 0, 0))]) rfl ?_
            refine j_iload_n C 3 dX2_split_92 rfl rfl ?_
            refine j_iconst C (0 : Int32) (by decide) dX2_split_93 ?_
            obtain ⟨D35, h34, h⟩ := vbd_x h
            refine j_callV C [.int r32, .int l1, .int (0 : Int32)] [] cl_X2_59 (M_X2_add (lv := lv - 1) hG (by omega) h34) (by omega) dX2_split_94 (by decide) ⟨rfl, rfl⟩ rfl rfl (Nat.le_of_ble_eq_true rfl) ?_
            refine j_st (st' := []) rfl ?_
            refine j_goto C 113 dX2_split_97 (by decide) ?_
            refine j_sub [2, 4, 0] [(0, .ref (ad G (2, 0, 0, 0))), (2, .int l2), (4, .int r29)] rfl ?_
            refine T_X2_split_b113 hG hlv  C (fun l1_36 l2_37 D38 h => ?_) l2 r29 D35 h
            · exact ih l1_36 l2_37 D38 h
        · have h := ite_f c12 h
          refine j_aload_n C 2 dX2_split_53 rfl rfl ?_
          refine j_iload_n C 3 dX2_split_54 rfl rfl ?_
          obtain ⟨r40, D41, h39, h⟩ := cbd_x h
          refine j_callV C [.int l1] [] cl_X2_41 (M_X2_behindDigits (lv := lv - 1) hG (by omega) h39) (by omega) dX2_split_55 (by decide) ⟨rfl, rfl⟩ rfl rfl (Nat.le_of_ble_eq_true rfl) ?_
          refine j_st (st' := [.int r40]) rfl ?_
          refine j_istore C [(4, .int r40), (3, .int v7), (0, .ref (ad G (2, 0, 0, 0))), (1, .int l1), (2, .int l2)] dX2_split_58 (Nat.le_of_ble_eq_true rfl) rfl rfl ?_
          refine j_aload_n C 2 dX2_split_60 rfl rfl ?_
          refine j_iload_n C 3 dX2_split_61 rfl rfl ?_
          refine j_iload C 0 dX2_split_62 rfl ?_
          obtain ⟨D43, h42, h⟩ := vbd_x h
          refine j_callV C [.int l1, .int r40] [] cl_X2_45 (M_X2_addNumber (lv := lv - 1) hG (by omega) h42) (by omega) dX2_split_64 (by decide) ⟨rfl, rfl⟩ rfl rfl (Nat.le_of_ble_eq_true rfl) ?_
          refine j_st (st' := []) rfl ?_
          refine j_goto C 113 dX2_split_67 (by decide) ?_
          refine j_sub [2, 4, 0] [(0, .ref (ad G (2, 0, 0, 0))), (2, .int l2), (4, .int r40)] rfl ?_
          refine T_X2_split_b113 hG hlv  C (fun l1_44 l2_45 D46 h => ?_) l2 r40 D43 h
          · exact ih l1_44 l2_45 D46 h
def F_X2_split  (D : Dt) : Option Dt := (bnd (setI D (2, 0, 0, 0) 5 (0 : Int32)) (fun D1 => (bnd (setI D1 (2, 0, 0, 0) 6 (0 : Int32)) (fun D2 => (bnd (setI D2 (2, 0, 0, 0) 7 (0 : Int32)) (fun D3 => (F_X2_split_b19 (fun D47 => (vbd (F_X2_add (0 : Int32) (D47.1 (2, 0, 0, 0) 1) (0 : Int32) D47) (fun D49 => (some D49)))) 2000 (0 : Int32) (0 : Int32) D3)))))))
set_option maxRecDepth 100000 in
set_option maxHeartbeats 4000000 in
theorem M_X2_split {l : Launch} {G : Gt} {A : Nat → Prop} {lv : Nat}  {D : Dt} {D' : Dt} (hG : Gok G A) (hlv : 10 ≤ lv)  (h : F_X2_split  D = some D') : MD l G A lv yX2_split cX2_split 5 none [.ref (ad G (2, 0, 0, 0))] D none D' := by
  unfold F_X2_split at h
  refine md_start RX2 hG (by decide +kernel) rfl (Nat.le_of_ble_eq_true rfl) (L := [(0, .ref (ad G (2, 0, 0, 0)))]) rfl (fun X C => ?_)
  refine j_aload_n C 0 dX2_split_0 rfl rfl ?_
  refine j_iconst C (0 : Int32) (by decide) dX2_split_1 ?_
  obtain ⟨D1, eD1, h⟩ := bnd_x h
  refine j_putI C fl_X2_28 dX2_split_2 (by decide) ⟨rfl, rfl⟩ rfl rfl rfl ?_
  refine j_rep eD1 ?_
  refine j_aload_n C 0 dX2_split_5 rfl rfl ?_
  refine j_iconst C (0 : Int32) (by decide) dX2_split_6 ?_
  obtain ⟨D2, eD2, h⟩ := bnd_x h
  refine j_putI C fl_X2_31 dX2_split_7 (by decide) ⟨rfl, rfl⟩ rfl rfl rfl ?_
  refine j_rep eD2 ?_
  refine j_aload_n C 0 dX2_split_10 rfl rfl ?_
  refine j_iconst C (0 : Int32) (by decide) dX2_split_11 ?_
  obtain ⟨D3, eD3, h⟩ := bnd_x h
  refine j_putI C fl_X2_34 dX2_split_12 (by decide) ⟨rfl, rfl⟩ rfl rfl rfl ?_
  refine j_rep eD3 ?_
  refine j_iconst C (0 : Int32) (by decide) dX2_split_15 ?_
  refine j_istore_n C [(1, .int (0 : Int32)), (0, .ref (ad G (2, 0, 0, 0)))] dX2_split_16 rfl (Nat.le_of_ble_eq_true rfl) rfl rfl ?_
  refine j_iconst C (0 : Int32) (by decide) dX2_split_17 ?_
  refine j_istore_n C [(2, .int (0 : Int32)), (1, .int (0 : Int32)), (0, .ref (ad G (2, 0, 0, 0)))] dX2_split_18 rfl (Nat.le_of_ble_eq_true rfl) rfl rfl ?_
  refine j_sub [2, 1, 0] [(0, .ref (ad G (2, 0, 0, 0))), (1, .int (0 : Int32)), (2, .int (0 : Int32))] rfl ?_
  refine T_X2_split_b19 hG hlv  C (fun D47 h => ?_) 2000 (0 : Int32) (0 : Int32) D3 h
  · refine j_aload_n C 0 dX2_split_122 rfl rfl ?_
    refine j_iconst C (0 : Int32) (by decide) dX2_split_123 ?_
    refine j_aload_n C 0 dX2_split_124 rfl rfl ?_
    refine j_getI C fl_X2_24 dX2_split_125 (by decide) ⟨rfl, rfl⟩ rfl ?_
    refine j_iconst C (0 : Int32) (by decide) dX2_split_128 ?_
    obtain ⟨D49, h48, h⟩ := vbd_x h
    refine j_callV C [.int (0 : Int32), .int (D47.1 (2, 0, 0, 0) 1), .int (0 : Int32)] [] cl_X2_59 (M_X2_add (lv := lv - 1) hG (by omega) h48) (by omega) dX2_split_129 (by decide) ⟨rfl, rfl⟩ rfl rfl (Nat.le_of_ble_eq_true rfl) ?_
    refine j_st (st' := []) rfl ?_
    obtain rfl := Option.some.inj h
    exact j_vret C dX2_split_132
def F_X2_sign  (D : Dt) : Option (Int32 × Dt) := (if (D.1 (2, 0, 0, 0) 5) ≤ (D.1 (2, 0, 0, 0) 6) then (some ((0 : Int32), D)) else (grd (inB (D.1 (2, 0, 0, 0) 6) 401 = true) (some ((D.1 (2, 0, 3, 0) ((D.1 (2, 0, 0, 0) 6).toNatClampNeg)), D))))
set_option maxRecDepth 100000 in
set_option maxHeartbeats 4000000 in
theorem M_X2_sign {l : Launch} {G : Gt} {A : Nat → Prop} {lv : Nat}  {D : Dt} {r : Int32} {D' : Dt} (hG : Gok G A) (hlv : 1 ≤ lv)  (h : F_X2_sign  D = some (r, D')) : MD l G A lv yX2_sign cX2_sign 1 (some .int) [.ref (ad G (2, 0, 0, 0))] D (some (.int r)) D' := by
  unfold F_X2_sign at h
  refine md_start RX2 hG (by decide +kernel) rfl (Nat.le_of_ble_eq_true rfl) (L := [(0, .ref (ad G (2, 0, 0, 0)))]) rfl (fun X C => ?_)
  refine j_aload_n C 0 dX2_sign_0 rfl rfl ?_
  refine j_getI C fl_X2_31 dX2_sign_1 (by decide) ⟨rfl, rfl⟩ rfl ?_
  refine j_aload_n C 0 dX2_sign_4 rfl rfl ?_
  refine j_getI C fl_X2_28 dX2_sign_5 (by decide) ⟨rfl, rfl⟩ rfl ?_
  refine j_icmp_ge C 23 dX2_sign_8 (by decide) (fun c1 => ?_) (fun c1 => ?_)
  · have h := ite_t c1 h
    refine j_iconst C (0 : Int32) (by decide) dX2_sign_23 ?_
    obtain ⟨rfl, rfl⟩ := pr_x h
    exact j_iret C dX2_sign_24
  · have h := ite_f c1 h
    refine j_aload_n C 0 dX2_sign_11 rfl rfl ?_
    refine j_getS C (2, 0, 3, 0) fl_X2_15 dX2_sign_12 (by decide) ⟨rfl, rfl⟩ rfl rfl ?_
    refine j_aload_n C 0 dX2_sign_15 rfl rfl ?_
    refine j_getI C fl_X2_31 dX2_sign_16 (by decide) ⟨rfl, rfl⟩ rfl ?_
    obtain ⟨g2, h⟩ := grd_x h
    refine j_ialdK C 401 ((D.1 (2, 0, 0, 0) 6).toNatClampNeg) dX2_sign_19 (V_f 2 (by decide) (by decide)) rfl g2 rfl ?_
    refine j_goto C 24 dX2_sign_20 (by decide) ?_
    obtain ⟨rfl, rfl⟩ := pr_x h
    exact j_iret C dX2_sign_24
def F_X2_number  (D : Dt) : Option (Int32 × Dt) := (if (D.1 (2, 0, 0, 0) 5) ≤ (D.1 (2, 0, 0, 0) 6) then (some ((0 : Int32), D)) else (grd (inB (D.1 (2, 0, 0, 0) 6) 401 = true) (some ((D.1 (2, 0, 5, 0) ((D.1 (2, 0, 0, 0) 6).toNatClampNeg)), D))))
set_option maxRecDepth 100000 in
set_option maxHeartbeats 4000000 in
theorem M_X2_number {l : Launch} {G : Gt} {A : Nat → Prop} {lv : Nat}  {D : Dt} {r : Int32} {D' : Dt} (hG : Gok G A) (hlv : 1 ≤ lv)  (h : F_X2_number  D = some (r, D')) : MD l G A lv yX2_number cX2_number 1 (some .int) [.ref (ad G (2, 0, 0, 0))] D (some (.int r)) D' := by
  unfold F_X2_number at h
  refine md_start RX2 hG (by decide +kernel) rfl (Nat.le_of_ble_eq_true rfl) (L := [(0, .ref (ad G (2, 0, 0, 0)))]) rfl (fun X C => ?_)
  refine j_aload_n C 0 dX2_number_0 rfl rfl ?_
  refine j_getI C fl_X2_31 dX2_number_1 (by decide) ⟨rfl, rfl⟩ rfl ?_
  refine j_aload_n C 0 dX2_number_4 rfl rfl ?_
  refine j_getI C fl_X2_28 dX2_number_5 (by decide) ⟨rfl, rfl⟩ rfl ?_
  refine j_icmp_ge C 23 dX2_number_8 (by decide) (fun c1 => ?_) (fun c1 => ?_)
  · have h := ite_t c1 h
    refine j_iconst C (0 : Int32) (by decide) dX2_number_23 ?_
    obtain ⟨rfl, rfl⟩ := pr_x h
    exact j_iret C dX2_number_24
  · have h := ite_f c1 h
    refine j_aload_n C 0 dX2_number_11 rfl rfl ?_
    refine j_getS C (2, 0, 5, 0) fl_X2_21 dX2_number_12 (by decide) ⟨rfl, rfl⟩ rfl rfl ?_
    refine j_aload_n C 0 dX2_number_15 rfl rfl ?_
    refine j_getI C fl_X2_31 dX2_number_16 (by decide) ⟨rfl, rfl⟩ rfl ?_
    obtain ⟨g2, h⟩ := grd_x h
    refine j_ialdK C 401 ((D.1 (2, 0, 0, 0) 6).toNatClampNeg) dX2_number_19 (V_f 4 (by decide) (by decide)) rfl g2 rfl ?_
    refine j_goto C 24 dX2_number_20 (by decide) ?_
    obtain ⟨rfl, rfl⟩ := pr_x h
    exact j_iret C dX2_number_24
def F_X2_step  (D : Dt) : Option Dt := (if ((D.1 (2, 0, 0, 0) 5) - (1 : Int32)) ≤ (D.1 (2, 0, 0, 0) 6) then (some D) else (bnd (setI D (2, 0, 0, 0) 6 ((D.1 (2, 0, 0, 0) 6) + (1 : Int32))) (fun D2 => (some D2))))
set_option maxRecDepth 100000 in
set_option maxHeartbeats 4000000 in
theorem M_X2_step {l : Launch} {G : Gt} {A : Nat → Prop} {lv : Nat}  {D : Dt} {D' : Dt} (hG : Gok G A) (hlv : 1 ≤ lv)  (h : F_X2_step  D = some D') : MD l G A lv yX2_step cX2_step 1 none [.ref (ad G (2, 0, 0, 0))] D none D' := by
  unfold F_X2_step at h
  refine md_start RX2 hG (by decide +kernel) rfl (Nat.le_of_ble_eq_true rfl) (L := [(0, .ref (ad G (2, 0, 0, 0)))]) rfl (fun X C => ?_)
  refine j_aload_n C 0 dX2_step_0 rfl rfl ?_
  refine j_getI C fl_X2_31 dX2_step_1 (by decide) ⟨rfl, rfl⟩ rfl ?_
  refine j_aload_n C 0 dX2_step_4 rfl rfl ?_
  refine j_getI C fl_X2_28 dX2_step_5 (by decide) ⟨rfl, rfl⟩ rfl ?_
  refine j_iconst C (1 : Int32) (by decide) dX2_step_8 ?_
  refine j_isub C dX2_step_9 ?_
  refine j_icmp_ge C 23 dX2_step_10 (by decide) (fun c1 => ?_) (fun c1 => ?_)
  · have h := ite_t c1 h
    obtain rfl := Option.some.inj h
    exact j_vret C dX2_step_23
  · have h := ite_f c1 h
    refine j_aload_n C 0 dX2_step_13 rfl rfl ?_
    refine j_dup C rfl dX2_step_14 ?_
    refine j_getI C fl_X2_31 dX2_step_15 (by decide) ⟨rfl, rfl⟩ rfl ?_
    refine j_iconst C (1 : Int32) (by decide) dX2_step_18 ?_
    refine j_iadd C dX2_step_19 ?_
    obtain ⟨D2, eD2, h⟩ := bnd_x h
    refine j_putI C fl_X2_31 dX2_step_20 (by decide) ⟨rfl, rfl⟩ rfl rfl rfl ?_
    refine j_rep eD2 ?_
    obtain rfl := Option.some.inj h
    exact j_vret C dX2_step_23
def F_X2_take (a1 : Int32) (D : Dt) : Option (Int32 × Dt) := (cbd (F_X2_sign  D) (fun r2 D3 => (if r2 = a1 then (vbd (F_X2_step  D3) (fun D6 => (some ((1 : Int32), D6)))) else (some ((0 : Int32), D3)))))
set_option maxRecDepth 100000 in
set_option maxHeartbeats 4000000 in
theorem M_X2_take {l : Launch} {G : Gt} {A : Nat → Prop} {lv : Nat} {a1 : Int32} {D : Dt} {r : Int32} {D' : Dt} (hG : Gok G A) (hlv : 2 ≤ lv)  (h : F_X2_take a1 D = some (r, D')) : MD l G A lv yX2_take cX2_take 2 (some .boolean) [.ref (ad G (2, 0, 0, 0)), .int a1] D (some (.int r)) D' := by
  unfold F_X2_take at h
  refine md_start RX2 hG (by decide +kernel) rfl (Nat.le_of_ble_eq_true rfl) (L := [(0, .ref (ad G (2, 0, 0, 0))), (1, .int a1)]) rfl (fun X C => ?_)
  refine j_aload_n C 0 dX2_take_0 rfl rfl ?_
  obtain ⟨r2, D3, h1, h⟩ := cbd_x h
  refine j_callV C [] [] cl_X2_86 (M_X2_sign (lv := lv - 1) hG (by omega) h1) (by omega) dX2_take_1 (by decide) ⟨rfl, rfl⟩ rfl rfl (Nat.le_of_ble_eq_true rfl) ?_
  refine j_st (st' := [.int r2]) rfl ?_
  refine j_iload_n C 1 dX2_take_4 rfl rfl ?_
  refine j_icmp_eq C 10 dX2_take_5 (by decide) (fun c4 => ?_) (fun c4 => ?_)
  · have h := ite_t c4 h
    refine j_aload_n C 0 dX2_take_10 rfl rfl ?_
    obtain ⟨D6, h5, h⟩ := vbd_x h
    refine j_callV C [] [] cl_X2_89 (M_X2_step (lv := lv - 1) hG (by omega) h5) (by omega) dX2_take_11 (by decide) ⟨rfl, rfl⟩ rfl rfl (Nat.le_of_ble_eq_true rfl) ?_
    refine j_st (st' := []) rfl ?_
    refine j_iconst C (1 : Int32) (by decide) dX2_take_14 ?_
    obtain ⟨rfl, rfl⟩ := pr_x h
    exact j_zret C (Or.inr rfl) dX2_take_15
  · have h := ite_f c4 h
    refine j_iconst C (0 : Int32) (by decide) dX2_take_8 ?_
    obtain ⟨rfl, rfl⟩ := pr_x h
    exact j_zret C (Or.inl rfl) dX2_take_9
def F_X2_fail (a1 : Int32) (D : Dt) : Option (Int32 × Dt) := (if (D.1 (2, 0, 0, 0) 7) = 0 then (if (D.1 (2, 0, 0, 0) 5) ≤ (D.1 (2, 0, 0, 0) 6) then (some ((0 : Int32), D)) else (grd (inB (D.1 (2, 0, 0, 0) 6) 401 = true) (bnd (setI D (2, 0, 0, 0) 7 (((1 : Int32) + ((8 : Int32) * (D.1 (2, 0, 4, 0) ((D.1 (2, 0, 0, 0) 6).toNatClampNeg)))) + a1)) (fun D4 => (some ((0 : Int32), D4)))))) else (some ((0 : Int32), D)))
set_option maxRecDepth 100000 in
set_option maxHeartbeats 4000000 in
theorem M_X2_fail {l : Launch} {G : Gt} {A : Nat → Prop} {lv : Nat} {a1 : Int32} {D : Dt} {r : Int32} {D' : Dt} (hG : Gok G A) (hlv : 1 ≤ lv)  (h : F_X2_fail a1 D = some (r, D')) : MD l G A lv yX2_fail cX2_fail 2 (some .boolean) [.ref (ad G (2, 0, 0, 0)), .int a1] D (some (.int r)) D' := by
  unfold F_X2_fail at h
  refine md_start RX2 hG (by decide +kernel) rfl (Nat.le_of_ble_eq_true rfl) (L := [(0, .ref (ad G (2, 0, 0, 0))), (1, .int a1)]) rfl (fun X C => ?_)
  refine j_aload_n C 0 dX2_fail_0 rfl rfl ?_
  refine j_getI C fl_X2_34 dX2_fail_1 (by decide) ⟨rfl, rfl⟩ rfl ?_
  refine j_if_ne C 38 dX2_fail_4 (by decide) (fun c1 => ?_) (fun c1 => ?_)
  · have h := ite_f c1 h
    refine j_iconst C (0 : Int32) (by decide) dX2_fail_38 ?_
    obtain ⟨rfl, rfl⟩ := pr_x h
    exact j_zret C (Or.inl rfl) dX2_fail_39
  · have h := ite_t c1 h
    refine j_aload_n C 0 dX2_fail_7 rfl rfl ?_
    refine j_getI C fl_X2_31 dX2_fail_8 (by decide) ⟨rfl, rfl⟩ rfl ?_
    refine j_aload_n C 0 dX2_fail_11 rfl rfl ?_
    refine j_getI C fl_X2_28 dX2_fail_12 (by decide) ⟨rfl, rfl⟩ rfl ?_
    refine j_icmp_ge C 38 dX2_fail_15 (by decide) (fun c2 => ?_) (fun c2 => ?_)
    · have h := ite_t c2 h
      refine j_iconst C (0 : Int32) (by decide) dX2_fail_38 ?_
      obtain ⟨rfl, rfl⟩ := pr_x h
      exact j_zret C (Or.inl rfl) dX2_fail_39
    · have h := ite_f c2 h
      refine j_aload_n C 0 dX2_fail_18 rfl rfl ?_
      refine j_iconst C (1 : Int32) (by decide) dX2_fail_19 ?_
      refine j_bipush C (8 : Int32) (by decide) dX2_fail_20 ?_
      refine j_aload_n C 0 dX2_fail_22 rfl rfl ?_
      refine j_getS C (2, 0, 4, 0) fl_X2_18 dX2_fail_23 (by decide) ⟨rfl, rfl⟩ rfl rfl ?_
      refine j_aload_n C 0 dX2_fail_26 rfl rfl ?_
      refine j_getI C fl_X2_31 dX2_fail_27 (by decide) ⟨rfl, rfl⟩ rfl ?_
      obtain ⟨g3, h⟩ := grd_x h
      refine j_ialdK C 401 ((D.1 (2, 0, 0, 0) 6).toNatClampNeg) dX2_fail_30 (V_f 3 (by decide) (by decide)) rfl g3 rfl ?_
      refine j_imul C dX2_fail_31 ?_
      refine j_iadd C dX2_fail_32 ?_
      refine j_iload_n C 1 dX2_fail_33 rfl rfl ?_
      refine j_iadd C dX2_fail_34 ?_
      obtain ⟨D4, eD4, h⟩ := bnd_x h
      refine j_putI C fl_X2_34 dX2_fail_35 (by decide) ⟨rfl, rfl⟩ rfl rfl rfl ?_
      refine j_rep eD4 ?_
      refine j_iconst C (0 : Int32) (by decide) dX2_fail_38 ?_
      obtain ⟨rfl, rfl⟩ := pr_x h
      exact j_zret C (Or.inl rfl) dX2_fail_39
def F_X2_demand (a1 : Int32) (D : Dt) : Option (Int32 × Dt) := (cbd (F_X2_take a1 D) (fun r2 D3 => (if r2 = 0 then (cbd (F_X2_fail (0 : Int32) D3) (fun r6 D7 => (if r6 = 0 then (some ((0 : Int32), D7)) else (some ((1 : Int32), D7))))) else (some ((1 : Int32), D3)))))
set_option maxRecDepth 100000 in
set_option maxHeartbeats 4000000 in
theorem M_X2_demand {l : Launch} {G : Gt} {A : Nat → Prop} {lv : Nat} {a1 : Int32} {D : Dt} {r : Int32} {D' : Dt} (hG : Gok G A) (hlv : 3 ≤ lv)  (h : F_X2_demand a1 D = some (r, D')) : MD l G A lv yX2_demand cX2_demand 2 (some .boolean) [.ref (ad G (2, 0, 0, 0)), .int a1] D (some (.int r)) D' := by
  unfold F_X2_demand at h
  refine md_start RX2 hG (by decide +kernel) rfl (Nat.le_of_ble_eq_true rfl) (L := [(0, .ref (ad G (2, 0, 0, 0))), (1, .int a1)]) rfl (fun X C => ?_)
  refine j_aload_n C 0 dX2_demand_0 rfl rfl ?_
  refine j_iload_n C 1 dX2_demand_1 rfl rfl ?_
  obtain ⟨r2, D3, h1, h⟩ := cbd_x h
  refine j_callV C [.int a1] [] cl_X2_92 (M_X2_take (lv := lv - 1) hG (by omega) h1) (by omega) dX2_demand_2 (by decide) ⟨rfl, rfl⟩ rfl rfl (Nat.le_of_ble_eq_true rfl) ?_
  refine j_st (st' := [.int r2]) rfl ?_
  refine j_if_ne C 16 dX2_demand_5 (by decide) (fun c4 => ?_) (fun c4 => ?_)
  · have h := ite_f c4 h
    refine j_iconst C (1 : Int32) (by decide) dX2_demand_16 ?_
    refine j_goto C 21 dX2_demand_17 (by decide) ?_
    obtain ⟨rfl, rfl⟩ := pr_x h
    exact j_zret C (Or.inr rfl) dX2_demand_21
  · have h := ite_t c4 h
    refine j_aload_n C 0 dX2_demand_8 rfl rfl ?_
    refine j_iconst C (0 : Int32) (by decide) dX2_demand_9 ?_
    obtain ⟨r6, D7, h5, h⟩ := cbd_x h
    refine j_callV C [.int (0 : Int32)] [] cl_X2_95 (M_X2_fail (lv := lv - 1) hG (by omega) h5) (by omega) dX2_demand_10 (by decide) ⟨rfl, rfl⟩ rfl rfl (Nat.le_of_ble_eq_true rfl) ?_
    refine j_st (st' := [.int r6]) rfl ?_
    refine j_if_eq C 20 dX2_demand_13 (by decide) (fun c8 => ?_) (fun c8 => ?_)
    · have h := ite_t c8 h
      refine j_iconst C (0 : Int32) (by decide) dX2_demand_20 ?_
      obtain ⟨rfl, rfl⟩ := pr_x h
      exact j_zret C (Or.inl rfl) dX2_demand_21
    · have h := ite_f c8 h
      refine j_iconst C (1 : Int32) (by decide) dX2_demand_16 ?_
      refine j_goto C 21 dX2_demand_17 (by decide) ?_
      obtain ⟨rfl, rfl⟩ := pr_x h
      exact j_zret C (Or.inr rfl) dX2_demand_21
def F_X2_takeNumber_b38 (a1 : Int32) (a2 : Int32)   (D : Dt) : Option (Int32 × Dt) := (cbd (F_X2_fail (1 : Int32) D) (fun r7 D8 => (grd (r7 = 0 ∨ r7 = 1) (some (r7, D8)))))
set_option maxRecDepth 100000 in
set_option maxHeartbeats 4000000 in
theorem T_X2_takeNumber_b38 {r : Int32} {D' : Dt} {X : Ctx} {l : Launch} {G : Gt} {A : Nat → Prop} {lv : Nat} {a1 : Int32} {a2 : Int32}   (hG : Gok G A) (hlv : 2 ≤ lv)   (C : Cx X cX2_takeNumber RX2 G l A lv 4 (some .boolean) (some (.int r)) D')  : ∀  (D : Dt), F_X2_takeNumber_b38 a1 a2  D = some (r, D') → J X (Rep G D) 38 [(0, .ref (ad G (2, 0, 0, 0)))] [] := by
  intro D h
  unfold F_X2_takeNumber_b38 at h
  refine j_aload_n C 0 dX2_takeNumber_38 rfl rfl ?_
  refine j_iconst C (1 : Int32) (by decide) dX2_takeNumber_39 ?_
  obtain ⟨r7, D8, h6, h⟩ := cbd_x h
  refine j_callV C [.int (1 : Int32)] [] cl_X2_95 (M_X2_fail (lv := lv - 1) hG (by omega) h6) (by omega) dX2_takeNumber_40 (by decide) ⟨rfl, rfl⟩ rfl rfl (Nat.le_of_ble_eq_true rfl) ?_
  refine j_st (st' := [.int r7]) rfl ?_
  obtain ⟨g9, h⟩ := grd_x h
  obtain ⟨rfl, rfl⟩ := pr_x h
  exact j_zret C g9 dX2_takeNumber_43
def F_X2_takeNumber_b21 (a1 : Int32) (a2 : Int32)  (l1 : Int32) (l2 : Int32) (l3 : Int32) (D : Dt) : Option (Int32 × Dt) := (if l3 = (2 : Int32) then (F_X2_takeNumber_b38 a1 a2  D) else (cbd (F_X2_number  D) (fun r11 D12 => (cbd (F_X10_within r11 l1 l2 D12) (fun r14 D15 => (if r14 = 0 then (F_X2_takeNumber_b38 a1 a2  D15) else (cbd (F_X2_number  D15) (fun r18 D19 => (bnd (setI D19 (2, 0, 0, 0) 8 r18) (fun D20 => (vbd (F_X2_step  D20) (fun D22 => (some ((1 : Int32), D22))))))))))))))
set_option maxRecDepth 100000 in
set_option maxHeartbeats 4000000 in
theorem T_X2_takeNumber_b21 {r : Int32} {D' : Dt} {X : Ctx} {l : Launch} {G : Gt} {A : Nat → Prop} {lv : Nat} {a1 : Int32} {a2 : Int32}   (hG : Gok G A) (hlv : 2 ≤ lv)   (C : Cx X cX2_takeNumber RX2 G l A lv 4 (some .boolean) (some (.int r)) D')  : ∀ (l1 : Int32) (l2 : Int32) (l3 : Int32) (D : Dt), F_X2_takeNumber_b21 a1 a2 l1 l2 l3 D = some (r, D') → J X (Rep G D) 21 [(0, .ref (ad G (2, 0, 0, 0))), (1, .int l1), (2, .int l2), (3, .int l3)] [] := by
  intro l1 l2 l3 D h
  unfold F_X2_takeNumber_b21 at h
  refine j_iload_n C 3 dX2_takeNumber_21 rfl rfl ?_
  refine j_iconst C (2 : Int32) (by decide) dX2_takeNumber_22 ?_
  refine j_icmp_eq C 38 dX2_takeNumber_23 (by decide) (fun c5 => ?_) (fun c5 => ?_)
  · have h := ite_t c5 h
    refine j_sub [0] [(0, .ref (ad G (2, 0, 0, 0)))] rfl ?_
    refine T_X2_takeNumber_b38 hG hlv  C   D h
  · have h := ite_f c5 h
    refine j_aload_n C 0 dX2_takeNumber_26 rfl rfl ?_
    obtain ⟨r11, D12, h10, h⟩ := cbd_x h
    refine j_callV C [] [] cl_X2_98 (M_X2_number (lv := lv - 1) hG (by omega) h10) (by omega) dX2_takeNumber_27 (by decide) ⟨rfl, rfl⟩ rfl rfl (Nat.le_of_ble_eq_true rfl) ?_
    refine j_st (st' := [.int r11]) rfl ?_
    refine j_iload_n C 1 dX2_takeNumber_30 rfl rfl ?_
    refine j_iload_n C 2 dX2_takeNumber_31 rfl rfl ?_
    obtain ⟨r14, D15, h13, h⟩ := cbd_x h
    refine j_callS C [.int r11, .int l1, .int l2] [] cl_X2_101 (M_X10_within (lv := lv - 1) hG (by omega) h13) (by omega) dX2_takeNumber_32 rfl rfl (Nat.le_of_ble_eq_true rfl) ?_
    refine j_st (st' := [.int r14]) rfl ?_
    refine j_if_ne C 44 dX2_takeNumber_35 (by decide) (fun c16 => ?_) (fun c16 => ?_)
    · have h := ite_f c16 h
      refine j_aload_n C 0 dX2_takeNumber_44 rfl rfl ?_
      refine j_aload_n C 0 dX2_takeNumber_45 rfl rfl ?_
      obtain ⟨r18, D19, h17, h⟩ := cbd_x h
      refine j_callV C [] [.ref (ad G (2, 0, 0, 0))] cl_X2_98 (M_X2_number (lv := lv - 1) hG (by omega) h17) (by omega) dX2_takeNumber_46 (by decide) ⟨rfl, rfl⟩ rfl rfl (Nat.le_of_ble_eq_true rfl) ?_
      refine j_st (st' := [.int r18, .ref (ad G (2, 0, 0, 0))]) rfl ?_
      obtain ⟨D20, eD20, h⟩ := bnd_x h
      refine j_putI C fl_X2_104 dX2_takeNumber_49 (by decide) ⟨rfl, rfl⟩ rfl rfl rfl ?_
      refine j_rep eD20 ?_
      refine j_aload_n C 0 dX2_takeNumber_52 rfl rfl ?_
      obtain ⟨D22, h21, h⟩ := vbd_x h
      refine j_callV C [] [] cl_X2_89 (M_X2_step (lv := lv - 1) hG (by omega) h21) (by omega) dX2_takeNumber_53 (by decide) ⟨rfl, rfl⟩ rfl rfl (Nat.le_of_ble_eq_true rfl) ?_
      refine j_st (st' := []) rfl ?_
      refine j_iconst C (1 : Int32) (by decide) dX2_takeNumber_56 ?_
      obtain ⟨rfl, rfl⟩ := pr_x h
      exact j_zret C (Or.inr rfl) dX2_takeNumber_57
    · have h := ite_t c16 h
      refine j_sub [0] [(0, .ref (ad G (2, 0, 0, 0)))] rfl ?_
      refine T_X2_takeNumber_b38 hG hlv  C   D15 h
def F_X2_takeNumber (a1 : Int32) (a2 : Int32) (D : Dt) : Option (Int32 × Dt) := (cbd (F_X2_sign  D) (fun r2 D3 => (if r2 = (1 : Int32) then (F_X2_takeNumber_b21 a1 a2 a1 a2 r2 D3) else (if r2 = (2 : Int32) then (F_X2_takeNumber_b21 a1 a2 a1 a2 r2 D3) else (cbd (F_X2_fail (0 : Int32) D3) (fun r25 D26 => (grd (r25 = 0 ∨ r25 = 1) (some (r25, D26)))))))))
set_option maxRecDepth 100000 in
set_option maxHeartbeats 4000000 in
theorem M_X2_takeNumber {l : Launch} {G : Gt} {A : Nat → Prop} {lv : Nat} {a1 : Int32} {a2 : Int32} {D : Dt} {r : Int32} {D' : Dt} (hG : Gok G A) (hlv : 2 ≤ lv)  (h : F_X2_takeNumber a1 a2 D = some (r, D')) : MD l G A lv yX2_takeNumber cX2_takeNumber 4 (some .boolean) [.ref (ad G (2, 0, 0, 0)), .int a1, .int a2] D (some (.int r)) D' := by
  unfold F_X2_takeNumber at h
  refine md_start RX2 hG (by decide +kernel) rfl (Nat.le_of_ble_eq_true rfl) (L := [(0, .ref (ad G (2, 0, 0, 0))), (1, .int a1), (2, .int a2)]) rfl (fun X C => ?_)
  refine j_aload_n C 0 dX2_takeNumber_0 rfl rfl ?_
  obtain ⟨r2, D3, h1, h⟩ := cbd_x h
  refine j_callV C [] [] cl_X2_86 (M_X2_sign (lv := lv - 1) hG (by omega) h1) (by omega) dX2_takeNumber_1 (by decide) ⟨rfl, rfl⟩ rfl rfl (Nat.le_of_ble_eq_true rfl) ?_
  refine j_st (st' := [.int r2]) rfl ?_
  refine j_istore_n C [(3, .int r2), (0, .ref (ad G (2, 0, 0, 0))), (1, .int a1), (2, .int a2)] dX2_takeNumber_4 rfl (Nat.le_of_ble_eq_true rfl) rfl rfl ?_
  refine j_iload_n C 0 dX2_takeNumber_5 rfl rfl ?_
  refine j_iconst C (1 : Int32) (by decide) dX2_takeNumber_6 ?_
  refine j_icmp_eq C 21 dX2_takeNumber_7 (by decide) (fun c4 => ?_) (fun c4 => ?_)
  · have h := ite_t c4 h
    refine j_sub [1, 2, 3, 0] [(0, .ref (ad G (2, 0, 0, 0))), (1, .int a1), (2, .int a2), (3, .int r2)] rfl ?_
    refine T_X2_takeNumber_b21 hG hlv  C  a1 a2 r2 D3 h
  · have h := ite_f c4 h
    refine j_iload_n C 0 dX2_takeNumber_10 rfl rfl ?_
    refine j_iconst C (2 : Int32) (by decide) dX2_takeNumber_11 ?_
    refine j_icmp_eq C 21 dX2_takeNumber_12 (by decide) (fun c23 => ?_) (fun c23 => ?_)
    · have h := ite_t c23 h
      refine j_sub [1, 2, 3, 0] [(0, .ref (ad G (2, 0, 0, 0))), (1, .int a1), (2, .int a2), (3, .int r2)] rfl ?_
      refine T_X2_takeNumber_b21 hG hlv  C  a1 a2 r2 D3 h
    · have h := ite_f c23 h
      refine j_aload_n C 1 dX2_takeNumber_15 rfl rfl ?_
      refine j_iconst C (0 : Int32) (by decide) dX2_takeNumber_16 ?_
      obtain ⟨r25, D26, h24, h⟩ := cbd_x h
      refine j_callV C [.int (0 : Int32)] [] cl_X2_95 (M_X2_fail (lv := lv - 1) hG (by omega) h24) (by omega) dX2_takeNumber_17 (by decide) ⟨rfl, rfl⟩ rfl rfl (Nat.le_of_ble_eq_true rfl) ?_
      refine j_st (st' := [.int r25]) rfl ?_
      obtain ⟨g27, h⟩ := grd_x h
      obtain ⟨rfl, rfl⟩ := pr_x h
      exact j_zret C g27 dX2_takeNumber_20
def F_X3_clear (i0 : Nat) (D : Dt) : Option Dt := (grd (V (3, i0, 0, 0) = true) (bnd (setI D (3, i0, 0, 0) 2 (0 : Int32)) (fun D1 => (bnd (setI D1 (3, i0, 0, 0) 6 (0 : Int32)) (fun D2 => (some D2))))))
set_option maxRecDepth 100000 in
set_option maxHeartbeats 4000000 in
theorem M_X3_clear {l : Launch} {G : Gt} {A : Nat → Prop} {lv : Nat} {i0 : Nat} {D : Dt} {D' : Dt} (hG : Gok G A) (hlv : 1 ≤ lv)  (h : F_X3_clear i0 D = some D') : MD l G A lv yX3_clear cX3_clear 1 none [.ref (ad G (3, i0, 0, 0))] D none D' := by
  unfold F_X3_clear at h
  obtain ⟨hv0, h⟩ := grd_x h
  refine md_start RX3 hG (by decide +kernel) rfl (Nat.le_of_ble_eq_true rfl) (L := [(0, .ref (ad G (3, i0, 0, 0)))]) rfl (fun X C => ?_)
  refine j_aload_n C 0 dX3_clear_0 rfl rfl ?_
  refine j_iconst C (0 : Int32) (by decide) dX3_clear_1 ?_
  obtain ⟨D1, eD1, h⟩ := bnd_x h
  refine j_putI C fl_X3_31 dX3_clear_2 hv0 ⟨rfl, rfl⟩ rfl rfl rfl ?_
  refine j_rep eD1 ?_
  refine j_aload_n C 0 dX3_clear_5 rfl rfl ?_
  refine j_iconst C (0 : Int32) (by decide) dX3_clear_6 ?_
  obtain ⟨D2, eD2, h⟩ := bnd_x h
  refine j_putI C fl_X3_35 dX3_clear_7 hv0 ⟨rfl, rfl⟩ rfl rfl rfl ?_
  refine j_rep eD2 ?_
  obtain rfl := Option.some.inj h
  exact j_vret C dX3_clear_10
def F_X3_add (i0 : Nat) (a1 : Int32) (a2 : Int32) (D : Dt) : Option Dt := (grd (V (3, i0, 0, 0) = true) (if (400 : Int32) ≤ (D.1 (3, i0, 0, 0) 2) then (some D) else (grd (inB (D.1 (3, i0, 0, 0) 2) 400 = true) (bnd (setI D (3, i0, 1, 0) ((D.1 (3, i0, 0, 0) 2).toNatClampNeg) a1) (fun D3 => (grd (inB (D3.1 (3, i0, 0, 0) 2) 400 = true) (bnd (setI D3 (3, i0, 2, 0) ((D3.1 (3, i0, 0, 0) 2).toNatClampNeg) a2) (fun D5 => (bnd (setI D5 (3, i0, 0, 0) 2 ((D5.1 (3, i0, 0, 0) 2) + (1 : Int32))) (fun D6 => (some D6)))))))))))
set_option maxRecDepth 100000 in
set_option maxHeartbeats 4000000 in
theorem M_X3_add {l : Launch} {G : Gt} {A : Nat → Prop} {lv : Nat} {i0 : Nat} {a1 : Int32} {a2 : Int32} {D : Dt} {D' : Dt} (hG : Gok G A) (hlv : 1 ≤ lv)  (h : F_X3_add i0 a1 a2 D = some D') : MD l G A lv yX3_add cX3_add 3 none [.ref (ad G (3, i0, 0, 0)), .int a1, .int a2] D none D' := by
  unfold F_X3_add at h
  obtain ⟨hv0, h⟩ := grd_x h
  refine md_start RX3 hG (by decide +kernel) rfl (Nat.le_of_ble_eq_true rfl) (L := [(0, .ref (ad G (3, i0, 0, 0))), (1, .int a1), (2, .int a2)]) rfl (fun X C => ?_)
  refine j_aload_n C 0 dX3_add_0 rfl rfl ?_
  refine j_getI C fl_X3_31 dX3_add_1 hv0 ⟨rfl, rfl⟩ rfl ?_
  refine j_sipush C (400 : Int32) (by decide) dX3_add_4 ?_
  refine j_icmp_ge C 40 dX3_add_7 (by decide) (fun c1 => ?_) (fun c1 => ?_)
  · have h := ite_t c1 h
    obtain rfl := Option.some.inj h
    exact j_vret C dX3_add_40
  · have h := ite_f c1 h
    refine j_aload_n C 0 dX3_add_10 rfl rfl ?_
    refine j_getS C (3, i0, 1, 0) fl_X3_9 dX3_add_11 hv0 ⟨rfl, rfl⟩ rfl rfl ?_
    refine j_aload_n C 0 dX3_add_14 rfl rfl ?_
    refine j_getI C fl_X3_31 dX3_add_15 hv0 ⟨rfl, rfl⟩ rfl ?_
    refine j_iload_n C 1 dX3_add_18 rfl rfl ?_
    obtain ⟨g2, h⟩ := grd_x h
    obtain ⟨D3, eD3, h⟩ := bnd_x h
    refine j_iastK C 400 ((D.1 (3, i0, 0, 0) 2).toNatClampNeg) dX3_add_19 (V_f 0 hv0 (by decide)) rfl g2 rfl ?_
    refine j_rep eD3 ?_
    refine j_aload_n C 0 dX3_add_20 rfl rfl ?_
    refine j_getS C (3, i0, 2, 0) fl_X3_15 dX3_add_21 hv0 ⟨rfl, rfl⟩ rfl rfl ?_
    refine j_aload_n C 0 dX3_add_24 rfl rfl ?_
    refine j_getI C fl_X3_31 dX3_add_25 hv0 ⟨rfl, rfl⟩ rfl ?_
    refine j_iload_n C 2 dX3_add_28 rfl rfl ?_
    obtain ⟨g4, h⟩ := grd_x h
    obtain ⟨D5, eD5, h⟩ := bnd_x h
    refine j_iastK C 400 ((D3.1 (3, i0, 0, 0) 2).toNatClampNeg) dX3_add_29 (V_f 1 hv0 (by decide)) rfl g4 rfl ?_
    refine j_rep eD5 ?_
    refine j_aload_n C 0 dX3_add_30 rfl rfl ?_
    refine j_dup C rfl dX3_add_31 ?_
    refine j_getI C fl_X3_31 dX3_add_32 hv0 ⟨rfl, rfl⟩ rfl ?_
    refine j_iconst C (1 : Int32) (by decide) dX3_add_35 ?_
    refine j_iadd C dX3_add_36 ?_
    obtain ⟨D6, eD6, h⟩ := bnd_x h
    refine j_putI C fl_X3_31 dX3_add_37 hv0 ⟨rfl, rfl⟩ rfl rfl rfl ?_
    refine j_rep eD6 ?_
    obtain rfl := Option.some.inj h
    exact j_vret C dX3_add_40
def F_X3_addClause (i0 : Nat) (a1 : Int32) (a2 : Int32) (D : Dt) : Option Dt := (grd (V (3, i0, 0, 0) = true) (if (12 : Int32) ≤ (D.1 (3, i0, 0, 0) 6) then (some D) else (grd (inB (D.1 (3, i0, 0, 0) 6) 12 = true) (bnd (setI D (3, i0, 4, 0) ((D.1 (3, i0, 0, 0) 6).toNatClampNeg) a1) (fun D3 => (grd (inB (D3.1 (3, i0, 0, 0) 6) 12 = true) (bnd (setI D3 (3, i0, 5, 0) ((D3.1 (3, i0, 0, 0) 6).toNatClampNeg) a2) (fun D5 => (grd (inB (D5.1 (3, i0, 0, 0) 6) 12 = true) (bnd (setI D5 (3, i0, 6, 0) ((D5.1 (3, i0, 0, 0) 6).toNatClampNeg) (D5.1 (3, i0, 0, 0) 2)) (fun D7 => (bnd (setI D7 (3, i0, 0, 0) 6 ((D7.1 (3, i0, 0, 0) 6) + (1 : Int32))) (fun D8 => (some D8))))))))))))))
set_option maxRecDepth 100000 in
set_option maxHeartbeats 4000000 in
theorem M_X3_addClause {l : Launch} {G : Gt} {A : Nat → Prop} {lv : Nat} {i0 : Nat} {a1 : Int32} {a2 : Int32} {D : Dt} {D' : Dt} (hG : Gok G A) (hlv : 1 ≤ lv)  (h : F_X3_addClause i0 a1 a2 D = some D') : MD l G A lv yX3_addClause cX3_addClause 3 none [.ref (ad G (3, i0, 0, 0)), .int a1, .int a2] D none D' := by
  unfold F_X3_addClause at h
  obtain ⟨hv0, h⟩ := grd_x h
  refine md_start RX3 hG (by decide +kernel) rfl (Nat.le_of_ble_eq_true rfl) (L := [(0, .ref (ad G (3, i0, 0, 0))), (1, .int a1), (2, .int a2)]) rfl (fun X C => ?_)
  refine j_aload_n C 0 dX3_addClause_0 rfl rfl ?_
  refine j_getI C fl_X3_35 dX3_addClause_1 hv0 ⟨rfl, rfl⟩ rfl ?_
  refine j_bipush C (12 : Int32) (by decide) dX3_addClause_4 ?_
  refine j_icmp_ge C 52 dX3_addClause_6 (by decide) (fun c1 => ?_) (fun c1 => ?_)
  · have h := ite_t c1 h
    obtain rfl := Option.some.inj h
    exact j_vret C dX3_addClause_52
  · have h := ite_f c1 h
    refine j_aload_n C 0 dX3_addClause_9 rfl rfl ?_
    refine j_getS C (3, i0, 4, 0) fl_X3_18 dX3_addClause_10 hv0 ⟨rfl, rfl⟩ rfl rfl ?_
    refine j_aload_n C 0 dX3_addClause_13 rfl rfl ?_
    refine j_getI C fl_X3_35 dX3_addClause_14 hv0 ⟨rfl, rfl⟩ rfl ?_
    refine j_iload_n C 1 dX3_addClause_17 rfl rfl ?_
    obtain ⟨g2, h⟩ := grd_x h
    obtain ⟨D3, eD3, h⟩ := bnd_x h
    refine j_iastK C 12 ((D.1 (3, i0, 0, 0) 6).toNatClampNeg) dX3_addClause_18 (V_f 3 hv0 (by decide)) rfl g2 rfl ?_
    refine j_rep eD3 ?_
    refine j_aload_n C 0 dX3_addClause_19 rfl rfl ?_
    refine j_getS C (3, i0, 5, 0) fl_X3_21 dX3_addClause_20 hv0 ⟨rfl, rfl⟩ rfl rfl ?_
    refine j_aload_n C 0 dX3_addClause_23 rfl rfl ?_
    refine j_getI C fl_X3_35 dX3_addClause_24 hv0 ⟨rfl, rfl⟩ rfl ?_
    refine j_iload_n C 2 dX3_addClause_27 rfl rfl ?_
    obtain ⟨g4, h⟩ := grd_x h
    obtain ⟨D5, eD5, h⟩ := bnd_x h
    refine j_iastK C 12 ((D3.1 (3, i0, 0, 0) 6).toNatClampNeg) dX3_addClause_28 (V_f 4 hv0 (by decide)) rfl g4 rfl ?_
    refine j_rep eD5 ?_
    refine j_aload_n C 0 dX3_addClause_29 rfl rfl ?_
    refine j_getS C (3, i0, 6, 0) fl_X3_24 dX3_addClause_30 hv0 ⟨rfl, rfl⟩ rfl rfl ?_
    refine j_aload_n C 0 dX3_addClause_33 rfl rfl ?_
    refine j_getI C fl_X3_35 dX3_addClause_34 hv0 ⟨rfl, rfl⟩ rfl ?_
    refine j_aload_n C 0 dX3_addClause_37 rfl rfl ?_
    refine j_getI C fl_X3_31 dX3_addClause_38 hv0 ⟨rfl, rfl⟩ rfl ?_
    obtain ⟨g6, h⟩ := grd_x h
    obtain ⟨D7, eD7, h⟩ := bnd_x h
    refine j_iastK C 12 ((D5.1 (3, i0, 0, 0) 6).toNatClampNeg) dX3_addClause_41 (V_f 5 hv0 (by decide)) rfl g6 rfl ?_
    refine j_rep eD7 ?_
    refine j_aload_n C 0 dX3_addClause_42 rfl rfl ?_
    refine j_dup C rfl dX3_addClause_43 ?_
    refine j_getI C fl_X3_35 dX3_addClause_44 hv0 ⟨rfl, rfl⟩ rfl ?_
    refine j_iconst C (1 : Int32) (by decide) dX3_addClause_47 ?_
    refine j_iadd C dX3_addClause_48 ?_
    obtain ⟨D8, eD8, h⟩ := bnd_x h
    refine j_putI C fl_X3_35 dX3_addClause_49 hv0 ⟨rfl, rfl⟩ rfl rfl rfl ?_
    refine j_rep eD8 ?_
    obtain rfl := Option.some.inj h
    exact j_vret C dX3_addClause_52
def F_X4_readValue_b115 (a1 : Nat)  (s1 : Int32) (s2 : Int32) (D : Dt) : Option (Int32 × Dt) := (vbd (F_X3_add a1 s1 s2 D) (fun D15 => (vbd (F_X2_step  D15) (fun D17 => (some ((1 : Int32), D17))))))
set_option maxRecDepth 100000 in
set_option maxHeartbeats 4000000 in
theorem T_X4_readValue_b115 {r : Int32} {D' : Dt} {X : Ctx} {l : Launch} {G : Gt} {A : Nat → Prop} {lv : Nat} {a1 : Nat}   (hG : Gok G A) (hlv : 2 ≤ lv) (hv1 : V (3, a1, 0, 0) = true)  (C : Cx X cX4_readValue RX4 G l A lv 4 (some .boolean) (some (.int r)) D')  : ∀ (s1 : Int32) (s2 : Int32) (D : Dt), F_X4_readValue_b115 a1 s1 s2 D = some (r, D') → J X (Rep G D) 115 [(0, .ref (ad G (4, 0, 0, 0)))] [.int s2, .int s1, .ref (ad G (3, a1, 0, 0))] := by
  intro s1 s2 D h
  unfold F_X4_readValue_b115 at h
  obtain ⟨D15, h14, h⟩ := vbd_x h
  refine j_callV C [.int s1, .int s2] [] cl_X4_67 (M_X3_add (lv := lv - 1) hG (by omega) h14) (by omega) dX4_readValue_115 hv1 ⟨rfl, rfl⟩ rfl rfl (Nat.le_of_ble_eq_true rfl) ?_
  refine j_st (st' := []) rfl ?_
  refine j_aload_n C 0 dX4_readValue_118 rfl rfl ?_
  refine j_getS C (2, 0, 0, 0) fl_X4_9 dX4_readValue_119 (by decide) ⟨rfl, rfl⟩ rfl rfl ?_
  obtain ⟨D17, h16, h⟩ := vbd_x h
  refine j_callV C [] [] cl_X4_64 (M_X2_step (lv := lv - 1) hG (by omega) h16) (by omega) dX4_readValue_122 (by decide) ⟨rfl, rfl⟩ rfl rfl (Nat.le_of_ble_eq_true rfl) ?_
  refine j_st (st' := []) rfl ?_
  refine j_iconst C (1 : Int32) (by decide) dX4_readValue_125 ?_
  obtain ⟨rfl, rfl⟩ := pr_x h
  exact j_zret C (Or.inr rfl) dX4_readValue_126
def F_X4_readValue_b97 (a1 : Nat)  (l2 : Int32) (l3 : Int32) (s1 : Int32) (D : Dt) : Option (Int32 × Dt) := (if l3 = 0 then (cbd (F_X2_number  D) (fun r12 D13 => (F_X4_readValue_b115 a1 s1 r12 D13))) else (F_X4_readValue_b115 a1 s1 (l2 - (20 : Int32)) D))
set_option maxRecDepth 100000 in
set_option maxHeartbeats 4000000 in
theorem T_X4_readValue_b97 {r : Int32} {D' : Dt} {X : Ctx} {l : Launch} {G : Gt} {A : Nat → Prop} {lv : Nat} {a1 : Nat}   (hG : Gok G A) (hlv : 2 ≤ lv) (hv1 : V (3, a1, 0, 0) = true)  (C : Cx X cX4_readValue RX4 G l A lv 4 (some .boolean) (some (.int r)) D')  : ∀ (l2 : Int32) (l3 : Int32) (s1 : Int32) (D : Dt), F_X4_readValue_b97 a1 l2 l3 s1 D = some (r, D') → J X (Rep G D) 97 [(0, .ref (ad G (4, 0, 0, 0))), (2, .int l2), (3, .int l3)] [.int s1, .ref (ad G (3, a1, 0, 0))] := by
  intro l2 l3 s1 D h
  unfold F_X4_readValue_b97 at h
  refine j_iload_n C 2 dX4_readValue_97 rfl rfl ?_
  refine j_if_eq C 108 dX4_readValue_98 (by decide) (fun c10 => ?_) (fun c10 => ?_)
  · have h := ite_t c10 h
    refine j_aload_n C 0 dX4_readValue_108 rfl rfl ?_
    refine j_getS C (2, 0, 0, 0) fl_X4_9 dX4_readValue_109 (by decide) ⟨rfl, rfl⟩ rfl rfl ?_
    obtain ⟨r12, D13, h11, h⟩ := cbd_x h
    refine j_callV C [] [.int s1, .ref (ad G (3, a1, 0, 0))] cl_X4_76 (M_X2_number (lv := lv - 1) hG (by omega) h11) (by omega) dX4_readValue_112 (by decide) ⟨rfl, rfl⟩ rfl rfl (Nat.le_of_ble_eq_true rfl) ?_
    refine j_st (st' := [.int r12, .int s1, .ref (ad G (3, a1, 0, 0))]) rfl ?_
    refine j_sub [0] [(0, .ref (ad G (4, 0, 0, 0)))] rfl ?_
    refine T_X4_readValue_b115 hG hlv hv1 C  s1 r12 D13 h
  · have h := ite_f c10 h
    refine j_iload_n C 1 dX4_readValue_101 rfl rfl ?_
    refine j_bipush C (20 : Int32) (by decide) dX4_readValue_102 ?_
    refine j_isub C dX4_readValue_104 ?_
    refine j_goto C 115 dX4_readValue_105 (by decide) ?_
    refine j_sub [0] [(0, .ref (ad G (4, 0, 0, 0)))] rfl ?_
    refine T_X4_readValue_b115 hG hlv hv1 C  s1 (l2 - (20 : Int32)) D h
def F_X4_readValue_b58 (a1 : Nat)  (l2 : Int32) (l3 : Int32) (D : Dt) : Option (Int32 × Dt) := (if (D.1 (4, 0, 0, 0) 1) < (60 : Int32) then (bnd (setI D (4, 0, 0, 0) 1 ((D.1 (4, 0, 0, 0) 1) + (1 : Int32))) (fun D8 => (if l3 = 0 then (F_X4_readValue_b97 a1 l2 l3 (1 : Int32) D8) else (F_X4_readValue_b97 a1 l2 l3 (20 : Int32) D8)))) else (cbd (F_X2_fail (3 : Int32) D) (fun r19 D20 => (grd (r19 = 0 ∨ r19 = 1) (some (r19, D20))))))
set_option maxRecDepth 100000 in
set_option maxHeartbeats 4000000 in
theorem T_X4_readValue_b58 {r : Int32} {D' : Dt} {X : Ctx} {l : Launch} {G : Gt} {A : Nat → Prop} {lv : Nat} {a1 : Nat}   (hG : Gok G A) (hlv : 2 ≤ lv) (hv1 : V (3, a1, 0, 0) = true)  (C : Cx X cX4_readValue RX4 G l A lv 4 (some .boolean) (some (.int r)) D')  : ∀ (l2 : Int32) (l3 : Int32) (D : Dt), F_X4_readValue_b58 a1 l2 l3 D = some (r, D') → J X (Rep G D) 58 [(0, .ref (ad G (4, 0, 0, 0))), (1, .ref (ad G (3, a1, 0, 0))), (2, .int l2), (3, .int l3)] [] := by
  intro l2 l3 D h
  unfold F_X4_readValue_b58 at h
  refine j_aload_n C 0 dX4_readValue_58 rfl rfl ?_
  refine j_getI C fl_X4_20 dX4_readValue_59 (by decide) ⟨rfl, rfl⟩ rfl ?_
  refine j_bipush C (60 : Int32) (by decide) dX4_readValue_62 ?_
  refine j_icmp_lt C 76 dX4_readValue_64 (by decide) (fun c7 => ?_) (fun c7 => ?_)
  · have h := ite_t c7 h
    refine j_aload_n C 0 dX4_readValue_76 rfl rfl ?_
    refine j_dup C rfl dX4_readValue_77 ?_
    refine j_getI C fl_X4_20 dX4_readValue_78 (by decide) ⟨rfl, rfl⟩ rfl ?_
    refine j_iconst C (1 : Int32) (by decide) dX4_readValue_81 ?_
    refine j_iadd C dX4_readValue_82 ?_
    obtain ⟨D8, eD8, h⟩ := bnd_x h
    refine j_putI C fl_X4_20 dX4_readValue_83 (by decide) ⟨rfl, rfl⟩ rfl rfl rfl ?_
    refine j_rep eD8 ?_
    refine j_aload_n C 1 dX4_readValue_86 rfl rfl ?_
    refine j_iload_n C 3 dX4_readValue_87 rfl rfl ?_
    refine j_if_eq C 96 dX4_readValue_88 (by decide) (fun c9 => ?_) (fun c9 => ?_)
    · have h := ite_t c9 h
      refine j_iconst C (1 : Int32) (by decide) dX4_readValue_96 ?_
      refine j_sub [0, 2, 3] [(0, .ref (ad G (4, 0, 0, 0))), (2, .int l2), (3, .int l3)] rfl ?_
      refine T_X4_readValue_b97 hG hlv hv1 C  l2 l3 (1 : Int32) D8 h
    · have h := ite_f c9 h
      refine j_bipush C (20 : Int32) (by decide) dX4_readValue_91 ?_
      refine j_goto C 97 dX4_readValue_93 (by decide) ?_
      refine j_sub [0, 2, 3] [(0, .ref (ad G (4, 0, 0, 0))), (2, .int l2), (3, .int l3)] rfl ?_
      refine T_X4_readValue_b97 hG hlv hv1 C  l2 l3 (20 : Int32) D8 h
  · have h := ite_f c7 h
    refine j_aload_n C 0 dX4_readValue_67 rfl rfl ?_
    refine j_getS C (2, 0, 0, 0) fl_X4_9 dX4_readValue_68 (by decide) ⟨rfl, rfl⟩ rfl rfl ?_
    refine j_iconst C (3 : Int32) (by decide) dX4_readValue_71 ?_
    obtain ⟨r19, D20, h18, h⟩ := cbd_x h
    refine j_callV C [.int (3 : Int32)] [] cl_X4_58 (M_X2_fail (lv := lv - 1) hG (by omega) h18) (by omega) dX4_readValue_72 (by decide) ⟨rfl, rfl⟩ rfl rfl (Nat.le_of_ble_eq_true rfl) ?_
    refine j_st (st' := [.int r19]) rfl ?_
    obtain ⟨g21, h⟩ := grd_x h
    obtain ⟨rfl, rfl⟩ := pr_x h
    exact j_zret C g21 dX4_readValue_75
def F_X4_readValue_b39 (a1 : Nat)  (l2 : Int32) (s0 : Int32) (D : Dt) : Option (Int32 × Dt) := (if l2 = (1 : Int32) then (F_X4_readValue_b58 a1 l2 s0 D) else (if s0 = 0 then (cbd (F_X2_fail (0 : Int32) D) (fun r24 D25 => (grd (r24 = 0 ∨ r24 = 1) (some (r24, D25))))) else (F_X4_readValue_b58 a1 l2 s0 D)))
set_option maxRecDepth 100000 in
set_option maxHeartbeats 4000000 in
theorem T_X4_readValue_b39 {r : Int32} {D' : Dt} {X : Ctx} {l : Launch} {G : Gt} {A : Nat → Prop} {lv : Nat} {a1 : Nat}   (hG : Gok G A) (hlv : 2 ≤ lv) (hv1 : V (3, a1, 0, 0) = true)  (C : Cx X cX4_readValue RX4 G l A lv 4 (some .boolean) (some (.int r)) D')  : ∀ (l2 : Int32) (s0 : Int32) (D : Dt), F_X4_readValue_b39 a1 l2 s0 D = some (r, D') → J X (Rep G D) 39 [(0, .ref (ad G (4, 0, 0, 0))), (1, .ref (ad G (3, a1, 0, 0))), (2, .int l2)] [.int s0] := by
  intro l2 s0 D h
  unfold F_X4_readValue_b39 at h
  refine j_istore_n C [(3, .int s0), (0, .ref (ad G (4, 0, 0, 0))), (1, .ref (ad G (3, a1, 0, 0))), (2, .int l2)] dX4_readValue_39 rfl (Nat.le_of_ble_eq_true rfl) rfl rfl ?_
  refine j_iload_n C 3 dX4_readValue_40 rfl rfl ?_
  refine j_iconst C (1 : Int32) (by decide) dX4_readValue_41 ?_
  refine j_icmp_eq C 58 dX4_readValue_42 (by decide) (fun c6 => ?_) (fun c6 => ?_)
  · have h := ite_t c6 h
    refine j_sub [1, 2, 3, 0] [(0, .ref (ad G (4, 0, 0, 0))), (1, .ref (ad G (3, a1, 0, 0))), (2, .int l2), (3, .int s0)] rfl ?_
    refine T_X4_readValue_b58 hG hlv hv1 C  l2 s0 D h
  · have h := ite_f c6 h
    refine j_iload_n C 0 dX4_readValue_45 rfl rfl ?_
    refine j_if_ne C 58 dX4_readValue_46 (by decide) (fun c22 => ?_) (fun c22 => ?_)
    · have h := ite_f c22 h
      refine j_sub [1, 2, 3, 0] [(0, .ref (ad G (4, 0, 0, 0))), (1, .ref (ad G (3, a1, 0, 0))), (2, .int l2), (3, .int s0)] rfl ?_
      refine T_X4_readValue_b58 hG hlv hv1 C  l2 s0 D h
    · have h := ite_t c22 h
      refine j_aload_n C 1 dX4_readValue_49 rfl rfl ?_
      refine j_getS C (2, 0, 0, 0) fl_X4_9 dX4_readValue_50 (by decide) ⟨rfl, rfl⟩ rfl rfl ?_
      refine j_iconst C (0 : Int32) (by decide) dX4_readValue_53 ?_
      obtain ⟨r24, D25, h23, h⟩ := cbd_x h
      refine j_callV C [.int (0 : Int32)] [] cl_X4_58 (M_X2_fail (lv := lv - 1) hG (by omega) h23) (by omega) dX4_readValue_54 (by decide) ⟨rfl, rfl⟩ rfl rfl (Nat.le_of_ble_eq_true rfl) ?_
      refine j_st (st' := [.int r24]) rfl ?_
      obtain ⟨g26, h⟩ := grd_x h
      obtain ⟨rfl, rfl⟩ := pr_x h
      exact j_zret C g26 dX4_readValue_57
def F_X4_readValue_b38 (a1 : Nat)  (l2 : Int32) (D : Dt) : Option (Int32 × Dt) := (F_X4_readValue_b39 a1 l2 (0 : Int32) D)
set_option maxRecDepth 100000 in
set_option maxHeartbeats 4000000 in
theorem T_X4_readValue_b38 {r : Int32} {D' : Dt} {X : Ctx} {l : Launch} {G : Gt} {A : Nat → Prop} {lv : Nat} {a1 : Nat}   (hG : Gok G A) (hlv : 2 ≤ lv) (hv1 : V (3, a1, 0, 0) = true)  (C : Cx X cX4_readValue RX4 G l A lv 4 (some .boolean) (some (.int r)) D')  : ∀ (l2 : Int32) (D : Dt), F_X4_readValue_b38 a1 l2 D = some (r, D') → J X (Rep G D) 38 [(0, .ref (ad G (4, 0, 0, 0))), (1, .ref (ad G (3, a1, 0, 0))), (2, .int l2)] [] := by
  intro l2 D h
  unfold F_X4_readValue_b38 at h
  refine j_iconst C (0 : Int32) (by decide) dX4_readValue_38 ?_
  refine T_X4_readValue_b39 hG hlv hv1 C  l2 (0 : Int32) D h
def F_X4_readValue (a1 : Nat) (D : Dt) : Option (Int32 × Dt) := (grd (V (3, a1, 0, 0) = true) (cbd (F_X2_sign  D) (fun r2 D3 => (if r2 = (2 : Int32) then (cbd (F_X2_fail (1 : Int32) D3) (fun r29 D30 => (grd (r29 = 0 ∨ r29 = 1) (some (r29, D30))))) else (if r2 < (20 : Int32) then (F_X4_readValue_b38 a1 r2 D3) else (if (32 : Int32) ≤ r2 then (F_X4_readValue_b38 a1 r2 D3) else (F_X4_readValue_b39 a1 r2 (1 : Int32) D3)))))))
set_option maxRecDepth 100000 in
set_option maxHeartbeats 4000000 in
theorem M_X4_readValue {l : Launch} {G : Gt} {A : Nat → Prop} {lv : Nat} {a1 : Nat} {D : Dt} {r : Int32} {D' : Dt} (hG : Gok G A) (hlv : 2 ≤ lv)  (h : F_X4_readValue a1 D = some (r, D')) : MD l G A lv yX4_readValue cX4_readValue 4 (some .boolean) [.ref (ad G (4, 0, 0, 0)), .ref (ad G (3, a1, 0, 0))] D (some (.int r)) D' := by
  unfold F_X4_readValue at h
  obtain ⟨hv1, h⟩ := grd_x h
  refine md_start RX4 hG (by decide +kernel) rfl (Nat.le_of_ble_eq_true rfl) (L := [(0, .ref (ad G (4, 0, 0, 0))), (1, .ref (ad G (3, a1, 0, 0)))]) rfl (fun X C => ?_)
  refine j_aload_n C 0 dX4_readValue_0 rfl rfl ?_
  refine j_getS C (2, 0, 0, 0) fl_X4_9 dX4_readValue_1 (by decide) ⟨rfl, rfl⟩ rfl rfl ?_
  obtain ⟨r2, D3, h1, h⟩ := cbd_x h
  refine j_callV C [] [] cl_X4_51 (M_X2_sign (lv := lv - 1) hG (by omega) h1) (by omega) dX4_readValue_4 (by decide) ⟨rfl, rfl⟩ rfl rfl (Nat.le_of_ble_eq_true rfl) ?_
  refine j_st (st' := [.int r2]) rfl ?_
  refine j_istore_n C [(2, .int r2), (0, .ref (ad G (4, 0, 0, 0))), (1, .ref (ad G (3, a1, 0, 0)))] dX4_readValue_7 rfl (Nat.le_of_ble_eq_true rfl) rfl rfl ?_
  refine j_iload_n C 0 dX4_readValue_8 rfl rfl ?_
  refine j_iconst C (2 : Int32) (by decide) dX4_readValue_9 ?_
  refine j_icmp_ne C 22 dX4_readValue_10 (by decide) (fun c4 => ?_) (fun c4 => ?_)
  · have h := ite_f c4 h
    refine j_iload_n C 0 dX4_readValue_22 rfl rfl ?_
    refine j_bipush C (20 : Int32) (by decide) dX4_readValue_23 ?_
    refine j_icmp_lt C 38 dX4_readValue_25 (by decide) (fun c5 => ?_) (fun c5 => ?_)
    · have h := ite_t c5 h
      refine j_sub [1, 2, 0] [(0, .ref (ad G (4, 0, 0, 0))), (1, .ref (ad G (3, a1, 0, 0))), (2, .int r2)] rfl ?_
      refine T_X4_readValue_b38 hG hlv hv1 C  r2 D3 h
    · have h := ite_f c5 h
      refine j_iload_n C 0 dX4_readValue_28 rfl rfl ?_
      refine j_bipush C (32 : Int32) (by decide) dX4_readValue_29 ?_
      refine j_icmp_ge C 38 dX4_readValue_31 (by decide) (fun c27 => ?_) (fun c27 => ?_)
      · have h := ite_t c27 h
        refine j_sub [1, 2, 0] [(0, .ref (ad G (4, 0, 0, 0))), (1, .ref (ad G (3, a1, 0, 0))), (2, .int r2)] rfl ?_
        refine T_X4_readValue_b38 hG hlv hv1 C  r2 D3 h
      · have h := ite_f c27 h
        refine j_iconst C (1 : Int32) (by decide) dX4_readValue_34 ?_
        refine j_goto C 39 dX4_readValue_35 (by decide) ?_
        refine j_sub [1, 2, 0] [(0, .ref (ad G (4, 0, 0, 0))), (1, .ref (ad G (3, a1, 0, 0))), (2, .int r2)] rfl ?_
        refine T_X4_readValue_b39 hG hlv hv1 C  r2 (1 : Int32) D3 h
  · have h := ite_t c4 h
    refine j_aload_n C 1 dX4_readValue_13 rfl rfl ?_
    refine j_getS C (2, 0, 0, 0) fl_X4_9 dX4_readValue_14 (by decide) ⟨rfl, rfl⟩ rfl rfl ?_
    refine j_iconst C (1 : Int32) (by decide) dX4_readValue_17 ?_
    obtain ⟨r29, D30, h28, h⟩ := cbd_x h
    refine j_callV C [.int (1 : Int32)] [] cl_X4_58 (M_X2_fail (lv := lv - 1) hG (by omega) h28) (by omega) dX4_readValue_18 (by decide) ⟨rfl, rfl⟩ rfl rfl (Nat.le_of_ble_eq_true rfl) ?_
    refine j_st (st' := [.int r29]) rfl ?_
    obtain ⟨g31, h⟩ := grd_x h
    obtain ⟨rfl, rfl⟩ := pr_x h
    exact j_zret C g31 dX4_readValue_21
def F_X4_readSum_b118 (a1 : Nat) (k14 : Int32 → Int32 → Dt → Option (Int32 × Dt)) (l2 : Int32) (l3 : Int32) (D : Dt) : Option (Int32 × Dt) := (bnd (l3 + (1 : Int32)) (fun v22 => (k14 l2 v22 D)))
set_option maxRecDepth 100000 in
set_option maxHeartbeats 4000000 in
theorem T_X4_readSum_b118 {r : Int32} {D' : Dt} {X : Ctx} {l : Launch} {G : Gt} {A : Nat → Prop} {lv : Nat} {a1 : Nat}  {k14 : Int32 → Int32 → Dt → Option (Int32 × Dt)} (hG : Gok G A) (hlv : 3 ≤ lv) (hv1 : V (3, a1, 0, 0) = true)  (C : Cx X cX4_readSum RX4 G l A lv 6 (some .boolean) (some (.int r)) D') (hk14 : ∀ (l2 : Int32) (l3 : Int32) (D : Dt), k14 l2 l3 D = some (r, D') → J X (Rep G D) 14 [(0, .ref (ad G (4, 0, 0, 0))), (1, .ref (ad G (3, a1, 0, 0))), (2, .int l2), (3, .int l3)] []) : ∀ (l2 : Int32) (l3 : Int32) (D : Dt), F_X4_readSum_b118 a1 k14 l2 l3 D = some (r, D') → J X (Rep G D) 118 [(0, .ref (ad G (4, 0, 0, 0))), (1, .ref (ad G (3, a1, 0, 0))), (2, .int l2), (3, .int l3)] [] := by
  intro l2 l3 D h
  unfold F_X4_readSum_b118 at h
  obtain ⟨v22, ev22, h⟩ := bnd_x h
  refine j_iinc C 3 [(3, .int v22), (0, .ref (ad G (4, 0, 0, 0))), (1, .ref (ad G (3, a1, 0, 0))), (2, .int l2)] dX4_readSum_118 rfl (Nat.le_of_ble_eq_true rfl) (ev22.trans (congrArg (l3 + ·) (by decide))) rfl ?_
  refine j_goto C 14 dX4_readSum_121 (by decide) ?_
  refine j_sub [1, 2, 3, 0] [(0, .ref (ad G (4, 0, 0, 0))), (1, .ref (ad G (3, a1, 0, 0))), (2, .int l2), (3, .int v22)] rfl ?_
  exact hk14 l2 v22 D h
def F_X4_readSum_b90 (a1 : Nat) (k14 : Int32 → Int32 → Dt → Option (Int32 × Dt)) (l2 : Int32) (l3 : Int32) (l4 : Int32) (l5 : Int32) (D : Dt) : Option (Int32 × Dt) := (cbd (F_X4_readValue a1 D) (fun r16 D17 => (if r16 = 0 then (some ((0 : Int32), D17)) else (if l5 = 0 then (vbd (F_X3_add a1 l4 (0 : Int32) D17) (fun D21 => (F_X4_readSum_b118 a1 (fun l2_23 l3_24 D25 => (k14 l2_23 l3_24 D25)) l2 l3 D21))) else (F_X4_readSum_b118 a1 (fun l2_26 l3_27 D28 => (k14 l2_26 l3_27 D28)) l4 l3 D17)))))
set_option maxRecDepth 100000 in
set_option maxHeartbeats 4000000 in
theorem T_X4_readSum_b90 {r : Int32} {D' : Dt} {X : Ctx} {l : Launch} {G : Gt} {A : Nat → Prop} {lv : Nat} {a1 : Nat}  {k14 : Int32 → Int32 → Dt → Option (Int32 × Dt)} (hG : Gok G A) (hlv : 3 ≤ lv) (hv1 : V (3, a1, 0, 0) = true)  (C : Cx X cX4_readSum RX4 G l A lv 6 (some .boolean) (some (.int r)) D') (hk14 : ∀ (l2 : Int32) (l3 : Int32) (D : Dt), k14 l2 l3 D = some (r, D') → J X (Rep G D) 14 [(0, .ref (ad G (4, 0, 0, 0))), (1, .ref (ad G (3, a1, 0, 0))), (2, .int l2), (3, .int l3)] []) : ∀ (l2 : Int32) (l3 : Int32) (l4 : Int32) (l5 : Int32) (D : Dt), F_X4_readSum_b90 a1 k14 l2 l3 l4 l5 D = some (r, D') → J X (Rep G D) 90 [(0, .ref (ad G (4, 0, 0, 0))), (1, .ref (ad G (3, a1, 0, 0))), (2, .int l2), (3, .int l3), (4, .int l4), (5, .int l5)] [] := by
  intro l2 l3 l4 l5 D h
  unfold F_X4_readSum_b90 at h
  refine j_aload_n C 0 dX4_readSum_90 rfl rfl ?_
  refine j_aload_n C 1 dX4_readSum_91 rfl rfl ?_
  obtain ⟨r16, D17, h15, h⟩ := cbd_x h
  refine j_callV C [.ref (ad G (3, a1, 0, 0))] [] cl_X4_73 (M_X4_readValue (lv := lv - 1) hG (by omega) h15) (by omega) dX4_readSum_92 (by decide) ⟨rfl, rfl⟩ rfl rfl (Nat.le_of_ble_eq_true rfl) ?_
  refine j_st (st' := [.int r16]) rfl ?_
  refine j_if_ne C 100 dX4_readSum_95 (by decide) (fun c18 => ?_) (fun c18 => ?_)
  · have h := ite_f c18 h
    refine j_iload C 5 dX4_readSum_100 rfl ?_
    refine j_if_eq C 111 dX4_readSum_102 (by decide) (fun c19 => ?_) (fun c19 => ?_)
    · have h := ite_t c19 h
      refine j_aload_n C 1 dX4_readSum_111 rfl rfl ?_
      refine j_iload C 4 dX4_readSum_112 rfl ?_
      refine j_iconst C (0 : Int32) (by decide) dX4_readSum_114 ?_
      obtain ⟨D21, h20, h⟩ := vbd_x h
      refine j_callV C [.int l4, .int (0 : Int32)] [] cl_X4_67 (M_X3_add (lv := lv - 1) hG (by omega) h20) (by omega) dX4_readSum_115 hv1 ⟨rfl, rfl⟩ rfl rfl (Nat.le_of_ble_eq_true rfl) ?_
      refine j_st (st' := []) rfl ?_
      refine j_sub [0, 1, 2, 3] [(0, .ref (ad G (4, 0, 0, 0))), (1, .ref (ad G (3, a1, 0, 0))), (2, .int l2), (3, .int l3)] rfl ?_
      refine T_X4_readSum_b118 hG hlv hv1 C (fun l2_23 l3_24 D25 h => ?_) l2 l3 D21 h
      · exact hk14 l2_23 l3_24 D25 h
    · have h := ite_f c19 h
      refine j_iload C 4 dX4_readSum_105 rfl ?_
      refine j_istore_n C [(2, .int l4), (0, .ref (ad G (4, 0, 0, 0))), (1, .ref (ad G (3, a1, 0, 0))), (3, .int l3), (4, .int l4), (5, .int l5)] dX4_readSum_107 rfl (Nat.le_of_ble_eq_true rfl) rfl rfl ?_
      refine j_goto C 118 dX4_readSum_108 (by decide) ?_
      refine j_sub [1, 2, 0, 3] [(0, .ref (ad G (4, 0, 0, 0))), (1, .ref (ad G (3, a1, 0, 0))), (2, .int l4), (3, .int l3)] rfl ?_
      refine T_X4_readSum_b118 hG hlv hv1 C (fun l2_26 l3_27 D28 h => ?_) l4 l3 D17 h
      · exact hk14 l2_26 l3_27 D28 h
  · have h := ite_t c18 h
    refine j_iconst C (0 : Int32) (by decide) dX4_readSum_98 ?_
    obtain ⟨rfl, rfl⟩ := pr_x h
    exact j_zret C (Or.inl rfl) dX4_readSum_99
def F_X4_readSum_b73 (a1 : Nat) (k14 : Int32 → Int32 → Dt → Option (Int32 × Dt)) (l2 : Int32) (l3 : Int32) (l4 : Int32) (s0 : Int32) (D : Dt) : Option (Int32 × Dt) := (if s0 = 0 then (F_X4_readSum_b90 a1 (fun l2_29 l3_30 D31 => (k14 l2_29 l3_30 D31)) l2 l3 l4 s0 D) else (if l2 = 0 then (F_X4_readSum_b90 a1 (fun l2_33 l3_34 D35 => (k14 l2_33 l3_34 D35)) l2 l3 l4 s0 D) else (vbd (F_X3_add a1 l2 (0 : Int32) D) (fun D37 => (F_X4_readSum_b90 a1 (fun l2_38 l3_39 D40 => (k14 l2_38 l3_39 D40)) l2 l3 l4 s0 D37)))))
set_option maxRecDepth 100000 in
set_option maxHeartbeats 4000000 in
theorem T_X4_readSum_b73 {r : Int32} {D' : Dt} {X : Ctx} {l : Launch} {G : Gt} {A : Nat → Prop} {lv : Nat} {a1 : Nat}  {k14 : Int32 → Int32 → Dt → Option (Int32 × Dt)} (hG : Gok G A) (hlv : 3 ≤ lv) (hv1 : V (3, a1, 0, 0) = true)  (C : Cx X cX4_readSum RX4 G l A lv 6 (some .boolean) (some (.int r)) D') (hk14 : ∀ (l2 : Int32) (l3 : Int32) (D : Dt), k14 l2 l3 D = some (r, D') → J X (Rep G D) 14 [(0, .ref (ad G (4, 0, 0, 0))), (1, .ref (ad G (3, a1, 0, 0))), (2, .int l2), (3, .int l3)] []) : ∀ (l2 : Int32) (l3 : Int32) (l4 : Int32) (s0 : Int32) (D : Dt), F_X4_readSum_b73 a1 k14 l2 l3 l4 s0 D = some (r, D') → J X (Rep G D) 73 [(0, .ref (ad G (4, 0, 0, 0))), (1, .ref (ad G (3, a1, 0, 0))), (2, .int l2), (3, .int l3), (4, .int l4)] [.int s0] := by
  intro l2 l3 l4 s0 D h
  unfold F_X4_readSum_b73 at h
  refine j_istore C [(5, .int s0), (0, .ref (ad G (4, 0, 0, 0))), (1, .ref (ad G (3, a1, 0, 0))), (2, .int l2), (3, .int l3), (4, .int l4)] dX4_readSum_73 (Nat.le_of_ble_eq_true rfl) rfl rfl ?_
  refine j_iload C 0 dX4_readSum_75 rfl ?_
  refine j_if_eq C 90 dX4_readSum_77 (by decide) (fun c14 => ?_) (fun c14 => ?_)
  · have h := ite_t c14 h
    refine j_sub [1, 2, 3, 4, 5, 0] [(0, .ref (ad G (4, 0, 0, 0))), (1, .ref (ad G (3, a1, 0, 0))), (2, .int l2), (3, .int l3), (4, .int l4), (5, .int s0)] rfl ?_
    refine T_X4_readSum_b90 hG hlv hv1 C (fun l2_29 l3_30 D31 h => ?_) l2 l3 l4 s0 D h
    · exact hk14 l2_29 l3_30 D31 h
  · have h := ite_f c14 h
    refine j_iload_n C 3 dX4_readSum_80 rfl rfl ?_
    refine j_if_eq C 90 dX4_readSum_81 (by decide) (fun c32 => ?_) (fun c32 => ?_)
    · have h := ite_t c32 h
      refine j_sub [1, 2, 3, 4, 5, 0] [(0, .ref (ad G (4, 0, 0, 0))), (1, .ref (ad G (3, a1, 0, 0))), (2, .int l2), (3, .int l3), (4, .int l4), (5, .int s0)] rfl ?_
      refine T_X4_readSum_b90 hG hlv hv1 C (fun l2_33 l3_34 D35 h => ?_) l2 l3 l4 s0 D h
      · exact hk14 l2_33 l3_34 D35 h
    · have h := ite_f c32 h
      refine j_aload_n C 2 dX4_readSum_84 rfl rfl ?_
      refine j_iload_n C 3 dX4_readSum_85 rfl rfl ?_
      refine j_iconst C (0 : Int32) (by decide) dX4_readSum_86 ?_
      obtain ⟨D37, h36, h⟩ := vbd_x h
      refine j_callV C [.int l2, .int (0 : Int32)] [] cl_X4_67 (M_X3_add (lv := lv - 1) hG (by omega) h36) (by omega) dX4_readSum_87 hv1 ⟨rfl, rfl⟩ rfl rfl (Nat.le_of_ble_eq_true rfl) ?_
      refine j_st (st' := []) rfl ?_
      refine j_sub [1, 2, 3, 4, 5, 0] [(0, .ref (ad G (4, 0, 0, 0))), (1, .ref (ad G (3, a1, 0, 0))), (2, .int l2), (3, .int l3), (4, .int l4), (5, .int s0)] rfl ?_
      refine T_X4_readSum_b90 hG hlv hv1 C (fun l2_38 l3_39 D40 h => ?_) l2 l3 l4 s0 D37 h
      · exact hk14 l2_38 l3_39 D40 h
def F_X4_readSum_b68 (a1 : Nat) (k14 : Int32 → Int32 → Dt → Option (Int32 × Dt)) (l2 : Int32) (l3 : Int32) (l4 : Int32) (D : Dt) : Option (Int32 × Dt) := (F_X4_readSum_b73 a1 (fun l2_41 l3_42 D43 => (k14 l2_41 l3_42 D43)) l2 l3 l4 (1 : Int32) D)
set_option maxRecDepth 100000 in
set_option maxHeartbeats 4000000 in
theorem T_X4_readSum_b68 {r : Int32} {D' : Dt} {X : Ctx} {l : Launch} {G : Gt} {A : Nat → Prop} {lv : Nat} {a1 : Nat}  {k14 : Int32 → Int32 → Dt → Option (Int32 × Dt)} (hG : Gok G A) (hlv : 3 ≤ lv) (hv1 : V (3, a1, 0, 0) = true)  (C : Cx X cX4_readSum RX4 G l A lv 6 (some .boolean) (some (.int r)) D') (hk14 : ∀ (l2 : Int32) (l3 : Int32) (D : Dt), k14 l2 l3 D = some (r, D') → J X (Rep G D) 14 [(0, .ref (ad G (4, 0, 0, 0))), (1, .ref (ad G (3, a1, 0, 0))), (2, .int l2), (3, .int l3)] []) : ∀ (l2 : Int32) (l3 : Int32) (l4 : Int32) (D : Dt), F_X4_readSum_b68 a1 k14 l2 l3 l4 D = some (r, D') → J X (Rep G D) 68 [(0, .ref (ad G (4, 0, 0, 0))), (1, .ref (ad G (3, a1, 0, 0))), (2, .int l2), (3, .int l3), (4, .int l4)] [] := by
  intro l2 l3 l4 D h
  unfold F_X4_readSum_b68 at h
  refine j_iconst C (1 : Int32) (by decide) dX4_readSum_68 ?_
  refine j_goto C 73 dX4_readSum_69 (by decide) ?_
  refine T_X4_readSum_b73 hG hlv hv1 C (fun l2_41 l3_42 D43 h => ?_) l2 l3 l4 (1 : Int32) D h
  · exact hk14 l2_41 l3_42 D43 h
def F_X4_readSum_b14 (a1 : Nat) (k124 : Int32 → Dt → Option (Int32 × Dt)) (k44 : Int32 → Dt → Option (Int32 × Dt)) : Nat → Int32 → Int32 → Dt → Option (Int32 × Dt)
  | 0, _, _, _ => none
  | f + 1, l2, l3, D => (if (400 : Int32) ≤ l3 then (k124 l2 D) else (cbd (F_X2_sign  D) (fun r7 D8 => (if r7 < (7 : Int32) then (k124 l2 D8) else (if r7 ≤ (11 : Int32) then (vbd (F_X2_step  D8) (fun D12 => (if r7 = (7 : Int32) then (F_X4_readSum_b68 a1 (fun l2_44 l3_45 D46 => (F_X4_readSum_b14 a1 k124 k44 f l2_44 l3_45 D46)) l2 l3 r7 D12) else (if r7 = (8 : Int32) then (F_X4_readSum_b68 a1 (fun l2_51 l3_52 D53 => (F_X4_readSum_b14 a1 k124 k44 f l2_51 l3_52 D53)) l2 l3 r7 D12) else (F_X4_readSum_b73 a1 (fun l2_48 l3_49 D50 => (F_X4_readSum_b14 a1 k124 k44 f l2_48 l3_49 D50)) l2 l3 r7 (0 : Int32) D12))))) else (k44 l2 D8))))))
set_option maxRecDepth 100000 in
set_option maxHeartbeats 4000000 in
theorem T_X4_readSum_b14 {r : Int32} {D' : Dt} {X : Ctx} {l : Launch} {G : Gt} {A : Nat → Prop} {lv : Nat} {a1 : Nat}  {k124 : Int32 → Dt → Option (Int32 × Dt)} {k44 : Int32 → Dt → Option (Int32 × Dt)} (hG : Gok G A) (hlv : 3 ≤ lv) (hv1 : V (3, a1, 0, 0) = true)  (C : Cx X cX4_readSum RX4 G l A lv 6 (some .boolean) (some (.int r)) D') (hk124 : ∀ (l2 : Int32) (D : Dt), k124 l2 D = some (r, D') → J X (Rep G D) 124 [(1, .ref (ad G (3, a1, 0, 0))), (2, .int l2)] []) (hk44 : ∀ (l2 : Int32) (D : Dt), k44 l2 D = some (r, D') → J X (Rep G D) 44 [(1, .ref (ad G (3, a1, 0, 0))), (2, .int l2)] []) : ∀ (f : Nat) (l2 : Int32) (l3 : Int32) (D : Dt), F_X4_readSum_b14 a1 k124 k44 f l2 l3 D = some (r, D') → J X (Rep G D) 14 [(0, .ref (ad G (4, 0, 0, 0))), (1, .ref (ad G (3, a1, 0, 0))), (2, .int l2), (3, .int l3)] [] := by
  intro f
  induction f with
  | zero =>
    intro l2 l3 D h
    exact nomatch h
  | succ f ih =>
    intro l2 l3 D h
    rw [F_X4_readSum_b14] at h
    refine j_iload_n C 3 dX4_readSum_14 rfl rfl ?_
    refine j_sipush C (400 : Int32) (by decide) dX4_readSum_15 ?_
    refine j_icmp_ge C 124 dX4_readSum_18 (by decide) (fun c5 => ?_) (fun c5 => ?_)
    · have h := ite_t c5 h
      refine j_sub [1, 2] [(1, .ref (ad G (3, a1, 0, 0))), (2, .int l2)] rfl ?_
      exact hk124 l2 D h
    · have h := ite_f c5 h
      refine j_aload_n C 0 dX4_readSum_21 rfl rfl ?_
      refine j_getS C (2, 0, 0, 0) fl_X4_9 dX4_readSum_22 (by decide) ⟨rfl, rfl⟩ rfl rfl ?_
      obtain ⟨r7, D8, h6, h⟩ := cbd_x h
      refine j_callV C [] [] cl_X4_51 (M_X2_sign (lv := lv - 1) hG (by omega) h6) (by omega) dX4_readSum_25 (by decide) ⟨rfl, rfl⟩ rfl rfl (Nat.le_of_ble_eq_true rfl) ?_
      refine j_st (st' := [.int r7]) rfl ?_
      refine j_istore C [(4, .int r7), (0, .ref (ad G (4, 0, 0, 0))), (1, .ref (ad G (3, a1, 0, 0))), (2, .int l2), (3, .int l3)] dX4_readSum_28 (Nat.le_of_ble_eq_true rfl) rfl rfl ?_
      refine j_iload C 0 dX4_readSum_30 rfl ?_
      refine j_bipush C (7 : Int32) (by decide) dX4_readSum_32 ?_
      refine j_icmp_lt C 124 dX4_readSum_34 (by decide) (fun c9 => ?_) (fun c9 => ?_)
      · have h := ite_t c9 h
        refine j_sub [2, 3] [(1, .ref (ad G (3, a1, 0, 0))), (2, .int l2)] rfl ?_
        exact hk124 l2 D8 h
      · have h := ite_f c9 h
        refine j_iload C 0 dX4_readSum_37 rfl ?_
        refine j_bipush C (11 : Int32) (by decide) dX4_readSum_39 ?_
        refine j_icmp_le C 47 dX4_readSum_41 (by decide) (fun c10 => ?_) (fun c10 => ?_)
        · have h := ite_t c10 h
          refine j_aload_n C 1 dX4_readSum_47 rfl rfl ?_
          refine j_getS C (2, 0, 0, 0) fl_X4_9 dX4_readSum_48 (by decide) ⟨rfl, rfl⟩ rfl rfl ?_
          obtain ⟨D12, h11, h⟩ := vbd_x h
          refine j_callV C [] [] cl_X4_64 (M_X2_step (lv := lv - 1) hG (by omega) h11) (by omega) dX4_readSum_51 (by decide) ⟨rfl, rfl⟩ rfl rfl (Nat.le_of_ble_eq_true rfl) ?_
          refine j_st (st' := []) rfl ?_
          refine j_iload C 0 dX4_readSum_54 rfl ?_
          refine j_bipush C (7 : Int32) (by decide) dX4_readSum_56 ?_
          refine j_icmp_eq C 68 dX4_readSum_58 (by decide) (fun c13 => ?_) (fun c13 => ?_)
          · have h := ite_t c13 h
            refine j_sub [1, 2, 3, 4, 0] [(0, .ref (ad G (4, 0, 0, 0))), (1, .ref (ad G (3, a1, 0, 0))), (2, .int l2), (3, .int l3), (4, .int r7)] rfl ?_
            refine T_X4_readSum_b68 hG hlv hv1 C (fun l2_44 l3_45 D46 h => ?_) l2 l3 r7 D12 h
            · exact ih l2_44 l3_45 D46 h
          · have h := ite_f c13 h
            refine j_iload C 0 dX4_readSum_61 rfl ?_
            refine j_bipush C (8 : Int32) (by decide) dX4_readSum_63 ?_
            refine j_icmp_ne C 72 dX4_readSum_65 (by decide) (fun c47 => ?_) (fun c47 => ?_)
            · have h := ite_f c47 h
              refine j_iconst C (0 : Int32) (by decide) dX4_readSum_72 ?_
              refine j_sub [1, 2, 3, 4, 0] [(0, .ref (ad G (4, 0, 0, 0))), (1, .ref (ad G (3, a1, 0, 0))), (2, .int l2), (3, .int l3), (4, .int r7)] rfl ?_
              refine T_X4_readSum_b73 hG hlv hv1 C (fun l2_48 l3_49 D50 h => ?_) l2 l3 r7 (0 : Int32) D12 h
              · exact ih l2_48 l3_49 D50 h
            · have h := ite_t c47 h
              refine j_sub [1, 2, 3, 4, 0] [(0, .ref (ad G (4, 0, 0, 0))), (1, .ref (ad G (3, a1, 0, 0))), (2, .int l2), (3, .int l3), (4, .int r7)] rfl ?_
              refine T_X4_readSum_b68 hG hlv hv1 C (fun l2_51 l3_52 D53 h => ?_) l2 l3 r7 D12 h
              · exact ih l2_51 l3_52 D53 h
        · have h := ite_f c10 h
          refine j_sub [2, 3] [(1, .ref (ad G (3, a1, 0, 0))), (2, .int l2)] rfl ?_
          exact hk44 l2 D8 h
def F_X4_readSum_b124 (a1 : Nat)  (l2 : Int32) (D : Dt) : Option (Int32 × Dt) := (if l2 = 0 then (some ((1 : Int32), D)) else (vbd (F_X3_add a1 l2 (0 : Int32) D) (fun D58 => (some ((1 : Int32), D58)))))
set_option maxRecDepth 100000 in
set_option maxHeartbeats 4000000 in
theorem T_X4_readSum_b124 {r : Int32} {D' : Dt} {X : Ctx} {l : Launch} {G : Gt} {A : Nat → Prop} {lv : Nat} {a1 : Nat}   (hG : Gok G A) (hlv : 3 ≤ lv) (hv1 : V (3, a1, 0, 0) = true)  (C : Cx X cX4_readSum RX4 G l A lv 6 (some .boolean) (some (.int r)) D')  : ∀ (l2 : Int32) (D : Dt), F_X4_readSum_b124 a1 l2 D = some (r, D') → J X (Rep G D) 124 [(1, .ref (ad G (3, a1, 0, 0))), (2, .int l2)] [] := by
  intro l2 D h
  unfold F_X4_readSum_b124 at h
  refine j_iload_n C 1 dX4_readSum_124 rfl rfl ?_
  refine j_if_eq C 134 dX4_readSum_125 (by decide) (fun c56 => ?_) (fun c56 => ?_)
  · have h := ite_t c56 h
    refine j_iconst C (1 : Int32) (by decide) dX4_readSum_134 ?_
    obtain ⟨rfl, rfl⟩ := pr_x h
    exact j_zret C (Or.inr rfl) dX4_readSum_135
  · have h := ite_f c56 h
    refine j_aload_n C 0 dX4_readSum_128 rfl rfl ?_
    refine j_iload_n C 1 dX4_readSum_129 rfl rfl ?_
    refine j_iconst C (0 : Int32) (by decide) dX4_readSum_130 ?_
    obtain ⟨D58, h57, h⟩ := vbd_x h
    refine j_callV C [.int l2, .int (0 : Int32)] [] cl_X4_67 (M_X3_add (lv := lv - 1) hG (by omega) h57) (by omega) dX4_readSum_131 hv1 ⟨rfl, rfl⟩ rfl rfl (Nat.le_of_ble_eq_true rfl) ?_
    refine j_st (st' := []) rfl ?_
    refine j_iconst C (1 : Int32) (by decide) dX4_readSum_134 ?_
    obtain ⟨rfl, rfl⟩ := pr_x h
    exact j_zret C (Or.inr rfl) dX4_readSum_135
def F_X4_readSum (a1 : Nat) (D : Dt) : Option (Int32 × Dt) := (grd (V (3, a1, 0, 0) = true) (cbd (F_X4_readValue a1 D) (fun r2 D3 => (if r2 = 0 then (some ((0 : Int32), D3)) else (F_X4_readSum_b14 a1 (fun l2_54 D55 => (F_X4_readSum_b124 a1 l2_54 D55)) (fun l2_59 D60 => (F_X4_readSum_b124 a1 l2_59 D60)) 2000 (0 : Int32) (0 : Int32) D3)))))
set_option maxRecDepth 100000 in
set_option maxHeartbeats 4000000 in
theorem M_X4_readSum {l : Launch} {G : Gt} {A : Nat → Prop} {lv : Nat} {a1 : Nat} {D : Dt} {r : Int32} {D' : Dt} (hG : Gok G A) (hlv : 3 ≤ lv)  (h : F_X4_readSum a1 D = some (r, D')) : MD l G A lv yX4_readSum cX4_readSum 6 (some .boolean) [.ref (ad G (4, 0, 0, 0)), .ref (ad G (3, a1, 0, 0))] D (some (.int r)) D' := by
  unfold F_X4_readSum at h
  obtain ⟨hv1, h⟩ := grd_x h
  refine md_start RX4 hG (by decide +kernel) rfl (Nat.le_of_ble_eq_true rfl) (L := [(0, .ref (ad G (4, 0, 0, 0))), (1, .ref (ad G (3, a1, 0, 0)))]) rfl (fun X C => ?_)
  refine j_aload_n C 0 dX4_readSum_0 rfl rfl ?_
  refine j_aload_n C 1 dX4_readSum_1 rfl rfl ?_
  obtain ⟨r2, D3, h1, h⟩ := cbd_x h
  refine j_callV C [.ref (ad G (3, a1, 0, 0))] [] cl_X4_73 (M_X4_readValue (lv := lv - 1) hG (by omega) h1) (by omega) dX4_readSum_2 (by decide) ⟨rfl, rfl⟩ rfl rfl (Nat.le_of_ble_eq_true rfl) ?_
  refine j_st (st' := [.int r2]) rfl ?_
  refine j_if_ne C 10 dX4_readSum_5 (by decide) (fun c4 => ?_) (fun c4 => ?_)
  · have h := ite_f c4 h
    refine j_iconst C (0 : Int32) (by decide) dX4_readSum_10 ?_
    refine j_istore_n C [(2, .int (0 : Int32)), (0, .ref (ad G (4, 0, 0, 0))), (1, .ref (ad G (3, a1, 0, 0)))] dX4_readSum_11 rfl (Nat.le_of_ble_eq_true rfl) rfl rfl ?_
    refine j_iconst C (0 : Int32) (by decide) dX4_readSum_12 ?_
    refine j_istore_n C [(3, .int (0 : Int32)), (2, .int (0 : Int32)), (0, .ref (ad G (4, 0, 0, 0))), (1, .ref (ad G (3, a1, 0, 0)))] dX4_readSum_13 rfl (Nat.le_of_ble_eq_true rfl) rfl rfl ?_
    refine j_sub [2, 3, 1, 0] [(0, .ref (ad G (4, 0, 0, 0))), (1, .ref (ad G (3, a1, 0, 0))), (2, .int (0 : Int32)), (3, .int (0 : Int32))] rfl ?_
    refine T_X4_readSum_b14 hG hlv hv1 C (fun l2_54 D55 h => ?_) (fun l2_59 D60 h => ?_) 2000 (0 : Int32) (0 : Int32) D3 h
    · refine T_X4_readSum_b124 hG hlv hv1 C  l2_54 D55 h
    · refine j_goto C 124 dX4_readSum_44 (by decide) ?_
      refine T_X4_readSum_b124 hG hlv hv1 C  l2_59 D60 h
  · have h := ite_t c4 h
    refine j_iconst C (0 : Int32) (by decide) dX4_readSum_8 ?_
    obtain ⟨rfl, rfl⟩ := pr_x h
    exact j_zret C (Or.inl rfl) dX4_readSum_9
def F_X4_readComparison_b30 (a1 : Nat)   (D : Dt) : Option (Int32 × Dt) := (cbd (F_X2_fail (0 : Int32) D) (fun r10 D11 => (grd (r10 = 0 ∨ r10 = 1) (some (r10, D11)))))
set_option maxRecDepth 100000 in
set_option maxHeartbeats 4000000 in
theorem T_X4_readComparison_b30 {r : Int32} {D' : Dt} {X : Ctx} {l : Launch} {G : Gt} {A : Nat → Prop} {lv : Nat} {a1 : Nat}   (hG : Gok G A) (hlv : 4 ≤ lv) (hv1 : V (3, a1, 0, 0) = true)  (C : Cx X cX4_readComparison RX4 G l A lv 3 (some .boolean) (some (.int r)) D')  : ∀  (D : Dt), F_X4_readComparison_b30 a1  D = some (r, D') → J X (Rep G D) 30 [(0, .ref (ad G (4, 0, 0, 0)))] [] := by
  intro D h
  unfold F_X4_readComparison_b30 at h
  refine j_aload_n C 0 dX4_readComparison_30 rfl rfl ?_
  refine j_getS C (2, 0, 0, 0) fl_X4_9 dX4_readComparison_31 (by decide) ⟨rfl, rfl⟩ rfl rfl ?_
  refine j_iconst C (0 : Int32) (by decide) dX4_readComparison_34 ?_
  obtain ⟨r10, D11, h9, h⟩ := cbd_x h
  refine j_callV C [.int (0 : Int32)] [] cl_X4_58 (M_X2_fail (lv := lv - 1) hG (by omega) h9) (by omega) dX4_readComparison_35 (by decide) ⟨rfl, rfl⟩ rfl rfl (Nat.le_of_ble_eq_true rfl) ?_
  refine j_st (st' := [.int r10]) rfl ?_
  obtain ⟨g12, h⟩ := grd_x h
  obtain ⟨rfl, rfl⟩ := pr_x h
  exact j_zret C g12 dX4_readComparison_38
def F_X4_readComparison (a1 : Nat) (D : Dt) : Option (Int32 × Dt) := (grd (V (3, a1, 0, 0) = true) (cbd (F_X4_readSum a1 D) (fun r2 D3 => (if r2 = 0 then (some ((0 : Int32), D3)) else (cbd (F_X2_sign  D3) (fun r6 D7 => (if r6 < (12 : Int32) then (F_X4_readComparison_b30 a1  D7) else (if r6 ≤ (16 : Int32) then (if (D7.1 (4, 0, 0, 0) 1) < (60 : Int32) then (bnd (setI D7 (4, 0, 0, 0) 1 ((D7.1 (4, 0, 0, 0) 1) + (1 : Int32))) (fun D15 => (vbd (F_X2_step  D15) (fun D17 => (cbd (F_X4_readSum a1 D17) (fun r19 D20 => (if r19 = 0 then (some ((0 : Int32), D20)) else (vbd (F_X3_add a1 r6 (0 : Int32) D20) (fun D23 => (some ((1 : Int32), D23))))))))))) else (cbd (F_X2_fail (3 : Int32) D7) (fun r25 D26 => (grd (r25 = 0 ∨ r25 = 1) (some (r25, D26)))))) else (F_X4_readComparison_b30 a1  D7)))))))))
set_option maxRecDepth 100000 in
set_option maxHeartbeats 4000000 in
theorem M_X4_readComparison {l : Launch} {G : Gt} {A : Nat → Prop} {lv : Nat} {a1 : Nat} {D : Dt} {r : Int32} {D' : Dt} (hG : Gok G A) (hlv : 4 ≤ lv)  (h : F_X4_readComparison a1 D = some (r, D')) : MD l G A lv yX4_readComparison cX4_readComparison 3 (some .boolean) [.ref (ad G (4, 0, 0, 0)), .ref (ad G (3, a1, 0, 0))] D (some (.int r)) D' := by
  unfold F_X4_readComparison at h
  obtain ⟨hv1, h⟩ := grd_x h
  refine md_start RX4 hG (by decide +kernel) rfl (Nat.le_of_ble_eq_true rfl) (L := [(0, .ref (ad G (4, 0, 0, 0))), (1, .ref (ad G (3, a1, 0, 0)))]) rfl (fun X C => ?_)
  refine j_aload_n C 0 dX4_readComparison_0 rfl rfl ?_
  refine j_aload_n C 1 dX4_readComparison_1 rfl rfl ?_
  obtain ⟨r2, D3, h1, h⟩ := cbd_x h
  refine j_callV C [.ref (ad G (3, a1, 0, 0))] [] cl_X4_36 (M_X4_readSum (lv := lv - 1) hG (by omega) h1) (by omega) dX4_readComparison_2 (by decide) ⟨rfl, rfl⟩ rfl rfl (Nat.le_of_ble_eq_true rfl) ?_
  refine j_st (st' := [.int r2]) rfl ?_
  refine j_if_ne C 10 dX4_readComparison_5 (by decide) (fun c4 => ?_) (fun c4 => ?_)
  · have h := ite_f c4 h
    refine j_aload_n C 0 dX4_readComparison_10 rfl rfl ?_
    refine j_getS C (2, 0, 0, 0) fl_X4_9 dX4_readComparison_11 (by decide) ⟨rfl, rfl⟩ rfl rfl ?_
    obtain ⟨r6, D7, h5, h⟩ := cbd_x h
    refine j_callV C [] [] cl_X4_51 (M_X2_sign (lv := lv - 1) hG (by omega) h5) (by omega) dX4_readComparison_14 (by decide) ⟨rfl, rfl⟩ rfl rfl (Nat.le_of_ble_eq_true rfl) ?_
    refine j_st (st' := [.int r6]) rfl ?_
    refine j_istore_n C [(2, .int r6), (0, .ref (ad G (4, 0, 0, 0))), (1, .ref (ad G (3, a1, 0, 0)))] dX4_readComparison_17 rfl (Nat.le_of_ble_eq_true rfl) rfl rfl ?_
    refine j_iload_n C 0 dX4_readComparison_18 rfl rfl ?_
    refine j_bipush C (12 : Int32) (by decide) dX4_readComparison_19 ?_
    refine j_icmp_lt C 30 dX4_readComparison_21 (by decide) (fun c8 => ?_) (fun c8 => ?_)
    · have h := ite_t c8 h
      refine j_sub [1] [(0, .ref (ad G (4, 0, 0, 0)))] rfl ?_
      refine T_X4_readComparison_b30 hG hlv hv1 C   D7 h
    · have h := ite_f c8 h
      refine j_iload_n C 0 dX4_readComparison_24 rfl rfl ?_
      refine j_bipush C (16 : Int32) (by decide) dX4_readComparison_25 ?_
      refine j_icmp_le C 39 dX4_readComparison_27 (by decide) (fun c13 => ?_) (fun c13 => ?_)
      · have h := ite_t c13 h
        refine j_aload_n C 1 dX4_readComparison_39 rfl rfl ?_
        refine j_getI C fl_X4_20 dX4_readComparison_40 (by decide) ⟨rfl, rfl⟩ rfl ?_
        refine j_bipush C (60 : Int32) (by decide) dX4_readComparison_43 ?_
        refine j_icmp_lt C 57 dX4_readComparison_45 (by decide) (fun c14 => ?_) (fun c14 => ?_)
        · have h := ite_t c14 h
          refine j_aload_n C 1 dX4_readComparison_57 rfl rfl ?_
          refine j_dup C rfl dX4_readComparison_58 ?_
          refine j_getI C fl_X4_20 dX4_readComparison_59 (by decide) ⟨rfl, rfl⟩ rfl ?_
          refine j_iconst C (1 : Int32) (by decide) dX4_readComparison_62 ?_
          refine j_iadd C dX4_readComparison_63 ?_
          obtain ⟨D15, eD15, h⟩ := bnd_x h
          refine j_putI C fl_X4_20 dX4_readComparison_64 (by decide) ⟨rfl, rfl⟩ rfl rfl rfl ?_
          refine j_rep eD15 ?_
          refine j_aload_n C 1 dX4_readComparison_67 rfl rfl ?_
          refine j_getS C (2, 0, 0, 0) fl_X4_9 dX4_readComparison_68 (by decide) ⟨rfl, rfl⟩ rfl rfl ?_
          obtain ⟨D17, h16, h⟩ := vbd_x h
          refine j_callV C [] [] cl_X4_64 (M_X2_step (lv := lv - 1) hG (by omega) h16) (by omega) dX4_readComparison_71 (by decide) ⟨rfl, rfl⟩ rfl rfl (Nat.le_of_ble_eq_true rfl) ?_
          refine j_st (st' := []) rfl ?_
          refine j_aload_n C 1 dX4_readComparison_74 rfl rfl ?_
          refine j_aload_n C 2 dX4_readComparison_75 rfl rfl ?_
          obtain ⟨r19, D20, h18, h⟩ := cbd_x h
          refine j_callV C [.ref (ad G (3, a1, 0, 0))] [] cl_X4_36 (M_X4_readSum (lv := lv - 1) hG (by omega) h18) (by omega) dX4_readComparison_76 (by decide) ⟨rfl, rfl⟩ rfl rfl (Nat.le_of_ble_eq_true rfl) ?_
          refine j_st (st' := [.int r19]) rfl ?_
          refine j_if_ne C 84 dX4_readComparison_79 (by decide) (fun c21 => ?_) (fun c21 => ?_)
          · have h := ite_f c21 h
            refine j_aload_n C 2 dX4_readComparison_84 rfl rfl ?_
            refine j_iload_n C 0 dX4_readComparison_85 rfl rfl ?_
            refine j_iconst C (0 : Int32) (by decide) dX4_readComparison_86 ?_
            obtain ⟨D23, h22, h⟩ := vbd_x h
            refine j_callV C [.int r6, .int (0 : Int32)] [] cl_X4_67 (M_X3_add (lv := lv - 1) hG (by omega) h22) (by omega) dX4_readComparison_87 hv1 ⟨rfl, rfl⟩ rfl rfl (Nat.le_of_ble_eq_true rfl) ?_
            refine j_st (st' := []) rfl ?_
            refine j_iconst C (1 : Int32) (by decide) dX4_readComparison_90 ?_
            obtain ⟨rfl, rfl⟩ := pr_x h
            exact j_zret C (Or.inr rfl) dX4_readComparison_91
          · have h := ite_t c21 h
            refine j_iconst C (0 : Int32) (by decide) dX4_readComparison_82 ?_
            obtain ⟨rfl, rfl⟩ := pr_x h
            exact j_zret C (Or.inl rfl) dX4_readComparison_83
        · have h := ite_f c14 h
          refine j_aload_n C 1 dX4_readComparison_48 rfl rfl ?_
          refine j_getS C (2, 0, 0, 0) fl_X4_9 dX4_readComparison_49 (by decide) ⟨rfl, rfl⟩ rfl rfl ?_
          refine j_iconst C (3 : Int32) (by decide) dX4_readComparison_52 ?_
          obtain ⟨r25, D26, h24, h⟩ := cbd_x h
          refine j_callV C [.int (3 : Int32)] [] cl_X4_58 (M_X2_fail (lv := lv - 1) hG (by omega) h24) (by omega) dX4_readComparison_53 (by decide) ⟨rfl, rfl⟩ rfl rfl (Nat.le_of_ble_eq_true rfl) ?_
          refine j_st (st' := [.int r25]) rfl ?_
          obtain ⟨g27, h⟩ := grd_x h
          obtain ⟨rfl, rfl⟩ := pr_x h
          exact j_zret C g27 dX4_readComparison_56
      · have h := ite_f c13 h
        refine j_sub [1] [(0, .ref (ad G (4, 0, 0, 0)))] rfl ?_
        refine T_X4_readComparison_b30 hG hlv hv1 C   D7 h
  · have h := ite_t c4 h
    refine j_iconst C (0 : Int32) (by decide) dX4_readComparison_8 ?_
    obtain ⟨rfl, rfl⟩ := pr_x h
    exact j_zret C (Or.inl rfl) dX4_readComparison_9
def F_X4_readFact_b25 (rc_X4_readFact : Nat → Int32 → Dt → Option (Int32 × Dt)) (rc_X4_readTest : Nat → Int32 → Dt → Option (Int32 × Dt)) (a1 : Nat) (a2 : Int32)  (l2 : Int32) (l3 : Int32) (D : Dt) : Option (Int32 × Dt) := (if l2 < (10 : Int32) then (vbd (F_X2_step  D) (fun D7 => (if l3 = (5 : Int32) then (cbd (rc_X4_readTest a1 (l2 + (1 : Int32)) D7) (fun r16 D17 => (if r16 = 0 then (some ((0 : Int32), D17)) else (cbd (F_X2_demand (6 : Int32) D17) (fun r20 D21 => (if r20 = 0 then (some ((0 : Int32), D21)) else (some ((1 : Int32), D21)))))))) else (cbd (rc_X4_readFact a1 (l2 + (1 : Int32)) D7) (fun r10 D11 => (if r10 = 0 then (some ((0 : Int32), D11)) else (vbd (F_X3_add a1 (35 : Int32) (0 : Int32) D11) (fun D14 => (some ((1 : Int32), D14)))))))))) else (cbd (F_X2_fail (2 : Int32) D) (fun r24 D25 => (grd (r24 = 0 ∨ r24 = 1) (some (r24, D25))))))
set_option maxRecDepth 100000 in
set_option maxHeartbeats 4000000 in
theorem T_X4_readFact_b25 {r : Int32} {D' : Dt} {X : Ctx} {l : Launch} {G : Gt} {A : Nat → Prop} {lv : Nat} {rc_X4_readFact : Nat → Int32 → Dt → Option (Int32 × Dt)} {rc_X4_readTest : Nat → Int32 → Dt → Option (Int32 × Dt)} {a1 : Nat} {a2 : Int32}   (hG : Gok G A) (hlv : 5 ≤ lv) (hv1 : V (3, a1, 0, 0) = true) (hrc_X4_readFact : ∀ {b1 : Nat} {b2 : Int32} {D : Dt} {r : Int32} {D' : Dt}, rc_X4_readFact b1 b2 D = some (r, D') → MD l G A (lv - 1) yX4_readFact cX4_readFact 4 (some .boolean) [.ref (ad G (4, 0, 0, 0)), .ref (ad G (3, b1, 0, 0)), .int b2] D (some (.int r)) D') (hrc_X4_readTest : ∀ {b1 : Nat} {b2 : Int32} {D : Dt} {r : Int32} {D' : Dt}, rc_X4_readTest b1 b2 D = some (r, D') → MD l G A (lv - 1) yX4_readTest cX4_readTest 6 (some .boolean) [.ref (ad G (4, 0, 0, 0)), .ref (ad G (3, b1, 0, 0)), .int b2] D (some (.int r)) D') (C : Cx X cX4_readFact RX4 G l A lv 4 (some .boolean) (some (.int r)) D')  : ∀ (l2 : Int32) (l3 : Int32) (D : Dt), F_X4_readFact_b25 rc_X4_readFact rc_X4_readTest a1 a2 l2 l3 D = some (r, D') → J X (Rep G D) 25 [(0, .ref (ad G (4, 0, 0, 0))), (1, .ref (ad G (3, a1, 0, 0))), (2, .int l2), (3, .int l3)] [] := by
  intro l2 l3 D h
  unfold F_X4_readFact_b25 at h
  refine j_iload_n C 2 dX4_readFact_25 rfl rfl ?_
  refine j_bipush C (10 : Int32) (by decide) dX4_readFact_26 ?_
  refine j_icmp_lt C 40 dX4_readFact_28 (by decide) (fun c5 => ?_) (fun c5 => ?_)
  · have h := ite_t c5 h
    refine j_aload_n C 0 dX4_readFact_40 rfl rfl ?_
    refine j_getS C (2, 0, 0, 0) fl_X4_9 dX4_readFact_41 (by decide) ⟨rfl, rfl⟩ rfl rfl ?_
    obtain ⟨D7, h6, h⟩ := vbd_x h
    refine j_callV C [] [] cl_X4_64 (M_X2_step (lv := lv - 1) hG (by omega) h6) (by omega) dX4_readFact_44 (by decide) ⟨rfl, rfl⟩ rfl rfl (Nat.le_of_ble_eq_true rfl) ?_
    refine j_st (st' := []) rfl ?_
    refine j_iload_n C 3 dX4_readFact_47 rfl rfl ?_
    refine j_iconst C (5 : Int32) (by decide) dX4_readFact_48 ?_
    refine j_icmp_ne C 81 dX4_readFact_49 (by decide) (fun c8 => ?_) (fun c8 => ?_)
    · have h := ite_f c8 h
      refine j_aload_n C 0 dX4_readFact_81 rfl rfl ?_
      refine j_aload_n C 1 dX4_readFact_82 rfl rfl ?_
      refine j_iload_n C 2 dX4_readFact_83 rfl rfl ?_
      refine j_iconst C (1 : Int32) (by decide) dX4_readFact_84 ?_
      refine j_iadd C dX4_readFact_85 ?_
      obtain ⟨r10, D11, h9, h⟩ := cbd_x h
      refine j_callV C [.ref (ad G (3, a1, 0, 0)), .int (l2 + (1 : Int32))] [] cl_X4_61 (hrc_X4_readFact h9) (by omega) dX4_readFact_86 (by decide) ⟨rfl, rfl⟩ rfl rfl (Nat.le_of_ble_eq_true rfl) ?_
      refine j_st (st' := [.int r10]) rfl ?_
      refine j_if_ne C 94 dX4_readFact_89 (by decide) (fun c12 => ?_) (fun c12 => ?_)
      · have h := ite_f c12 h
        refine j_aload_n C 1 dX4_readFact_94 rfl rfl ?_
        refine j_bipush C (35 : Int32) (by decide) dX4_readFact_95 ?_
        refine j_iconst C (0 : Int32) (by decide) dX4_readFact_97 ?_
        obtain ⟨D14, h13, h⟩ := vbd_x h
        refine j_callV C [.int (35 : Int32), .int (0 : Int32)] [] cl_X4_67 (M_X3_add (lv := lv - 1) hG (by omega) h13) (by omega) dX4_readFact_98 hv1 ⟨rfl, rfl⟩ rfl rfl (Nat.le_of_ble_eq_true rfl) ?_
        refine j_st (st' := []) rfl ?_
        refine j_iconst C (1 : Int32) (by decide) dX4_readFact_101 ?_
        obtain ⟨rfl, rfl⟩ := pr_x h
        exact j_zret C (Or.inr rfl) dX4_readFact_102
      · have h := ite_t c12 h
        refine j_iconst C (0 : Int32) (by decide) dX4_readFact_92 ?_
        obtain ⟨rfl, rfl⟩ := pr_x h
        exact j_zret C (Or.inl rfl) dX4_readFact_93
    · have h := ite_t c8 h
      refine j_aload_n C 0 dX4_readFact_52 rfl rfl ?_
      refine j_aload_n C 1 dX4_readFact_53 rfl rfl ?_
      refine j_iload_n C 2 dX4_readFact_54 rfl rfl ?_
      refine j_iconst C (1 : Int32) (by decide) dX4_readFact_55 ?_
      refine j_iadd C dX4_readFact_56 ?_
      obtain ⟨r16, D17, h15, h⟩ := cbd_x h
      refine j_callV C [.ref (ad G (3, a1, 0, 0)), .int (l2 + (1 : Int32))] [] cl_X4_43 (hrc_X4_readTest h15) (by omega) dX4_readFact_57 (by decide) ⟨rfl, rfl⟩ rfl rfl (Nat.le_of_ble_eq_true rfl) ?_
      refine j_st (st' := [.int r16]) rfl ?_
      refine j_if_eq C 79 dX4_readFact_60 (by decide) (fun c18 => ?_) (fun c18 => ?_)
      · have h := ite_t c18 h
        refine j_iconst C (0 : Int32) (by decide) dX4_readFact_79 ?_
        obtain ⟨rfl, rfl⟩ := pr_x h
        exact j_zret C (Or.inl rfl) dX4_readFact_80
      · have h := ite_f c18 h
        refine j_aload_n C 0 dX4_readFact_63 rfl rfl ?_
        refine j_getS C (2, 0, 0, 0) fl_X4_9 dX4_readFact_64 (by decide) ⟨rfl, rfl⟩ rfl rfl ?_
        refine j_bipush C (6 : Int32) (by decide) dX4_readFact_67 ?_
        obtain ⟨r20, D21, h19, h⟩ := cbd_x h
        refine j_callV C [.int (6 : Int32)] [] cl_X4_55 (M_X2_demand (lv := lv - 1) hG (by omega) h19) (by omega) dX4_readFact_69 (by decide) ⟨rfl, rfl⟩ rfl rfl (Nat.le_of_ble_eq_true rfl) ?_
        refine j_st (st' := [.int r20]) rfl ?_
        refine j_if_eq C 79 dX4_readFact_72 (by decide) (fun c22 => ?_) (fun c22 => ?_)
        · have h := ite_t c22 h
          refine j_iconst C (0 : Int32) (by decide) dX4_readFact_79 ?_
          obtain ⟨rfl, rfl⟩ := pr_x h
          exact j_zret C (Or.inl rfl) dX4_readFact_80
        · have h := ite_f c22 h
          refine j_iconst C (1 : Int32) (by decide) dX4_readFact_75 ?_
          refine j_goto C 80 dX4_readFact_76 (by decide) ?_
          obtain ⟨rfl, rfl⟩ := pr_x h
          exact j_zret C (Or.inr rfl) dX4_readFact_80
  · have h := ite_f c5 h
    refine j_aload_n C 0 dX4_readFact_31 rfl rfl ?_
    refine j_getS C (2, 0, 0, 0) fl_X4_9 dX4_readFact_32 (by decide) ⟨rfl, rfl⟩ rfl rfl ?_
    refine j_iconst C (2 : Int32) (by decide) dX4_readFact_35 ?_
    obtain ⟨r24, D25, h23, h⟩ := cbd_x h
    refine j_callV C [.int (2 : Int32)] [] cl_X4_58 (M_X2_fail (lv := lv - 1) hG (by omega) h23) (by omega) dX4_readFact_36 (by decide) ⟨rfl, rfl⟩ rfl rfl (Nat.le_of_ble_eq_true rfl) ?_
    refine j_st (st' := [.int r24]) rfl ?_
    obtain ⟨g26, h⟩ := grd_x h
    obtain ⟨rfl, rfl⟩ := pr_x h
    exact j_zret C g26 dX4_readFact_39
def FG_X4_readFact (rc_X4_readFact : Nat → Int32 → Dt → Option (Int32 × Dt)) (rc_X4_readTest : Nat → Int32 → Dt → Option (Int32 × Dt)) (a1 : Nat) (a2 : Int32) (D : Dt) : Option (Int32 × Dt) := (grd (V (3, a1, 0, 0) = true) (cbd (F_X2_sign  D) (fun r2 D3 => (if r2 = (5 : Int32) then (F_X4_readFact_b25 rc_X4_readFact rc_X4_readTest a1 a2 a2 r2 D3) else (if r2 = (35 : Int32) then (F_X4_readFact_b25 rc_X4_readFact rc_X4_readTest a1 a2 a2 r2 D3) else (cbd (F_X4_readComparison a1 D3) (fun r29 D30 => (grd (r29 = 0 ∨ r29 = 1) (some (r29, D30))))))))))
set_option maxRecDepth 100000 in
set_option maxHeartbeats 4000000 in
theorem MG_X4_readFact {l : Launch} {G : Gt} {A : Nat → Prop} {lv : Nat} {rc_X4_readFact : Nat → Int32 → Dt → Option (Int32 × Dt)} {rc_X4_readTest : Nat → Int32 → Dt → Option (Int32 × Dt)} {a1 : Nat} {a2 : Int32} {D : Dt} {r : Int32} {D' : Dt} (hG : Gok G A) (hlv : 5 ≤ lv) (hrc_X4_readFact : ∀ {b1 : Nat} {b2 : Int32} {D : Dt} {r : Int32} {D' : Dt}, rc_X4_readFact b1 b2 D = some (r, D') → MD l G A (lv - 1) yX4_readFact cX4_readFact 4 (some .boolean) [.ref (ad G (4, 0, 0, 0)), .ref (ad G (3, b1, 0, 0)), .int b2] D (some (.int r)) D') (hrc_X4_readTest : ∀ {b1 : Nat} {b2 : Int32} {D : Dt} {r : Int32} {D' : Dt}, rc_X4_readTest b1 b2 D = some (r, D') → MD l G A (lv - 1) yX4_readTest cX4_readTest 6 (some .boolean) [.ref (ad G (4, 0, 0, 0)), .ref (ad G (3, b1, 0, 0)), .int b2] D (some (.int r)) D') (h : FG_X4_readFact rc_X4_readFact rc_X4_readTest a1 a2 D = some (r, D')) : MD l G A lv yX4_readFact cX4_readFact 4 (some .boolean) [.ref (ad G (4, 0, 0, 0)), .ref (ad G (3, a1, 0, 0)), .int a2] D (some (.int r)) D' := by
  unfold FG_X4_readFact at h
  obtain ⟨hv1, h⟩ := grd_x h
  refine md_start RX4 hG (by decide +kernel) rfl (Nat.le_of_ble_eq_true rfl) (L := [(0, .ref (ad G (4, 0, 0, 0))), (1, .ref (ad G (3, a1, 0, 0))), (2, .int a2)]) rfl (fun X C => ?_)
  refine j_aload_n C 0 dX4_readFact_0 rfl rfl ?_
  refine j_getS C (2, 0, 0, 0) fl_X4_9 dX4_readFact_1 (by decide) ⟨rfl, rfl⟩ rfl rfl ?_
  obtain ⟨r2, D3, h1, h⟩ := cbd_x h
  refine j_callV C [] [] cl_X4_51 (M_X2_sign (lv := lv - 1) hG (by omega) h1) (by omega) dX4_readFact_4 (by decide) ⟨rfl, rfl⟩ rfl rfl (Nat.le_of_ble_eq_true rfl) ?_
  refine j_st (st' := [.int r2]) rfl ?_
  refine j_istore_n C [(3, .int r2), (0, .ref (ad G (4, 0, 0, 0))), (1, .ref (ad G (3, a1, 0, 0))), (2, .int a2)] dX4_readFact_7 rfl (Nat.le_of_ble_eq_true rfl) rfl rfl ?_
  refine j_iload_n C 0 dX4_readFact_8 rfl rfl ?_
  refine j_iconst C (5 : Int32) (by decide) dX4_readFact_9 ?_
  refine j_icmp_eq C 25 dX4_readFact_10 (by decide) (fun c4 => ?_) (fun c4 => ?_)
  · have h := ite_t c4 h
    refine j_sub [1, 2, 3, 0] [(0, .ref (ad G (4, 0, 0, 0))), (1, .ref (ad G (3, a1, 0, 0))), (2, .int a2), (3, .int r2)] rfl ?_
    refine T_X4_readFact_b25 hG hlv hv1 hrc_X4_readFact hrc_X4_readTest C  a2 r2 D3 h
  · have h := ite_f c4 h
    refine j_iload_n C 0 dX4_readFact_13 rfl rfl ?_
    refine j_bipush C (35 : Int32) (by decide) dX4_readFact_14 ?_
    refine j_icmp_eq C 25 dX4_readFact_16 (by decide) (fun c27 => ?_) (fun c27 => ?_)
    · have h := ite_t c27 h
      refine j_sub [1, 2, 3, 0] [(0, .ref (ad G (4, 0, 0, 0))), (1, .ref (ad G (3, a1, 0, 0))), (2, .int a2), (3, .int r2)] rfl ?_
      refine T_X4_readFact_b25 hG hlv hv1 hrc_X4_readFact hrc_X4_readTest C  a2 r2 D3 h
    · have h := ite_f c27 h
      refine j_aload_n C 1 dX4_readFact_19 rfl rfl ?_
      refine j_aload_n C 2 dX4_readFact_20 rfl rfl ?_
      obtain ⟨r29, D30, h28, h⟩ := cbd_x h
      refine j_callV C [.ref (ad G (3, a1, 0, 0))] [] cl_X4_70 (M_X4_readComparison (lv := lv - 1) hG (by omega) h28) (by omega) dX4_readFact_21 (by decide) ⟨rfl, rfl⟩ rfl rfl (Nat.le_of_ble_eq_true rfl) ?_
      refine j_st (st' := [.int r29]) rfl ?_
      obtain ⟨g31, h⟩ := grd_x h
      obtain ⟨rfl, rfl⟩ := pr_x h
      exact j_zret C g31 dX4_readFact_24
def F_X4_readTest_b105 (rc_X4_readFact : Nat → Int32 → Dt → Option (Int32 × Dt)) (a1 : Nat) (a2 : Int32) (k16 : Int32 → Int32 → Int32 → Dt → Option (Int32 × Dt)) (l2 : Int32) (l3 : Int32) (l4 : Int32) (D : Dt) : Option (Int32 × Dt) := (bnd (l4 + (1 : Int32)) (fun v18 => (k16 l2 l3 v18 D)))
set_option maxRecDepth 100000 in
set_option maxHeartbeats 4000000 in
theorem T_X4_readTest_b105 {r : Int32} {D' : Dt} {X : Ctx} {l : Launch} {G : Gt} {A : Nat → Prop} {lv : Nat} {rc_X4_readFact : Nat → Int32 → Dt → Option (Int32 × Dt)} {a1 : Nat} {a2 : Int32}  {k16 : Int32 → Int32 → Int32 → Dt → Option (Int32 × Dt)} (hG : Gok G A) (hlv : 5 ≤ lv) (hv1 : V (3, a1, 0, 0) = true) (hrc_X4_readFact : ∀ {b1 : Nat} {b2 : Int32} {D : Dt} {r : Int32} {D' : Dt}, rc_X4_readFact b1 b2 D = some (r, D') → MD l G A (lv - 1) yX4_readFact cX4_readFact 4 (some .boolean) [.ref (ad G (4, 0, 0, 0)), .ref (ad G (3, b1, 0, 0)), .int b2] D (some (.int r)) D') (C : Cx X cX4_readTest RX4 G l A lv 6 (some .boolean) (some (.int r)) D') (hk16 : ∀ (l2 : Int32) (l3 : Int32) (l4 : Int32) (D : Dt), k16 l2 l3 l4 D = some (r, D') → J X (Rep G D) 16 [(0, .ref (ad G (4, 0, 0, 0))), (1, .ref (ad G (3, a1, 0, 0))), (2, .int l2), (3, .int l3), (4, .int l4)] []) : ∀ (l2 : Int32) (l3 : Int32) (l4 : Int32) (D : Dt), F_X4_readTest_b105 rc_X4_readFact a1 a2 k16 l2 l3 l4 D = some (r, D') → J X (Rep G D) 105 [(0, .ref (ad G (4, 0, 0, 0))), (1, .ref (ad G (3, a1, 0, 0))), (2, .int l2), (3, .int l3), (4, .int l4)] [] := by
  intro l2 l3 l4 D h
  unfold F_X4_readTest_b105 at h
  obtain ⟨v18, ev18, h⟩ := bnd_x h
  refine j_iinc C 4 [(4, .int v18), (0, .ref (ad G (4, 0, 0, 0))), (1, .ref (ad G (3, a1, 0, 0))), (2, .int l2), (3, .int l3)] dX4_readTest_105 rfl (Nat.le_of_ble_eq_true rfl) (ev18.trans (congrArg (l4 + ·) (by decide))) rfl ?_
  refine j_goto C 16 dX4_readTest_108 (by decide) ?_
  refine j_sub [1, 2, 3, 4, 0] [(0, .ref (ad G (4, 0, 0, 0))), (1, .ref (ad G (3, a1, 0, 0))), (2, .int l2), (3, .int l3), (4, .int v18)] rfl ?_
  exact hk16 l2 l3 v18 D h
def F_X4_readTest_b75 (rc_X4_readFact : Nat → Int32 → Dt → Option (Int32 × Dt)) (a1 : Nat) (a2 : Int32) (k16 : Int32 → Int32 → Int32 → Dt → Option (Int32 × Dt)) (l2 : Int32) (l3 : Int32) (l4 : Int32) (l5 : Int32) (D : Dt) : Option (Int32 × Dt) := (cbd (rc_X4_readFact a1 l2 D) (fun r14 D15 => (if r14 = 0 then (some ((0 : Int32), D15)) else (if l5 = (36 : Int32) then (vbd (F_X3_add a1 (36 : Int32) (0 : Int32) D15) (fun D24 => (F_X4_readTest_b105 rc_X4_readFact a1 a2 (fun l2_25 l3_26 l4_27 D28 => (k16 l2_25 l3_26 l4_27 D28)) l2 l3 l4 D24))) else (F_X4_readTest_b105 rc_X4_readFact a1 a2 (fun l2_19 l3_20 l4_21 D22 => (k16 l2_19 l3_20 l4_21 D22)) l2 (1 : Int32) l4 D15)))))
set_option maxRecDepth 100000 in
set_option maxHeartbeats 4000000 in
theorem T_X4_readTest_b75 {r : Int32} {D' : Dt} {X : Ctx} {l : Launch} {G : Gt} {A : Nat → Prop} {lv : Nat} {rc_X4_readFact : Nat → Int32 → Dt → Option (Int32 × Dt)} {a1 : Nat} {a2 : Int32}  {k16 : Int32 → Int32 → Int32 → Dt → Option (Int32 × Dt)} (hG : Gok G A) (hlv : 5 ≤ lv) (hv1 : V (3, a1, 0, 0) = true) (hrc_X4_readFact : ∀ {b1 : Nat} {b2 : Int32} {D : Dt} {r : Int32} {D' : Dt}, rc_X4_readFact b1 b2 D = some (r, D') → MD l G A (lv - 1) yX4_readFact cX4_readFact 4 (some .boolean) [.ref (ad G (4, 0, 0, 0)), .ref (ad G (3, b1, 0, 0)), .int b2] D (some (.int r)) D') (C : Cx X cX4_readTest RX4 G l A lv 6 (some .boolean) (some (.int r)) D') (hk16 : ∀ (l2 : Int32) (l3 : Int32) (l4 : Int32) (D : Dt), k16 l2 l3 l4 D = some (r, D') → J X (Rep G D) 16 [(0, .ref (ad G (4, 0, 0, 0))), (1, .ref (ad G (3, a1, 0, 0))), (2, .int l2), (3, .int l3), (4, .int l4)] []) : ∀ (l2 : Int32) (l3 : Int32) (l4 : Int32) (l5 : Int32) (D : Dt), F_X4_readTest_b75 rc_X4_readFact a1 a2 k16 l2 l3 l4 l5 D = some (r, D') → J X (Rep G D) 75 [(0, .ref (ad G (4, 0, 0, 0))), (1, .ref (ad G (3, a1, 0, 0))), (2, .int l2), (3, .int l3), (4, .int l4), (5, .int l5)] [] := by
  intro l2 l3 l4 l5 D h
  unfold F_X4_readTest_b75 at h
  refine j_aload_n C 0 dX4_readTest_75 rfl rfl ?_
  refine j_aload_n C 1 dX4_readTest_76 rfl rfl ?_
  refine j_iload_n C 2 dX4_readTest_77 rfl rfl ?_
  obtain ⟨r14, D15, h13, h⟩ := cbd_x h
  refine j_callV C [.ref (ad G (3, a1, 0, 0)), .int l2] [] cl_X4_61 (hrc_X4_readFact h13) (by omega) dX4_readTest_78 (by decide) ⟨rfl, rfl⟩ rfl rfl (Nat.le_of_ble_eq_true rfl) ?_
  refine j_st (st' := [.int r14]) rfl ?_
  refine j_if_ne C 86 dX4_readTest_81 (by decide) (fun c16 => ?_) (fun c16 => ?_)
  · have h := ite_f c16 h
    refine j_iload C 5 dX4_readTest_86 rfl ?_
    refine j_bipush C (36 : Int32) (by decide) dX4_readTest_88 ?_
    refine j_icmp_ne C 103 dX4_readTest_90 (by decide) (fun c17 => ?_) (fun c17 => ?_)
    · have h := ite_f c17 h
      refine j_iconst C (1 : Int32) (by decide) dX4_readTest_103 ?_
      refine j_istore_n C [(3, .int (1 : Int32)), (0, .ref (ad G (4, 0, 0, 0))), (1, .ref (ad G (3, a1, 0, 0))), (2, .int l2), (4, .int l4), (5, .int l5)] dX4_readTest_104 rfl (Nat.le_of_ble_eq_true rfl) rfl rfl ?_
      refine j_sub [1, 2, 3, 0, 4] [(0, .ref (ad G (4, 0, 0, 0))), (1, .ref (ad G (3, a1, 0, 0))), (2, .int l2), (3, .int (1 : Int32)), (4, .int l4)] rfl ?_
      refine T_X4_readTest_b105 hG hlv hv1 hrc_X4_readFact C (fun l2_19 l3_20 l4_21 D22 h => ?_) l2 (1 : Int32) l4 D15 h
      · exact hk16 l2_19 l3_20 l4_21 D22 h
    · have h := ite_t c17 h
      refine j_aload_n C 1 dX4_readTest_93 rfl rfl ?_
      refine j_bipush C (36 : Int32) (by decide) dX4_readTest_94 ?_
      refine j_iconst C (0 : Int32) (by decide) dX4_readTest_96 ?_
      obtain ⟨D24, h23, h⟩ := vbd_x h
      refine j_callV C [.int (36 : Int32), .int (0 : Int32)] [] cl_X4_67 (M_X3_add (lv := lv - 1) hG (by omega) h23) (by omega) dX4_readTest_97 hv1 ⟨rfl, rfl⟩ rfl rfl (Nat.le_of_ble_eq_true rfl) ?_
      refine j_st (st' := []) rfl ?_
      refine j_goto C 105 dX4_readTest_100 (by decide) ?_
      refine j_sub [0, 1, 2, 3, 4] [(0, .ref (ad G (4, 0, 0, 0))), (1, .ref (ad G (3, a1, 0, 0))), (2, .int l2), (3, .int l3), (4, .int l4)] rfl ?_
      refine T_X4_readTest_b105 hG hlv hv1 hrc_X4_readFact C (fun l2_25 l3_26 l4_27 D28 h => ?_) l2 l3 l4 D24 h
      · exact hk16 l2_25 l3_26 l4_27 D28 h
  · have h := ite_t c16 h
    refine j_iconst C (0 : Int32) (by decide) dX4_readTest_84 ?_
    obtain ⟨rfl, rfl⟩ := pr_x h
    exact j_zret C (Or.inl rfl) dX4_readTest_85
def F_X4_readTest_b50 (rc_X4_readFact : Nat → Int32 → Dt → Option (Int32 × Dt)) (a1 : Nat) (a2 : Int32) (k16 : Int32 → Int32 → Int32 → Dt → Option (Int32 × Dt)) (l2 : Int32) (l3 : Int32) (l4 : Int32) (l5 : Int32) (D : Dt) : Option (Int32 × Dt) := (vbd (F_X2_step  D) (fun D11 => (if l5 = (37 : Int32) then (if l3 = 0 then (F_X4_readTest_b75 rc_X4_readFact a1 a2 (fun l2_34 l3_35 l4_36 D37 => (k16 l2_34 l3_35 l4_36 D37)) l2 l3 l4 l5 D11) else (vbd (F_X3_add a1 (37 : Int32) (0 : Int32) D11) (fun D39 => (F_X4_readTest_b75 rc_X4_readFact a1 a2 (fun l2_40 l3_41 l4_42 D43 => (k16 l2_40 l3_41 l4_42 D43)) l2 l3 l4 l5 D39)))) else (F_X4_readTest_b75 rc_X4_readFact a1 a2 (fun l2_29 l3_30 l4_31 D32 => (k16 l2_29 l3_30 l4_31 D32)) l2 l3 l4 l5 D11))))
set_option maxRecDepth 100000 in
set_option maxHeartbeats 4000000 in
theorem T_X4_readTest_b50 {r : Int32} {D' : Dt} {X : Ctx} {l : Launch} {G : Gt} {A : Nat → Prop} {lv : Nat} {rc_X4_readFact : Nat → Int32 → Dt → Option (Int32 × Dt)} {a1 : Nat} {a2 : Int32}  {k16 : Int32 → Int32 → Int32 → Dt → Option (Int32 × Dt)} (hG : Gok G A) (hlv : 5 ≤ lv) (hv1 : V (3, a1, 0, 0) = true) (hrc_X4_readFact : ∀ {b1 : Nat} {b2 : Int32} {D : Dt} {r : Int32} {D' : Dt}, rc_X4_readFact b1 b2 D = some (r, D') → MD l G A (lv - 1) yX4_readFact cX4_readFact 4 (some .boolean) [.ref (ad G (4, 0, 0, 0)), .ref (ad G (3, b1, 0, 0)), .int b2] D (some (.int r)) D') (C : Cx X cX4_readTest RX4 G l A lv 6 (some .boolean) (some (.int r)) D') (hk16 : ∀ (l2 : Int32) (l3 : Int32) (l4 : Int32) (D : Dt), k16 l2 l3 l4 D = some (r, D') → J X (Rep G D) 16 [(0, .ref (ad G (4, 0, 0, 0))), (1, .ref (ad G (3, a1, 0, 0))), (2, .int l2), (3, .int l3), (4, .int l4)] []) : ∀ (l2 : Int32) (l3 : Int32) (l4 : Int32) (l5 : Int32) (D : Dt), F_X4_readTest_b50 rc_X4_readFact a1 a2 k16 l2 l3 l4 l5 D = some (r, D') → J X (Rep G D) 50 [(0, .ref (ad G (4, 0, 0, 0))), (1, .ref (ad G (3, a1, 0, 0))), (2, .int l2), (3, .int l3), (4, .int l4), (5, .int l5)] [] := by
  intro l2 l3 l4 l5 D h
  unfold F_X4_readTest_b50 at h
  refine j_aload_n C 0 dX4_readTest_50 rfl rfl ?_
  refine j_getS C (2, 0, 0, 0) fl_X4_9 dX4_readTest_51 (by decide) ⟨rfl, rfl⟩ rfl rfl ?_
  obtain ⟨D11, h10, h⟩ := vbd_x h
  refine j_callV C [] [] cl_X4_64 (M_X2_step (lv := lv - 1) hG (by omega) h10) (by omega) dX4_readTest_54 (by decide) ⟨rfl, rfl⟩ rfl rfl (Nat.le_of_ble_eq_true rfl) ?_
  refine j_st (st' := []) rfl ?_
  refine j_iload C 5 dX4_readTest_57 rfl ?_
  refine j_bipush C (37 : Int32) (by decide) dX4_readTest_59 ?_
  refine j_icmp_ne C 75 dX4_readTest_61 (by decide) (fun c12 => ?_) (fun c12 => ?_)
  · have h := ite_f c12 h
    refine T_X4_readTest_b75 hG hlv hv1 hrc_X4_readFact C (fun l2_29 l3_30 l4_31 D32 h => ?_) l2 l3 l4 l5 D11 h
    · exact hk16 l2_29 l3_30 l4_31 D32 h
  · have h := ite_t c12 h
    refine j_iload_n C 3 dX4_readTest_64 rfl rfl ?_
    refine j_if_eq C 75 dX4_readTest_65 (by decide) (fun c33 => ?_) (fun c33 => ?_)
    · have h := ite_t c33 h
      refine T_X4_readTest_b75 hG hlv hv1 hrc_X4_readFact C (fun l2_34 l3_35 l4_36 D37 h => ?_) l2 l3 l4 l5 D11 h
      · exact hk16 l2_34 l3_35 l4_36 D37 h
    · have h := ite_f c33 h
      refine j_aload_n C 1 dX4_readTest_68 rfl rfl ?_
      refine j_bipush C (37 : Int32) (by decide) dX4_readTest_69 ?_
      refine j_iconst C (0 : Int32) (by decide) dX4_readTest_71 ?_
      obtain ⟨D39, h38, h⟩ := vbd_x h
      refine j_callV C [.int (37 : Int32), .int (0 : Int32)] [] cl_X4_67 (M_X3_add (lv := lv - 1) hG (by omega) h38) (by omega) dX4_readTest_72 hv1 ⟨rfl, rfl⟩ rfl rfl (Nat.le_of_ble_eq_true rfl) ?_
      refine j_st (st' := []) rfl ?_
      refine T_X4_readTest_b75 hG hlv hv1 hrc_X4_readFact C (fun l2_40 l3_41 l4_42 D43 h => ?_) l2 l3 l4 l5 D39 h
      · exact hk16 l2_40 l3_41 l4_42 D43 h
def F_X4_readTest_b16 (rc_X4_readFact : Nat → Int32 → Dt → Option (Int32 × Dt)) (a1 : Nat) (a2 : Int32) (k111 : Int32 → Dt → Option (Int32 × Dt)) (k47 : Int32 → Dt → Option (Int32 × Dt)) : Nat → Int32 → Int32 → Int32 → Dt → Option (Int32 × Dt)
  | 0, _, _, _, _ => none
  | f + 1, l2, l3, l4, D => (if (400 : Int32) ≤ l4 then (k111 l3 D) else (cbd (F_X2_sign  D) (fun r7 D8 => (if r7 = (36 : Int32) then (F_X4_readTest_b50 rc_X4_readFact a1 a2 (fun l2_44 l3_45 l4_46 D47 => (F_X4_readTest_b16 rc_X4_readFact a1 a2 k111 k47 f l2_44 l3_45 l4_46 D47)) l2 l3 l4 r7 D8) else (if r7 = (37 : Int32) then (F_X4_readTest_b50 rc_X4_readFact a1 a2 (fun l2_49 l3_50 l4_51 D52 => (F_X4_readTest_b16 rc_X4_readFact a1 a2 k111 k47 f l2_49 l3_50 l4_51 D52)) l2 l3 l4 r7 D8) else (k47 l3 D8))))))
set_option maxRecDepth 100000 in
set_option maxHeartbeats 4000000 in
theorem T_X4_readTest_b16 {r : Int32} {D' : Dt} {X : Ctx} {l : Launch} {G : Gt} {A : Nat → Prop} {lv : Nat} {rc_X4_readFact : Nat → Int32 → Dt → Option (Int32 × Dt)} {a1 : Nat} {a2 : Int32}  {k111 : Int32 → Dt → Option (Int32 × Dt)} {k47 : Int32 → Dt → Option (Int32 × Dt)} (hG : Gok G A) (hlv : 5 ≤ lv) (hv1 : V (3, a1, 0, 0) = true) (hrc_X4_readFact : ∀ {b1 : Nat} {b2 : Int32} {D : Dt} {r : Int32} {D' : Dt}, rc_X4_readFact b1 b2 D = some (r, D') → MD l G A (lv - 1) yX4_readFact cX4_readFact 4 (some .boolean) [.ref (ad G (4, 0, 0, 0)), .ref (ad G (3, b1, 0, 0)), .int b2] D (some (.int r)) D') (C : Cx X cX4_readTest RX4 G l A lv 6 (some .boolean) (some (.int r)) D') (hk111 : ∀ (l3 : Int32) (D : Dt), k111 l3 D = some (r, D') → J X (Rep G D) 111 [(1, .ref (ad G (3, a1, 0, 0))), (3, .int l3)] []) (hk47 : ∀ (l3 : Int32) (D : Dt), k47 l3 D = some (r, D') → J X (Rep G D) 47 [(1, .ref (ad G (3, a1, 0, 0))), (3, .int l3)] []) : ∀ (f : Nat) (l2 : Int32) (l3 : Int32) (l4 : Int32) (D : Dt), F_X4_readTest_b16 rc_X4_readFact a1 a2 k111 k47 f l2 l3 l4 D = some (r, D') → J X (Rep G D) 16 [(0, .ref (ad G (4, 0, 0, 0))), (1, .ref (ad G (3, a1, 0, 0))), (2, .int l2), (3, .int l3), (4, .int l4)] [] := by
  intro f
  induction f with
  | zero =>
    intro l2 l3 l4 D h
    exact nomatch h
  | succ f ih =>
    intro l2 l3 l4 D h
    rw [F_X4_readTest_b16] at h
    refine j_iload C 4 dX4_readTest_16 rfl ?_
    refine j_sipush C (400 : Int32) (by decide) dX4_readTest_18 ?_
    refine j_icmp_ge C 111 dX4_readTest_21 (by decide) (fun c5 => ?_) (fun c5 => ?_)
    · have h := ite_t c5 h
      refine j_sub [1, 3] [(1, .ref (ad G (3, a1, 0, 0))), (3, .int l3)] rfl ?_
      exact hk111 l3 D h
    · have h := ite_f c5 h
      refine j_aload_n C 0 dX4_readTest_24 rfl rfl ?_
      refine j_getS C (2, 0, 0, 0) fl_X4_9 dX4_readTest_25 (by decide) ⟨rfl, rfl⟩ rfl rfl ?_
      obtain ⟨r7, D8, h6, h⟩ := cbd_x h
      refine j_callV C [] [] cl_X4_51 (M_X2_sign (lv := lv - 1) hG (by omega) h6) (by omega) dX4_readTest_28 (by decide) ⟨rfl, rfl⟩ rfl rfl (Nat.le_of_ble_eq_true rfl) ?_
      refine j_st (st' := [.int r7]) rfl ?_
      refine j_istore C [(5, .int r7), (0, .ref (ad G (4, 0, 0, 0))), (1, .ref (ad G (3, a1, 0, 0))), (2, .int l2), (3, .int l3), (4, .int l4)] dX4_readTest_31 (Nat.le_of_ble_eq_true rfl) rfl rfl ?_
      refine j_iload C 0 dX4_readTest_33 rfl ?_
      refine j_bipush C (36 : Int32) (by decide) dX4_readTest_35 ?_
      refine j_icmp_eq C 50 dX4_readTest_37 (by decide) (fun c9 => ?_) (fun c9 => ?_)
      · have h := ite_t c9 h
        refine j_sub [1, 2, 3, 4, 5, 0] [(0, .ref (ad G (4, 0, 0, 0))), (1, .ref (ad G (3, a1, 0, 0))), (2, .int l2), (3, .int l3), (4, .int l4), (5, .int r7)] rfl ?_
        refine T_X4_readTest_b50 hG hlv hv1 hrc_X4_readFact C (fun l2_44 l3_45 l4_46 D47 h => ?_) l2 l3 l4 r7 D8 h
        · exact ih l2_44 l3_45 l4_46 D47 h
      · have h := ite_f c9 h
        refine j_iload C 0 dX4_readTest_40 rfl ?_
        refine j_bipush C (37 : Int32) (by decide) dX4_readTest_42 ?_
        refine j_icmp_eq C 50 dX4_readTest_44 (by decide) (fun c48 => ?_) (fun c48 => ?_)
        · have h := ite_t c48 h
          refine j_sub [1, 2, 3, 4, 5, 0] [(0, .ref (ad G (4, 0, 0, 0))), (1, .ref (ad G (3, a1, 0, 0))), (2, .int l2), (3, .int l3), (4, .int l4), (5, .int r7)] rfl ?_
          refine T_X4_readTest_b50 hG hlv hv1 hrc_X4_readFact C (fun l2_49 l3_50 l4_51 D52 h => ?_) l2 l3 l4 r7 D8 h
          · exact ih l2_49 l3_50 l4_51 D52 h
        · have h := ite_f c48 h
          refine j_sub [2, 4] [(1, .ref (ad G (3, a1, 0, 0))), (3, .int l3)] rfl ?_
          exact hk47 l3 D8 h
def F_X4_readTest_b111 (rc_X4_readFact : Nat → Int32 → Dt → Option (Int32 × Dt)) (a1 : Nat) (a2 : Int32)  (l3 : Int32) (D : Dt) : Option (Int32 × Dt) := (if l3 = 0 then (some ((1 : Int32), D)) else (vbd (F_X3_add a1 (37 : Int32) (0 : Int32) D) (fun D57 => (some ((1 : Int32), D57)))))
set_option maxRecDepth 100000 in
set_option maxHeartbeats 4000000 in
theorem T_X4_readTest_b111 {r : Int32} {D' : Dt} {X : Ctx} {l : Launch} {G : Gt} {A : Nat → Prop} {lv : Nat} {rc_X4_readFact : Nat → Int32 → Dt → Option (Int32 × Dt)} {a1 : Nat} {a2 : Int32}   (hG : Gok G A) (hlv : 5 ≤ lv) (hv1 : V (3, a1, 0, 0) = true) (hrc_X4_readFact : ∀ {b1 : Nat} {b2 : Int32} {D : Dt} {r : Int32} {D' : Dt}, rc_X4_readFact b1 b2 D = some (r, D') → MD l G A (lv - 1) yX4_readFact cX4_readFact 4 (some .boolean) [.ref (ad G (4, 0, 0, 0)), .ref (ad G (3, b1, 0, 0)), .int b2] D (some (.int r)) D') (C : Cx X cX4_readTest RX4 G l A lv 6 (some .boolean) (some (.int r)) D')  : ∀ (l3 : Int32) (D : Dt), F_X4_readTest_b111 rc_X4_readFact a1 a2 l3 D = some (r, D') → J X (Rep G D) 111 [(1, .ref (ad G (3, a1, 0, 0))), (3, .int l3)] [] := by
  intro l3 D h
  unfold F_X4_readTest_b111 at h
  refine j_iload_n C 1 dX4_readTest_111 rfl rfl ?_
  refine j_if_eq C 122 dX4_readTest_112 (by decide) (fun c55 => ?_) (fun c55 => ?_)
  · have h := ite_t c55 h
    refine j_iconst C (1 : Int32) (by decide) dX4_readTest_122 ?_
    obtain ⟨rfl, rfl⟩ := pr_x h
    exact j_zret C (Or.inr rfl) dX4_readTest_123
  · have h := ite_f c55 h
    refine j_aload_n C 0 dX4_readTest_115 rfl rfl ?_
    refine j_bipush C (37 : Int32) (by decide) dX4_readTest_116 ?_
    refine j_iconst C (0 : Int32) (by decide) dX4_readTest_118 ?_
    obtain ⟨D57, h56, h⟩ := vbd_x h
    refine j_callV C [.int (37 : Int32), .int (0 : Int32)] [] cl_X4_67 (M_X3_add (lv := lv - 1) hG (by omega) h56) (by omega) dX4_readTest_119 hv1 ⟨rfl, rfl⟩ rfl rfl (Nat.le_of_ble_eq_true rfl) ?_
    refine j_st (st' := []) rfl ?_
    refine j_iconst C (1 : Int32) (by decide) dX4_readTest_122 ?_
    obtain ⟨rfl, rfl⟩ := pr_x h
    exact j_zret C (Or.inr rfl) dX4_readTest_123
def FG_X4_readTest (rc_X4_readFact : Nat → Int32 → Dt → Option (Int32 × Dt)) (a1 : Nat) (a2 : Int32) (D : Dt) : Option (Int32 × Dt) := (grd (V (3, a1, 0, 0) = true) (cbd (rc_X4_readFact a1 a2 D) (fun r2 D3 => (if r2 = 0 then (some ((0 : Int32), D3)) else (F_X4_readTest_b16 rc_X4_readFact a1 a2 (fun l3_53 D54 => (F_X4_readTest_b111 rc_X4_readFact a1 a2 l3_53 D54)) (fun l3_58 D59 => (F_X4_readTest_b111 rc_X4_readFact a1 a2 l3_58 D59)) 2000 a2 (0 : Int32) (0 : Int32) D3)))))
set_option maxRecDepth 100000 in
set_option maxHeartbeats 4000000 in
theorem MG_X4_readTest {l : Launch} {G : Gt} {A : Nat → Prop} {lv : Nat} {rc_X4_readFact : Nat → Int32 → Dt → Option (Int32 × Dt)} {a1 : Nat} {a2 : Int32} {D : Dt} {r : Int32} {D' : Dt} (hG : Gok G A) (hlv : 5 ≤ lv) (hrc_X4_readFact : ∀ {b1 : Nat} {b2 : Int32} {D : Dt} {r : Int32} {D' : Dt}, rc_X4_readFact b1 b2 D = some (r, D') → MD l G A (lv - 1) yX4_readFact cX4_readFact 4 (some .boolean) [.ref (ad G (4, 0, 0, 0)), .ref (ad G (3, b1, 0, 0)), .int b2] D (some (.int r)) D') (h : FG_X4_readTest rc_X4_readFact a1 a2 D = some (r, D')) : MD l G A lv yX4_readTest cX4_readTest 6 (some .boolean) [.ref (ad G (4, 0, 0, 0)), .ref (ad G (3, a1, 0, 0)), .int a2] D (some (.int r)) D' := by
  unfold FG_X4_readTest at h
  obtain ⟨hv1, h⟩ := grd_x h
  refine md_start RX4 hG (by decide +kernel) rfl (Nat.le_of_ble_eq_true rfl) (L := [(0, .ref (ad G (4, 0, 0, 0))), (1, .ref (ad G (3, a1, 0, 0))), (2, .int a2)]) rfl (fun X C => ?_)
  refine j_aload_n C 0 dX4_readTest_0 rfl rfl ?_
  refine j_aload_n C 1 dX4_readTest_1 rfl rfl ?_
  refine j_iload_n C 2 dX4_readTest_2 rfl rfl ?_
  obtain ⟨r2, D3, h1, h⟩ := cbd_x h
  refine j_callV C [.ref (ad G (3, a1, 0, 0)), .int a2] [] cl_X4_61 (hrc_X4_readFact h1) (by omega) dX4_readTest_3 (by decide) ⟨rfl, rfl⟩ rfl rfl (Nat.le_of_ble_eq_true rfl) ?_
  refine j_st (st' := [.int r2]) rfl ?_
  refine j_if_ne C 11 dX4_readTest_6 (by decide) (fun c4 => ?_) (fun c4 => ?_)
  · have h := ite_f c4 h
    refine j_iconst C (0 : Int32) (by decide) dX4_readTest_11 ?_
    refine j_istore_n C [(3, .int (0 : Int32)), (0, .ref (ad G (4, 0, 0, 0))), (1, .ref (ad G (3, a1, 0, 0))), (2, .int a2)] dX4_readTest_12 rfl (Nat.le_of_ble_eq_true rfl) rfl rfl ?_
    refine j_iconst C (0 : Int32) (by decide) dX4_readTest_13 ?_
    refine j_istore C [(4, .int (0 : Int32)), (3, .int (0 : Int32)), (0, .ref (ad G (4, 0, 0, 0))), (1, .ref (ad G (3, a1, 0, 0))), (2, .int a2)] dX4_readTest_14 (Nat.le_of_ble_eq_true rfl) rfl rfl ?_
    refine j_sub [2, 3, 4, 1, 0] [(0, .ref (ad G (4, 0, 0, 0))), (1, .ref (ad G (3, a1, 0, 0))), (2, .int a2), (3, .int (0 : Int32)), (4, .int (0 : Int32))] rfl ?_
    refine T_X4_readTest_b16 hG hlv hv1 hrc_X4_readFact C (fun l3_53 D54 h => ?_) (fun l3_58 D59 h => ?_) 2000 a2 (0 : Int32) (0 : Int32) D3 h
    · refine T_X4_readTest_b111 hG hlv hv1 hrc_X4_readFact C  l3_53 D54 h
    · refine j_goto C 111 dX4_readTest_47 (by decide) ?_
      refine T_X4_readTest_b111 hG hlv hv1 hrc_X4_readFact C  l3_58 D59 h
  · have h := ite_t c4 h
    refine j_iconst C (0 : Int32) (by decide) dX4_readTest_9 ?_
    obtain ⟨rfl, rfl⟩ := pr_x h
    exact j_zret C (Or.inl rfl) dX4_readTest_10
def F_X4_readFact_f : Nat → Nat → Int32 → Dt → Option (Int32 × Dt)
  | 0, _, _, _ => none
  | n + 1, b1, b2, D => FG_X4_readFact (F_X4_readFact_f n) (FG_X4_readTest (F_X4_readFact_f n)) b1 b2 D
theorem M_X4_readFact_f {l : Launch} {G : Gt} {A : Nat → Prop} (hG : Gok G A) : ∀ (n : Nat) {lv : Nat}, 5 + 2 * n ≤ lv → ∀ {b1 : Nat} {b2 : Int32} {D : Dt} {r : Int32} {D' : Dt}, F_X4_readFact_f n b1 b2 D = some (r, D') → MD l G A lv yX4_readFact cX4_readFact 4 (some .boolean) [.ref (ad G (4, 0, 0, 0)), .ref (ad G (3, b1, 0, 0)), .int b2] D (some (.int r)) D' := by
  intro n
  induction n with
  | zero =>
    intro lv hlv b1 b2 D r D' h
    exact nomatch h
  | succ n ih =>
    intro lv hlv b1 b2 D r D' h
    exact MG_X4_readFact hG (by omega) (fun h => ih (by omega) h) (fun h => MG_X4_readTest hG (by omega) (fun h => ih (by omega) h) h) h
def F_X4_readFact (b1 : Nat) (b2 : Int32) (D : Dt) : Option (Int32 × Dt) := F_X4_readFact_f 16 b1 b2 D
def F_X4_readTest (b1 : Nat) (b2 : Int32) (D : Dt) : Option (Int32 × Dt) := FG_X4_readTest (F_X4_readFact_f 16) b1 b2 D
theorem M_X4_readFact {l : Launch} {G : Gt} {A : Nat → Prop} {lv : Nat} {b1 : Nat} {b2 : Int32} {D : Dt} {r : Int32} {D' : Dt} (hG : Gok G A) (hlv : 45 ≤ lv) (h : F_X4_readFact b1 b2 D = some (r, D')) : MD l G A lv yX4_readFact cX4_readFact 4 (some .boolean) [.ref (ad G (4, 0, 0, 0)), .ref (ad G (3, b1, 0, 0)), .int b2] D (some (.int r)) D' := M_X4_readFact_f hG 16 (by omega) h
theorem M_X4_readTest {l : Launch} {G : Gt} {A : Nat → Prop} {lv : Nat} {b1 : Nat} {b2 : Int32} {D : Dt} {r : Int32} {D' : Dt} (hG : Gok G A) (hlv : 45 ≤ lv) (h : F_X4_readTest b1 b2 D = some (r, D')) : MD l G A lv yX4_readTest cX4_readTest 6 (some .boolean) [.ref (ad G (4, 0, 0, 0)), .ref (ad G (3, b1, 0, 0)), .int b2] D (some (.int r)) D' := MG_X4_readTest hG (by omega) (fun h => M_X4_readFact_f hG 16 (by omega) h) h
def F_X4_takeBuy_b27 (a1 : Int32)   (D : Dt) : Option (Int32 × Dt) := (cbd (F_X2_demand (33 : Int32) D) (fun r6 D7 => (grd (r6 = 0 ∨ r6 = 1) (some (r6, D7)))))
set_option maxRecDepth 100000 in
set_option maxHeartbeats 4000000 in
theorem T_X4_takeBuy_b27 {r : Int32} {D' : Dt} {X : Ctx} {l : Launch} {G : Gt} {A : Nat → Prop} {lv : Nat} {a1 : Int32}   (hG : Gok G A) (hlv : 4 ≤ lv)   (C : Cx X cX4_takeBuy RX4 G l A lv 2 (some .boolean) (some (.int r)) D')  : ∀  (D : Dt), F_X4_takeBuy_b27 a1  D = some (r, D') → J X (Rep G D) 27 [(0, .ref (ad G (4, 0, 0, 0)))] [] := by
  intro D h
  unfold F_X4_takeBuy_b27 at h
  refine j_aload_n C 0 dX4_takeBuy_27 rfl rfl ?_
  refine j_getS C (2, 0, 0, 0) fl_X4_9 dX4_takeBuy_28 (by decide) ⟨rfl, rfl⟩ rfl rfl ?_
  refine j_bipush C (33 : Int32) (by decide) dX4_takeBuy_31 ?_
  obtain ⟨r6, D7, h5, h⟩ := cbd_x h
  refine j_callV C [.int (33 : Int32)] [] cl_X4_55 (M_X2_demand (lv := lv - 1) hG (by omega) h5) (by omega) dX4_takeBuy_33 (by decide) ⟨rfl, rfl⟩ rfl rfl (Nat.le_of_ble_eq_true rfl) ?_
  refine j_st (st' := [.int r6]) rfl ?_
  obtain ⟨g8, h⟩ := grd_x h
  obtain ⟨rfl, rfl⟩ := pr_x h
  exact j_zret C g8 dX4_takeBuy_36
def F_X4_takeBuy (a1 : Int32) (D : Dt) : Option (Int32 × Dt) := (cbd (F_X2_sign  D) (fun r2 D3 => (if r2 = (33 : Int32) then (if a1 < (12 : Int32) then (F_X4_takeBuy_b27 a1  D3) else (cbd (F_X2_fail (4 : Int32) D3) (fun r11 D12 => (grd (r11 = 0 ∨ r11 = 1) (some (r11, D12)))))) else (F_X4_takeBuy_b27 a1  D3))))
set_option maxRecDepth 100000 in
set_option maxHeartbeats 4000000 in
theorem M_X4_takeBuy {l : Launch} {G : Gt} {A : Nat → Prop} {lv : Nat} {a1 : Int32} {D : Dt} {r : Int32} {D' : Dt} (hG : Gok G A) (hlv : 4 ≤ lv)  (h : F_X4_takeBuy a1 D = some (r, D')) : MD l G A lv yX4_takeBuy cX4_takeBuy 2 (some .boolean) [.ref (ad G (4, 0, 0, 0)), .int a1] D (some (.int r)) D' := by
  unfold F_X4_takeBuy at h
  refine md_start RX4 hG (by decide +kernel) rfl (Nat.le_of_ble_eq_true rfl) (L := [(0, .ref (ad G (4, 0, 0, 0))), (1, .int a1)]) rfl (fun X C => ?_)
  refine j_aload_n C 0 dX4_takeBuy_0 rfl rfl ?_
  refine j_getS C (2, 0, 0, 0) fl_X4_9 dX4_takeBuy_1 (by decide) ⟨rfl, rfl⟩ rfl rfl ?_
  obtain ⟨r2, D3, h1, h⟩ := cbd_x h
  refine j_callV C [] [] cl_X4_51 (M_X2_sign (lv := lv - 1) hG (by omega) h1) (by omega) dX4_takeBuy_4 (by decide) ⟨rfl, rfl⟩ rfl rfl (Nat.le_of_ble_eq_true rfl) ?_
  refine j_st (st' := [.int r2]) rfl ?_
  refine j_bipush C (33 : Int32) (by decide) dX4_takeBuy_7 ?_
  refine j_icmp_ne C 27 dX4_takeBuy_9 (by decide) (fun c4 => ?_) (fun c4 => ?_)
  · have h := ite_f c4 h
    refine j_sub [0] [(0, .ref (ad G (4, 0, 0, 0)))] rfl ?_
    refine T_X4_takeBuy_b27 hG hlv  C   D3 h
  · have h := ite_t c4 h
    refine j_iload_n C 1 dX4_takeBuy_12 rfl rfl ?_
    refine j_bipush C (12 : Int32) (by decide) dX4_takeBuy_13 ?_
    refine j_icmp_lt C 27 dX4_takeBuy_15 (by decide) (fun c9 => ?_) (fun c9 => ?_)
    · have h := ite_t c9 h
      refine j_sub [0] [(0, .ref (ad G (4, 0, 0, 0)))] rfl ?_
      refine T_X4_takeBuy_b27 hG hlv  C   D3 h
    · have h := ite_f c9 h
      refine j_aload_n C 0 dX4_takeBuy_18 rfl rfl ?_
      refine j_getS C (2, 0, 0, 0) fl_X4_9 dX4_takeBuy_19 (by decide) ⟨rfl, rfl⟩ rfl rfl ?_
      refine j_iconst C (4 : Int32) (by decide) dX4_takeBuy_22 ?_
      obtain ⟨r11, D12, h10, h⟩ := cbd_x h
      refine j_callV C [.int (4 : Int32)] [] cl_X4_58 (M_X2_fail (lv := lv - 1) hG (by omega) h10) (by omega) dX4_takeBuy_23 (by decide) ⟨rfl, rfl⟩ rfl rfl (Nat.le_of_ble_eq_true rfl) ?_
      refine j_st (st' := [.int r11]) rfl ?_
      obtain ⟨g13, h⟩ := grd_x h
      obtain ⟨rfl, rfl⟩ := pr_x h
      exact j_zret C g13 dX4_takeBuy_26
def F_X4_read_b89 (a1 : Nat) (k11 : Int32 → Dt → Option (Int32 × Dt)) (l2 : Int32) (l3 : Int32) (l4 : Int32) (D : Dt) : Option (Int32 × Dt) := (vbd (F_X3_addClause a1 l3 l4 D) (fun D20 => (cbd (F_X2_sign  D20) (fun r22 D23 => (if r22 = 0 then (some ((0 : Int32), D23)) else (cbd (F_X2_demand (4 : Int32) D23) (fun r26 D27 => (if r26 = 0 then (some ((D27.1 (2, 0, 0, 0) 7), D27)) else (bnd (l2 + (1 : Int32)) (fun v29 => (k11 v29 D27)))))))))))
set_option maxRecDepth 100000 in
set_option maxHeartbeats 4000000 in
theorem T_X4_read_b89 {r : Int32} {D' : Dt} {X : Ctx} {l : Launch} {G : Gt} {A : Nat → Prop} {lv : Nat} {a1 : Nat}  {k11 : Int32 → Dt → Option (Int32 × Dt)} (hG : Gok G A) (hlv : 46 ≤ lv) (hv1 : V (3, a1, 0, 0) = true)  (C : Cx X cX4_read RX4 G l A lv 5 (some .int) (some (.int r)) D') (hk11 : ∀ (l2 : Int32) (D : Dt), k11 l2 D = some (r, D') → J X (Rep G D) 11 [(0, .ref (ad G (4, 0, 0, 0))), (1, .ref (ad G (3, a1, 0, 0))), (2, .int l2)] []) : ∀ (l2 : Int32) (l3 : Int32) (l4 : Int32) (D : Dt), F_X4_read_b89 a1 k11 l2 l3 l4 D = some (r, D') → J X (Rep G D) 89 [(0, .ref (ad G (4, 0, 0, 0))), (1, .ref (ad G (3, a1, 0, 0))), (2, .int l2), (3, .int l3), (4, .int l4)] [] := by
  intro l2 l3 l4 D h
  unfold F_X4_read_b89 at h
  refine j_aload_n C 1 dX4_read_89 rfl rfl ?_
  refine j_iload_n C 3 dX4_read_90 rfl rfl ?_
  refine j_iload C 4 dX4_read_91 rfl ?_
  obtain ⟨D20, h19, h⟩ := vbd_x h
  refine j_callV C [.int l3, .int l4] [] cl_X4_47 (M_X3_addClause (lv := lv - 1) hG (by omega) h19) (by omega) dX4_read_93 hv1 ⟨rfl, rfl⟩ rfl rfl (Nat.le_of_ble_eq_true rfl) ?_
  refine j_st (st' := []) rfl ?_
  refine j_aload_n C 0 dX4_read_96 rfl rfl ?_
  refine j_getS C (2, 0, 0, 0) fl_X4_9 dX4_read_97 (by decide) ⟨rfl, rfl⟩ rfl rfl ?_
  obtain ⟨r22, D23, h21, h⟩ := cbd_x h
  refine j_callV C [] [] cl_X4_51 (M_X2_sign (lv := lv - 1) hG (by omega) h21) (by omega) dX4_read_100 (by decide) ⟨rfl, rfl⟩ rfl rfl (Nat.le_of_ble_eq_true rfl) ?_
  refine j_st (st' := [.int r22]) rfl ?_
  refine j_if_ne C 108 dX4_read_103 (by decide) (fun c24 => ?_) (fun c24 => ?_)
  · have h := ite_f c24 h
    refine j_aload_n C 0 dX4_read_108 rfl rfl ?_
    refine j_getS C (2, 0, 0, 0) fl_X4_9 dX4_read_109 (by decide) ⟨rfl, rfl⟩ rfl rfl ?_
    refine j_iconst C (4 : Int32) (by decide) dX4_read_112 ?_
    obtain ⟨r26, D27, h25, h⟩ := cbd_x h
    refine j_callV C [.int (4 : Int32)] [] cl_X4_55 (M_X2_demand (lv := lv - 1) hG (by omega) h25) (by omega) dX4_read_113 (by decide) ⟨rfl, rfl⟩ rfl rfl (Nat.le_of_ble_eq_true rfl) ?_
    refine j_st (st' := [.int r26]) rfl ?_
    refine j_if_ne C 127 dX4_read_116 (by decide) (fun c28 => ?_) (fun c28 => ?_)
    · have h := ite_f c28 h
      obtain ⟨v29, ev29, h⟩ := bnd_x h
      refine j_iinc C 2 [(2, .int v29), (0, .ref (ad G (4, 0, 0, 0))), (1, .ref (ad G (3, a1, 0, 0))), (3, .int l3), (4, .int l4)] dX4_read_127 rfl (Nat.le_of_ble_eq_true rfl) (ev29.trans (congrArg (l2 + ·) (by decide))) rfl ?_
      refine j_goto C 11 dX4_read_130 (by decide) ?_
      refine j_sub [1, 2, 0] [(0, .ref (ad G (4, 0, 0, 0))), (1, .ref (ad G (3, a1, 0, 0))), (2, .int v29)] rfl ?_
      exact hk11 v29 D27 h
    · have h := ite_t c28 h
      refine j_aload_n C 0 dX4_read_119 rfl rfl ?_
      refine j_getS C (2, 0, 0, 0) fl_X4_9 dX4_read_120 (by decide) ⟨rfl, rfl⟩ rfl rfl ?_
      refine j_getI C fl_X4_28 dX4_read_123 (by decide) ⟨rfl, rfl⟩ rfl ?_
      obtain ⟨rfl, rfl⟩ := pr_x h
      exact j_iret C dX4_read_126
  · have h := ite_t c24 h
    refine j_iconst C (0 : Int32) (by decide) dX4_read_106 ?_
    obtain ⟨rfl, rfl⟩ := pr_x h
    exact j_iret C dX4_read_107
def F_X4_read_b11 (a1 : Nat)  : Nat → Int32 → Dt → Option (Int32 × Dt)
  | 0, _, _ => none
  | f + 1, l2, D => (if (12 : Int32) < l2 then (some ((D.1 (2, 0, 0, 0) 7), D)) else (cbd (F_X4_takeBuy l2 D) (fun r6 D7 => (if r6 = 0 then (some ((D7.1 (2, 0, 0, 0) 7), D7)) else (bnd (D7.1 (3, a1, 0, 0) 2) (fun v9 => (cbd (F_X4_readSum a1 D7) (fun r11 D12 => (if r11 = 0 then (some ((D12.1 (2, 0, 0, 0) 7), D12)) else (bnd (D12.1 (3, a1, 0, 0) 2) (fun v14 => (cbd (F_X2_take (34 : Int32) D12) (fun r16 D17 => (if r16 = 0 then (F_X4_read_b89 a1 (fun l2_30 D31 => (F_X4_read_b11 a1 f l2_30 D31)) l2 v9 v14 D17) else (cbd (F_X4_readTest a1 (0 : Int32) D17) (fun r33 D34 => (if r33 = 0 then (some ((D34.1 (2, 0, 0, 0) 7), D34)) else (F_X4_read_b89 a1 (fun l2_36 D37 => (F_X4_read_b11 a1 f l2_36 D37)) l2 v9 v14 D34))))))))))))))))))
set_option maxRecDepth 100000 in
set_option maxHeartbeats 4000000 in
theorem T_X4_read_b11 {r : Int32} {D' : Dt} {X : Ctx} {l : Launch} {G : Gt} {A : Nat → Prop} {lv : Nat} {a1 : Nat}   (hG : Gok G A) (hlv : 46 ≤ lv) (hv1 : V (3, a1, 0, 0) = true)  (C : Cx X cX4_read RX4 G l A lv 5 (some .int) (some (.int r)) D')  : ∀ (f : Nat) (l2 : Int32) (D : Dt), F_X4_read_b11 a1 f l2 D = some (r, D') → J X (Rep G D) 11 [(0, .ref (ad G (4, 0, 0, 0))), (1, .ref (ad G (3, a1, 0, 0))), (2, .int l2)] [] := by
  intro f
  induction f with
  | zero =>
    intro l2 D h
    exact nomatch h
  | succ f ih =>
    intro l2 D h
    rw [F_X4_read_b11] at h
    refine j_iload_n C 2 dX4_read_11 rfl rfl ?_
    refine j_bipush C (12 : Int32) (by decide) dX4_read_12 ?_
    refine j_icmp_gt C 133 dX4_read_14 (by decide) (fun c4 => ?_) (fun c4 => ?_)
    · have h := ite_t c4 h
      refine j_aload_n C 0 dX4_read_133 rfl rfl ?_
      refine j_getS C (2, 0, 0, 0) fl_X4_9 dX4_read_134 (by decide) ⟨rfl, rfl⟩ rfl rfl ?_
      refine j_getI C fl_X4_28 dX4_read_137 (by decide) ⟨rfl, rfl⟩ rfl ?_
      obtain ⟨rfl, rfl⟩ := pr_x h
      exact j_iret C dX4_read_140
    · have h := ite_f c4 h
      refine j_aload_n C 0 dX4_read_17 rfl rfl ?_
      refine j_iload_n C 2 dX4_read_18 rfl rfl ?_
      obtain ⟨r6, D7, h5, h⟩ := cbd_x h
      refine j_callV C [.int l2] [] cl_X4_24 (M_X4_takeBuy (lv := lv - 1) hG (by omega) h5) (by omega) dX4_read_19 (by decide) ⟨rfl, rfl⟩ rfl rfl (Nat.le_of_ble_eq_true rfl) ?_
      refine j_st (st' := [.int r6]) rfl ?_
      refine j_if_ne C 33 dX4_read_22 (by decide) (fun c8 => ?_) (fun c8 => ?_)
      · have h := ite_f c8 h
        refine j_aload_n C 1 dX4_read_33 rfl rfl ?_
        refine j_getI C fl_X4_33 dX4_read_34 hv1 ⟨rfl, rfl⟩ rfl ?_
        obtain ⟨v9, ev9, h⟩ := bnd_x h
        refine j_istore_n C [(3, .int v9), (0, .ref (ad G (4, 0, 0, 0))), (1, .ref (ad G (3, a1, 0, 0))), (2, .int l2)] dX4_read_37 rfl (Nat.le_of_ble_eq_true rfl) ev9 rfl ?_
        refine j_aload_n C 1 dX4_read_38 rfl rfl ?_
        refine j_aload_n C 2 dX4_read_39 rfl rfl ?_
        obtain ⟨r11, D12, h10, h⟩ := cbd_x h
        refine j_callV C [.ref (ad G (3, a1, 0, 0))] [] cl_X4_36 (M_X4_readSum (lv := lv - 1) hG (by omega) h10) (by omega) dX4_read_40 (by decide) ⟨rfl, rfl⟩ rfl rfl (Nat.le_of_ble_eq_true rfl) ?_
        refine j_st (st' := [.int r11]) rfl ?_
        refine j_if_ne C 54 dX4_read_43 (by decide) (fun c13 => ?_) (fun c13 => ?_)
        · have h := ite_f c13 h
          refine j_aload_n C 2 dX4_read_54 rfl rfl ?_
          refine j_getI C fl_X4_33 dX4_read_55 hv1 ⟨rfl, rfl⟩ rfl ?_
          obtain ⟨v14, ev14, h⟩ := bnd_x h
          refine j_istore C [(4, .int v14), (3, .int v9), (0, .ref (ad G (4, 0, 0, 0))), (1, .ref (ad G (3, a1, 0, 0))), (2, .int l2)] dX4_read_58 (Nat.le_of_ble_eq_true rfl) ev14 rfl ?_
          refine j_aload_n C 2 dX4_read_60 rfl rfl ?_
          refine j_getS C (2, 0, 0, 0) fl_X4_9 dX4_read_61 (by decide) ⟨rfl, rfl⟩ rfl rfl ?_
          refine j_bipush C (34 : Int32) (by decide) dX4_read_64 ?_
          obtain ⟨r16, D17, h15, h⟩ := cbd_x h
          refine j_callV C [.int (34 : Int32)] [] cl_X4_40 (M_X2_take (lv := lv - 1) hG (by omega) h15) (by omega) dX4_read_66 (by decide) ⟨rfl, rfl⟩ rfl rfl (Nat.le_of_ble_eq_true rfl) ?_
          refine j_st (st' := [.int r16]) rfl ?_
          refine j_if_eq C 89 dX4_read_69 (by decide) (fun c18 => ?_) (fun c18 => ?_)
          · have h := ite_t c18 h
            refine j_sub [2, 3, 4, 1, 0] [(0, .ref (ad G (4, 0, 0, 0))), (1, .ref (ad G (3, a1, 0, 0))), (2, .int l2), (3, .int v9), (4, .int v14)] rfl ?_
            refine T_X4_read_b89 hG hlv hv1 C (fun l2_30 D31 h => ?_) l2 v9 v14 D17 h
            · exact ih l2_30 D31 h
          · have h := ite_f c18 h
            refine j_aload_n C 2 dX4_read_72 rfl rfl ?_
            refine j_aload_n C 3 dX4_read_73 rfl rfl ?_
            refine j_iconst C (0 : Int32) (by decide) dX4_read_74 ?_
            obtain ⟨r33, D34, h32, h⟩ := cbd_x h
            refine j_callV C [.ref (ad G (3, a1, 0, 0)), .int (0 : Int32)] [] cl_X4_43 (M_X4_readTest (lv := lv - 1) hG (by omega) h32) (by omega) dX4_read_75 (by decide) ⟨rfl, rfl⟩ rfl rfl (Nat.le_of_ble_eq_true rfl) ?_
            refine j_st (st' := [.int r33]) rfl ?_
            refine j_if_ne C 89 dX4_read_78 (by decide) (fun c35 => ?_) (fun c35 => ?_)
            · have h := ite_f c35 h
              refine j_sub [2, 3, 4, 1, 0] [(0, .ref (ad G (4, 0, 0, 0))), (1, .ref (ad G (3, a1, 0, 0))), (2, .int l2), (3, .int v9), (4, .int v14)] rfl ?_
              refine T_X4_read_b89 hG hlv hv1 C (fun l2_36 D37 h => ?_) l2 v9 v14 D34 h
              · exact ih l2_36 D37 h
            · have h := ite_t c35 h
              refine j_aload_n C 2 dX4_read_81 rfl rfl ?_
              refine j_getS C (2, 0, 0, 0) fl_X4_9 dX4_read_82 (by decide) ⟨rfl, rfl⟩ rfl rfl ?_
              refine j_getI C fl_X4_28 dX4_read_85 (by decide) ⟨rfl, rfl⟩ rfl ?_
              obtain ⟨rfl, rfl⟩ := pr_x h
              exact j_iret C dX4_read_88
        · have h := ite_t c13 h
          refine j_aload_n C 1 dX4_read_46 rfl rfl ?_
          refine j_getS C (2, 0, 0, 0) fl_X4_9 dX4_read_47 (by decide) ⟨rfl, rfl⟩ rfl rfl ?_
          refine j_getI C fl_X4_28 dX4_read_50 (by decide) ⟨rfl, rfl⟩ rfl ?_
          obtain ⟨rfl, rfl⟩ := pr_x h
          exact j_iret C dX4_read_53
      · have h := ite_t c8 h
        refine j_aload_n C 0 dX4_read_25 rfl rfl ?_
        refine j_getS C (2, 0, 0, 0) fl_X4_9 dX4_read_26 (by decide) ⟨rfl, rfl⟩ rfl rfl ?_
        refine j_getI C fl_X4_28 dX4_read_29 (by decide) ⟨rfl, rfl⟩ rfl ?_
        obtain ⟨rfl, rfl⟩ := pr_x h
        exact j_iret C dX4_read_32
def F_X4_read (a1 : Nat) (D : Dt) : Option (Int32 × Dt) := (grd (V (3, a1, 0, 0) = true) (vbd (F_X3_clear a1 D) (fun D2 => (bnd (setI D2 (4, 0, 0, 0) 1 (0 : Int32)) (fun D3 => (F_X4_read_b11 a1 2000 (0 : Int32) D3))))))
set_option maxRecDepth 100000 in
set_option maxHeartbeats 4000000 in
theorem M_X4_read {l : Launch} {G : Gt} {A : Nat → Prop} {lv : Nat} {a1 : Nat} {D : Dt} {r : Int32} {D' : Dt} (hG : Gok G A) (hlv : 46 ≤ lv)  (h : F_X4_read a1 D = some (r, D')) : MD l G A lv yX4_read cX4_read 5 (some .int) [.ref (ad G (4, 0, 0, 0)), .ref (ad G (3, a1, 0, 0))] D (some (.int r)) D' := by
  unfold F_X4_read at h
  obtain ⟨hv1, h⟩ := grd_x h
  refine md_start RX4 hG (by decide +kernel) rfl (Nat.le_of_ble_eq_true rfl) (L := [(0, .ref (ad G (4, 0, 0, 0))), (1, .ref (ad G (3, a1, 0, 0)))]) rfl (fun X C => ?_)
  refine j_aload_n C 1 dX4_read_0 rfl rfl ?_
  obtain ⟨D2, h1, h⟩ := vbd_x h
  refine j_callV C [] [] cl_X4_15 (M_X3_clear (lv := lv - 1) hG (by omega) h1) (by omega) dX4_read_1 hv1 ⟨rfl, rfl⟩ rfl rfl (Nat.le_of_ble_eq_true rfl) ?_
  refine j_st (st' := []) rfl ?_
  refine j_aload_n C 0 dX4_read_4 rfl rfl ?_
  refine j_iconst C (0 : Int32) (by decide) dX4_read_5 ?_
  obtain ⟨D3, eD3, h⟩ := bnd_x h
  refine j_putI C fl_X4_20 dX4_read_6 (by decide) ⟨rfl, rfl⟩ rfl rfl rfl ?_
  refine j_rep eD3 ?_
  refine j_iconst C (0 : Int32) (by decide) dX4_read_9 ?_
  refine j_istore_n C [(2, .int (0 : Int32)), (0, .ref (ad G (4, 0, 0, 0))), (1, .ref (ad G (3, a1, 0, 0)))] dX4_read_10 rfl (Nat.le_of_ble_eq_true rfl) rfl rfl ?_
  refine j_sub [1, 2, 0] [(0, .ref (ad G (4, 0, 0, 0))), (1, .ref (ad G (3, a1, 0, 0))), (2, .int (0 : Int32))] rfl ?_
  refine T_X4_read_b11 hG hlv hv1 C  2000 (0 : Int32) D3 h
def F_X5_clear_b50 (i0 : Nat) (k71 : Int32 → Dt → Option Dt) : Nat → Int32 → Int32 → Dt → Option Dt
  | 0, _, _, _ => none
  | f + 1, l1, l2, D => (if (60 : Int32) < l2 then (k71 l1 D) else (grd (inB l1 5 = true) (grd (inB l2 61 = true) (bnd (setI D (5, i0, 8, l1.toNatClampNeg + 1) (l2.toNatClampNeg) (0 : Int32)) (fun D13 => (bnd (l2 + (1 : Int32)) (fun v14 => (F_X5_clear_b50 i0 k71 f l1 v14 D13))))))))
set_option maxRecDepth 100000 in
set_option maxHeartbeats 4000000 in
theorem T_X5_clear_b50 {D' : Dt} {X : Ctx} {l : Launch} {G : Gt} {A : Nat → Prop} {lv : Nat} {i0 : Nat}  {k71 : Int32 → Dt → Option Dt} (hG : Gok G A) (hlv : 1 ≤ lv) (hv0 : V (5, i0, 0, 0) = true)  (C : Cx X cX5_clear RX5 G l A lv 3 none none D') (hk71 : ∀ (l1 : Int32) (D : Dt), k71 l1 D = some D' → J X (Rep G D) 71 [(0, .ref (ad G (5, i0, 0, 0))), (1, .int l1)] []) : ∀ (f : Nat) (l1 : Int32) (l2 : Int32) (D : Dt), F_X5_clear_b50 i0 k71 f l1 l2 D = some D' → J X (Rep G D) 50 [(0, .ref (ad G (5, i0, 0, 0))), (1, .int l1), (2, .int l2)] [] := by
  intro f
  induction f with
  | zero =>
    intro l1 l2 D h
    exact nomatch h
  | succ f ih =>
    intro l1 l2 D h
    rw [F_X5_clear_b50] at h
    refine j_iload_n C 2 dX5_clear_50 rfl rfl ?_
    refine j_bipush C (60 : Int32) (by decide) dX5_clear_51 ?_
    refine j_icmp_gt C 71 dX5_clear_53 (by decide) (fun c10 => ?_) (fun c10 => ?_)
    · have h := ite_t c10 h
      refine j_sub [0, 1] [(0, .ref (ad G (5, i0, 0, 0))), (1, .int l1)] rfl ?_
      exact hk71 l1 D h
    · have h := ite_f c10 h
      refine j_aload_n C 0 dX5_clear_56 rfl rfl ?_
      refine j_getS C (5, i0, 8, 0) fl_X5_23 dX5_clear_57 hv0 ⟨rfl, rfl⟩ rfl rfl ?_
      refine j_iload_n C 1 dX5_clear_60 rfl rfl ?_
      obtain ⟨g11, h⟩ := grd_x h
      refine j_aald C 7 5 (5, i0, 8, l1.toNatClampNeg + 1) dX5_clear_61 (V_f 7 hv0 (by decide)) rfl (by decide) g11 rfl ?_
      refine j_iload_n C 2 dX5_clear_62 rfl rfl ?_
      refine j_iconst C (0 : Int32) (by decide) dX5_clear_63 ?_
      obtain ⟨g12, h⟩ := grd_x h
      obtain ⟨D13, eD13, h⟩ := bnd_x h
      refine j_iastK C 61 (l2.toNatClampNeg) dX5_clear_64 (V_w hv0 rfl (inB_lt g11)) rfl g12 rfl ?_
      refine j_rep eD13 ?_
      obtain ⟨v14, ev14, h⟩ := bnd_x h
      refine j_iinc C 2 [(2, .int v14), (0, .ref (ad G (5, i0, 0, 0))), (1, .int l1)] dX5_clear_65 rfl (Nat.le_of_ble_eq_true rfl) (ev14.trans (congrArg (l2 + ·) (by decide))) rfl ?_
      refine j_goto C 50 dX5_clear_68 (by decide) ?_
      refine j_sub [1, 2, 0] [(0, .ref (ad G (5, i0, 0, 0))), (1, .int l1), (2, .int v14)] rfl ?_
      exact ih l1 v14 D13 h
def F_X5_clear_b22 (i0 : Nat)  : Nat → Int32 → Dt → Option Dt
  | 0, _, _ => none
  | f + 1, l1, D => (if (5 : Int32) ≤ l1 then (some D) else (grd (inB l1 5 = true) (bnd (setI D (5, i0, 5, 0) (l1.toNatClampNeg) (0 : Int32)) (fun D7 => (bnd (setI D7 (5, i0, 6, 0) (l1.toNatClampNeg) (0 : Int32)) (fun D8 => (bnd (setI D8 (5, i0, 7, 0) (l1.toNatClampNeg) (0 : Int32)) (fun D9 => (F_X5_clear_b50 i0 (fun l1_15 D16 => (bnd (l1_15 + (1 : Int32)) (fun v17 => (F_X5_clear_b22 i0 f v17 D16)))) 2000 l1 (0 : Int32) D9)))))))))
set_option maxRecDepth 100000 in
set_option maxHeartbeats 4000000 in
theorem T_X5_clear_b22 {D' : Dt} {X : Ctx} {l : Launch} {G : Gt} {A : Nat → Prop} {lv : Nat} {i0 : Nat}   (hG : Gok G A) (hlv : 1 ≤ lv) (hv0 : V (5, i0, 0, 0) = true)  (C : Cx X cX5_clear RX5 G l A lv 3 none none D')  : ∀ (f : Nat) (l1 : Int32) (D : Dt), F_X5_clear_b22 i0 f l1 D = some D' → J X (Rep G D) 22 [(0, .ref (ad G (5, i0, 0, 0))), (1, .int l1)] [] := by
  intro f
  induction f with
  | zero =>
    intro l1 D h
    exact nomatch h
  | succ f ih =>
    intro l1 D h
    rw [F_X5_clear_b22] at h
    refine j_iload_n C 1 dX5_clear_22 rfl rfl ?_
    refine j_iconst C (5 : Int32) (by decide) dX5_clear_23 ?_
    refine j_icmp_ge C 77 dX5_clear_24 (by decide) (fun c5 => ?_) (fun c5 => ?_)
    · have h := ite_t c5 h
      obtain rfl := Option.some.inj h
      exact j_vret C dX5_clear_77
    · have h := ite_f c5 h
      refine j_aload_n C 0 dX5_clear_27 rfl rfl ?_
      refine j_getS C (5, i0, 5, 0) fl_X5_9 dX5_clear_28 hv0 ⟨rfl, rfl⟩ rfl rfl ?_
      refine j_iload_n C 1 dX5_clear_31 rfl rfl ?_
      refine j_iconst C (0 : Int32) (by decide) dX5_clear_32 ?_
      obtain ⟨g6, h⟩ := grd_x h
      obtain ⟨D7, eD7, h⟩ := bnd_x h
      refine j_iastK C 5 (l1.toNatClampNeg) dX5_clear_33 (V_f 4 hv0 (by decide)) rfl g6 rfl ?_
      refine j_rep eD7 ?_
      refine j_aload_n C 0 dX5_clear_34 rfl rfl ?_
      refine j_getS C (5, i0, 6, 0) fl_X5_15 dX5_clear_35 hv0 ⟨rfl, rfl⟩ rfl rfl ?_
      refine j_iload_n C 1 dX5_clear_38 rfl rfl ?_
      refine j_iconst C (0 : Int32) (by decide) dX5_clear_39 ?_
      obtain ⟨D8, eD8, h⟩ := bnd_x h
      refine j_iastK C 5 (l1.toNatClampNeg) dX5_clear_40 (V_f 5 hv0 (by decide)) rfl g6 rfl ?_
      refine j_rep eD8 ?_
      refine j_aload_n C 0 dX5_clear_41 rfl rfl ?_
      refine j_getS C (5, i0, 7, 0) fl_X5_18 dX5_clear_42 hv0 ⟨rfl, rfl⟩ rfl rfl ?_
      refine j_iload_n C 1 dX5_clear_45 rfl rfl ?_
      refine j_iconst C (0 : Int32) (by decide) dX5_clear_46 ?_
      obtain ⟨D9, eD9, h⟩ := bnd_x h
      refine j_iastK C 5 (l1.toNatClampNeg) dX5_clear_47 (V_f 6 hv0 (by decide)) rfl g6 rfl ?_
      refine j_rep eD9 ?_
      refine j_iconst C (0 : Int32) (by decide) dX5_clear_48 ?_
      refine j_istore_n C [(2, .int (0 : Int32)), (0, .ref (ad G (5, i0, 0, 0))), (1, .int l1)] dX5_clear_49 rfl (Nat.le_of_ble_eq_true rfl) rfl rfl ?_
      refine j_sub [1, 2, 0] [(0, .ref (ad G (5, i0, 0, 0))), (1, .int l1), (2, .int (0 : Int32))] rfl ?_
      refine T_X5_clear_b50 hG hlv hv0 C (fun l1_15 D16 h => ?_) 2000 l1 (0 : Int32) D9 h
      · obtain ⟨v17, ev17, h⟩ := bnd_x h
        refine j_iinc C 1 [(1, .int v17), (0, .ref (ad G (5, i0, 0, 0)))] dX5_clear_71 rfl (Nat.le_of_ble_eq_true rfl) (ev17.trans (congrArg (l1_15 + ·) (by decide))) rfl ?_
        refine j_goto C 22 dX5_clear_74 (by decide) ?_
        refine j_sub [1, 0] [(0, .ref (ad G (5, i0, 0, 0))), (1, .int v17)] rfl ?_
        exact ih v17 D16 h
def F_X5_clear (i0 : Nat) (D : Dt) : Option Dt := (grd (V (5, i0, 0, 0) = true) (bnd (setI D (5, i0, 0, 0) 0 (0 : Int32)) (fun D1 => (bnd (setI D1 (5, i0, 0, 0) 1 (0 : Int32)) (fun D2 => (bnd (setI D2 (5, i0, 0, 0) 2 (0 : Int32)) (fun D3 => (bnd (setI D3 (5, i0, 0, 0) 3 (0 : Int32)) (fun D4 => (F_X5_clear_b22 i0 2000 (0 : Int32) D4))))))))))
set_option maxRecDepth 100000 in
set_option maxHeartbeats 4000000 in
theorem M_X5_clear {l : Launch} {G : Gt} {A : Nat → Prop} {lv : Nat} {i0 : Nat} {D : Dt} {D' : Dt} (hG : Gok G A) (hlv : 1 ≤ lv)  (h : F_X5_clear i0 D = some D') : MD l G A lv yX5_clear cX5_clear 3 none [.ref (ad G (5, i0, 0, 0))] D none D' := by
  unfold F_X5_clear at h
  obtain ⟨hv0, h⟩ := grd_x h
  refine md_start RX5 hG (by decide +kernel) rfl (Nat.le_of_ble_eq_true rfl) (L := [(0, .ref (ad G (5, i0, 0, 0)))]) rfl (fun X C => ?_)
  refine j_aload_n C 0 dX5_clear_0 rfl rfl ?_
  refine j_iconst C (0 : Int32) (by decide) dX5_clear_1 ?_
  obtain ⟨D1, eD1, h⟩ := bnd_x h
  refine j_putZ C fl_X5_29 dX5_clear_2 hv0 ⟨rfl, rfl⟩ rfl rfl rfl (Or.inl rfl) ?_
  refine j_rep eD1 ?_
  refine j_aload_n C 0 dX5_clear_5 rfl rfl ?_
  refine j_iconst C (0 : Int32) (by decide) dX5_clear_6 ?_
  obtain ⟨D2, eD2, h⟩ := bnd_x h
  refine j_putI C fl_X5_33 dX5_clear_7 hv0 ⟨rfl, rfl⟩ rfl rfl rfl ?_
  refine j_rep eD2 ?_
  refine j_aload_n C 0 dX5_clear_10 rfl rfl ?_
  refine j_iconst C (0 : Int32) (by decide) dX5_clear_11 ?_
  obtain ⟨D3, eD3, h⟩ := bnd_x h
  refine j_putI C fl_X5_37 dX5_clear_12 hv0 ⟨rfl, rfl⟩ rfl rfl rfl ?_
  refine j_rep eD3 ?_
  refine j_aload_n C 0 dX5_clear_15 rfl rfl ?_
  refine j_iconst C (0 : Int32) (by decide) dX5_clear_16 ?_
  obtain ⟨D4, eD4, h⟩ := bnd_x h
  refine j_putI C fl_X5_40 dX5_clear_17 hv0 ⟨rfl, rfl⟩ rfl rfl rfl ?_
  refine j_rep eD4 ?_
  refine j_iconst C (0 : Int32) (by decide) dX5_clear_20 ?_
  refine j_istore_n C [(1, .int (0 : Int32)), (0, .ref (ad G (5, i0, 0, 0)))] dX5_clear_21 rfl (Nat.le_of_ble_eq_true rfl) rfl rfl ?_
  refine j_sub [1, 0] [(0, .ref (ad G (5, i0, 0, 0))), (1, .int (0 : Int32))] rfl ?_
  refine T_X5_clear_b22 hG hlv hv0 C  2000 (0 : Int32) D4 h
def F_X5_copyFrom_b67 (i0 : Nat) (a1 : Nat)  : Nat → Int32 → Dt → Option Dt
  | 0, _, _ => none
  | f + 1, l2, D => (if (5 : Int32) ≤ l2 then (some D) else (grd (inB l2 5 = true) (vbd (F_X10_copyRow (5, a1, 8, l2.toNatClampNeg + 1) (5, i0, 8, l2.toNatClampNeg + 1) D) (fun D15 => (vbd (F_X10_copyRow (5, a1, 9, l2.toNatClampNeg + 1) (5, i0, 9, l2.toNatClampNeg + 1) D15) (fun D17 => (bnd (l2 + (1 : Int32)) (fun v18 => (F_X5_copyFrom_b67 i0 a1 f v18 D17)))))))))
set_option maxRecDepth 100000 in
set_option maxHeartbeats 4000000 in
theorem T_X5_copyFrom_b67 {D' : Dt} {X : Ctx} {l : Launch} {G : Gt} {A : Nat → Prop} {lv : Nat} {i0 : Nat} {a1 : Nat}   (hG : Gok G A) (hlv : 2 ≤ lv) (hv0 : V (5, i0, 0, 0) = true) (hv1 : V (5, a1, 0, 0) = true)  (C : Cx X cX5_copyFrom RX5 G l A lv 3 none none D')  : ∀ (f : Nat) (l2 : Int32) (D : Dt), F_X5_copyFrom_b67 i0 a1 f l2 D = some D' → J X (Rep G D) 67 [(0, .ref (ad G (5, i0, 0, 0))), (1, .ref (ad G (5, a1, 0, 0))), (2, .int l2)] [] := by
  intro f
  induction f with
  | zero =>
    intro l2 D h
    exact nomatch h
  | succ f ih =>
    intro l2 D h
    rw [F_X5_copyFrom_b67] at h
    refine j_iload_n C 2 dX5_copyFrom_67 rfl rfl ?_
    refine j_iconst C (5 : Int32) (by decide) dX5_copyFrom_68 ?_
    refine j_icmp_ge C 108 dX5_copyFrom_69 (by decide) (fun c12 => ?_) (fun c12 => ?_)
    · have h := ite_t c12 h
      obtain rfl := Option.some.inj h
      exact j_vret C dX5_copyFrom_108
    · have h := ite_f c12 h
      refine j_aload_n C 1 dX5_copyFrom_72 rfl rfl ?_
      refine j_getS C (5, a1, 8, 0) fl_X5_23 dX5_copyFrom_73 hv1 ⟨rfl, rfl⟩ rfl rfl ?_
      refine j_iload_n C 2 dX5_copyFrom_76 rfl rfl ?_
      obtain ⟨g13, h⟩ := grd_x h
      refine j_aald C 7 5 (5, a1, 8, l2.toNatClampNeg + 1) dX5_copyFrom_77 (V_f 7 hv1 (by decide)) rfl (by decide) g13 rfl ?_
      refine j_aload_n C 0 dX5_copyFrom_78 rfl rfl ?_
      refine j_getS C (5, i0, 8, 0) fl_X5_23 dX5_copyFrom_79 hv0 ⟨rfl, rfl⟩ rfl rfl ?_
      refine j_iload_n C 2 dX5_copyFrom_82 rfl rfl ?_
      refine j_aald C 7 5 (5, i0, 8, l2.toNatClampNeg + 1) dX5_copyFrom_83 (V_f 7 hv0 (by decide)) rfl (by decide) g13 rfl ?_
      obtain ⟨D15, h14, h⟩ := vbd_x h
      refine j_callS C [.ref (ad G (5, a1, 8, l2.toNatClampNeg + 1)), .ref (ad G (5, i0, 8, l2.toNatClampNeg + 1))] [] cl_X5_43 (M_X10_copyRow (lv := lv - 1) hG (by omega) h14) (by omega) dX5_copyFrom_84 rfl rfl (Nat.le_of_ble_eq_true rfl) ?_
      refine j_st (st' := []) rfl ?_
      refine j_aload_n C 1 dX5_copyFrom_87 rfl rfl ?_
      refine j_getS C (5, a1, 9, 0) fl_X5_26 dX5_copyFrom_88 hv1 ⟨rfl, rfl⟩ rfl rfl ?_
      refine j_iload_n C 2 dX5_copyFrom_91 rfl rfl ?_
      refine j_aald C 7 5 (5, a1, 9, l2.toNatClampNeg + 1) dX5_copyFrom_92 (V_f 8 hv1 (by decide)) rfl (by decide) g13 rfl ?_
      refine j_aload_n C 0 dX5_copyFrom_93 rfl rfl ?_
      refine j_getS C (5, i0, 9, 0) fl_X5_26 dX5_copyFrom_94 hv0 ⟨rfl, rfl⟩ rfl rfl ?_
      refine j_iload_n C 2 dX5_copyFrom_97 rfl rfl ?_
      refine j_aald C 7 5 (5, i0, 9, l2.toNatClampNeg + 1) dX5_copyFrom_98 (V_f 8 hv0 (by decide)) rfl (by decide) g13 rfl ?_
      obtain ⟨D17, h16, h⟩ := vbd_x h
      refine j_callS C [.ref (ad G (5, a1, 9, l2.toNatClampNeg + 1)), .ref (ad G (5, i0, 9, l2.toNatClampNeg + 1))] [] cl_X5_43 (M_X10_copyRow (lv := lv - 1) hG (by omega) h16) (by omega) dX5_copyFrom_99 rfl rfl (Nat.le_of_ble_eq_true rfl) ?_
      refine j_st (st' := []) rfl ?_
      obtain ⟨v18, ev18, h⟩ := bnd_x h
      refine j_iinc C 2 [(2, .int v18), (0, .ref (ad G (5, i0, 0, 0))), (1, .ref (ad G (5, a1, 0, 0)))] dX5_copyFrom_102 rfl (Nat.le_of_ble_eq_true rfl) (ev18.trans (congrArg (l2 + ·) (by decide))) rfl ?_
      refine j_goto C 67 dX5_copyFrom_105 (by decide) ?_
      refine j_sub [1, 2, 0] [(0, .ref (ad G (5, i0, 0, 0))), (1, .ref (ad G (5, a1, 0, 0))), (2, .int v18)] rfl ?_
      exact ih v18 D17 h
def F_X5_copyFrom (i0 : Nat) (a1 : Nat) (D : Dt) : Option Dt := (grd (V (5, i0, 0, 0) = true) (grd (V (5, a1, 0, 0) = true) (grd ((D.1 (5, a1, 0, 0) 0) = 0 ∨ (D.1 (5, a1, 0, 0) 0) = 1) (bnd (setI D (5, i0, 0, 0) 0 (D.1 (5, a1, 0, 0) 0)) (fun D2 => (bnd (setI D2 (5, i0, 0, 0) 1 (D2.1 (5, a1, 0, 0) 1)) (fun D3 => (bnd (setI D3 (5, i0, 0, 0) 2 (D3.1 (5, a1, 0, 0) 2)) (fun D4 => (bnd (setI D4 (5, i0, 0, 0) 3 (D4.1 (5, a1, 0, 0) 3)) (fun D5 => (vbd (F_X10_copyRow (5, a1, 5, 0) (5, i0, 5, 0) D5) (fun D7 => (vbd (F_X10_copyRow (5, a1, 6, 0) (5, i0, 6, 0) D7) (fun D9 => (vbd (F_X10_copyRow (5, a1, 7, 0) (5, i0, 7, 0) D9) (fun D11 => (F_X5_copyFrom_b67 i0 a1 2000 (0 : Int32) D11))))))))))))))))))
set_option maxRecDepth 100000 in
set_option maxHeartbeats 4000000 in
theorem M_X5_copyFrom {l : Launch} {G : Gt} {A : Nat → Prop} {lv : Nat} {i0 : Nat} {a1 : Nat} {D : Dt} {D' : Dt} (hG : Gok G A) (hlv : 2 ≤ lv)  (h : F_X5_copyFrom i0 a1 D = some D') : MD l G A lv yX5_copyFrom cX5_copyFrom 3 none [.ref (ad G (5, i0, 0, 0)), .ref (ad G (5, a1, 0, 0))] D none D' := by
  unfold F_X5_copyFrom at h
  obtain ⟨hv0, h⟩ := grd_x h
  obtain ⟨hv1, h⟩ := grd_x h
  refine md_start RX5 hG (by decide +kernel) rfl (Nat.le_of_ble_eq_true rfl) (L := [(0, .ref (ad G (5, i0, 0, 0))), (1, .ref (ad G (5, a1, 0, 0)))]) rfl (fun X C => ?_)
  refine j_aload_n C 0 dX5_copyFrom_0 rfl rfl ?_
  refine j_aload_n C 1 dX5_copyFrom_1 rfl rfl ?_
  refine j_getI C fl_X5_29 dX5_copyFrom_2 hv1 ⟨rfl, rfl⟩ rfl ?_
  obtain ⟨g1, h⟩ := grd_x h
  obtain ⟨D2, eD2, h⟩ := bnd_x h
  refine j_putZ C fl_X5_29 dX5_copyFrom_5 hv0 ⟨rfl, rfl⟩ rfl rfl rfl g1 ?_
  refine j_rep eD2 ?_
  refine j_aload_n C 0 dX5_copyFrom_8 rfl rfl ?_
  refine j_aload_n C 1 dX5_copyFrom_9 rfl rfl ?_
  refine j_getI C fl_X5_33 dX5_copyFrom_10 hv1 ⟨rfl, rfl⟩ rfl ?_
  obtain ⟨D3, eD3, h⟩ := bnd_x h
  refine j_putI C fl_X5_33 dX5_copyFrom_13 hv0 ⟨rfl, rfl⟩ rfl rfl rfl ?_
  refine j_rep eD3 ?_
  refine j_aload_n C 0 dX5_copyFrom_16 rfl rfl ?_
  refine j_aload_n C 1 dX5_copyFrom_17 rfl rfl ?_
  refine j_getI C fl_X5_37 dX5_copyFrom_18 hv1 ⟨rfl, rfl⟩ rfl ?_
  obtain ⟨D4, eD4, h⟩ := bnd_x h
  refine j_putI C fl_X5_37 dX5_copyFrom_21 hv0 ⟨rfl, rfl⟩ rfl rfl rfl ?_
  refine j_rep eD4 ?_
  refine j_aload_n C 0 dX5_copyFrom_24 rfl rfl ?_
  refine j_aload_n C 1 dX5_copyFrom_25 rfl rfl ?_
  refine j_getI C fl_X5_40 dX5_copyFrom_26 hv1 ⟨rfl, rfl⟩ rfl ?_
  obtain ⟨D5, eD5, h⟩ := bnd_x h
  refine j_putI C fl_X5_40 dX5_copyFrom_29 hv0 ⟨rfl, rfl⟩ rfl rfl rfl ?_
  refine j_rep eD5 ?_
  refine j_aload_n C 1 dX5_copyFrom_32 rfl rfl ?_
  refine j_getS C (5, a1, 5, 0) fl_X5_9 dX5_copyFrom_33 hv1 ⟨rfl, rfl⟩ rfl rfl ?_
  refine j_aload_n C 0 dX5_copyFrom_36 rfl rfl ?_
  refine j_getS C (5, i0, 5, 0) fl_X5_9 dX5_copyFrom_37 hv0 ⟨rfl, rfl⟩ rfl rfl ?_
  obtain ⟨D7, h6, h⟩ := vbd_x h
  refine j_callS C [.ref (ad G (5, a1, 5, 0)), .ref (ad G (5, i0, 5, 0))] [] cl_X5_43 (M_X10_copyRow (lv := lv - 1) hG (by omega) h6) (by omega) dX5_copyFrom_40 rfl rfl (Nat.le_of_ble_eq_true rfl) ?_
  refine j_st (st' := []) rfl ?_
  refine j_aload_n C 1 dX5_copyFrom_43 rfl rfl ?_
  refine j_getS C (5, a1, 6, 0) fl_X5_15 dX5_copyFrom_44 hv1 ⟨rfl, rfl⟩ rfl rfl ?_
  refine j_aload_n C 0 dX5_copyFrom_47 rfl rfl ?_
  refine j_getS C (5, i0, 6, 0) fl_X5_15 dX5_copyFrom_48 hv0 ⟨rfl, rfl⟩ rfl rfl ?_
  obtain ⟨D9, h8, h⟩ := vbd_x h
  refine j_callS C [.ref (ad G (5, a1, 6, 0)), .ref (ad G (5, i0, 6, 0))] [] cl_X5_43 (M_X10_copyRow (lv := lv - 1) hG (by omega) h8) (by omega) dX5_copyFrom_51 rfl rfl (Nat.le_of_ble_eq_true rfl) ?_
  refine j_st (st' := []) rfl ?_
  refine j_aload_n C 1 dX5_copyFrom_54 rfl rfl ?_
  refine j_getS C (5, a1, 7, 0) fl_X5_18 dX5_copyFrom_55 hv1 ⟨rfl, rfl⟩ rfl rfl ?_
  refine j_aload_n C 0 dX5_copyFrom_58 rfl rfl ?_
  refine j_getS C (5, i0, 7, 0) fl_X5_18 dX5_copyFrom_59 hv0 ⟨rfl, rfl⟩ rfl rfl ?_
  obtain ⟨D11, h10, h⟩ := vbd_x h
  refine j_callS C [.ref (ad G (5, a1, 7, 0)), .ref (ad G (5, i0, 7, 0))] [] cl_X5_43 (M_X10_copyRow (lv := lv - 1) hG (by omega) h10) (by omega) dX5_copyFrom_62 rfl rfl (Nat.le_of_ble_eq_true rfl) ?_
  refine j_st (st' := []) rfl ?_
  refine j_iconst C (0 : Int32) (by decide) dX5_copyFrom_65 ?_
  refine j_istore_n C [(2, .int (0 : Int32)), (0, .ref (ad G (5, i0, 0, 0))), (1, .ref (ad G (5, a1, 0, 0)))] dX5_copyFrom_66 rfl (Nat.le_of_ble_eq_true rfl) rfl rfl ?_
  refine j_sub [1, 2, 0] [(0, .ref (ad G (5, i0, 0, 0))), (1, .ref (ad G (5, a1, 0, 0))), (2, .int (0 : Int32))] rfl ?_
  refine T_X5_copyFrom_b67 hG hlv hv0 hv1 C  2000 (0 : Int32) D11 h
def F_X5_findSoon_b51 (i0 : Nat) (k13 : Int32 → Int32 → Int32 → Dt → Option Dt) (l1 : Int32) (l2 : Int32) (l3 : Int32) (D : Dt) : Option Dt := (bnd (l3 + (-1 : Int32)) (fun v8 => (k13 l1 l2 v8 D)))
set_option maxRecDepth 100000 in
set_option maxHeartbeats 4000000 in
theorem T_X5_findSoon_b51 {D' : Dt} {X : Ctx} {l : Launch} {G : Gt} {A : Nat → Prop} {lv : Nat} {i0 : Nat}  {k13 : Int32 → Int32 → Int32 → Dt → Option Dt} (hG : Gok G A) (hlv : 1 ≤ lv) (hv0 : V (5, i0, 0, 0) = true)  (C : Cx X cX5_findSoon RX5 G l A lv 4 none none D') (hk13 : ∀ (l1 : Int32) (l2 : Int32) (l3 : Int32) (D : Dt), k13 l1 l2 l3 D = some D' → J X (Rep G D) 13 [(0, .ref (ad G (5, i0, 0, 0))), (1, .int l1), (2, .int l2), (3, .int l3)] []) : ∀ (l1 : Int32) (l2 : Int32) (l3 : Int32) (D : Dt), F_X5_findSoon_b51 i0 k13 l1 l2 l3 D = some D' → J X (Rep G D) 51 [(0, .ref (ad G (5, i0, 0, 0))), (1, .int l1), (2, .int l2), (3, .int l3)] [] := by
  intro l1 l2 l3 D h
  unfold F_X5_findSoon_b51 at h
  obtain ⟨v8, ev8, h⟩ := bnd_x h
  refine j_iinc C 3 [(3, .int v8), (0, .ref (ad G (5, i0, 0, 0))), (1, .int l1), (2, .int l2)] dX5_findSoon_51 rfl (Nat.le_of_ble_eq_true rfl) (ev8.trans (congrArg (l3 + ·) (by decide))) rfl ?_
  refine j_goto C 13 dX5_findSoon_54 (by decide) ?_
  refine j_sub [1, 2, 3, 0] [(0, .ref (ad G (5, i0, 0, 0))), (1, .int l1), (2, .int l2), (3, .int v8)] rfl ?_
  exact hk13 l1 l2 v8 D h
def F_X5_findSoon_b13 (i0 : Nat) (k57 : Int32 → Dt → Option Dt) : Nat → Int32 → Int32 → Int32 → Dt → Option Dt
  | 0, _, _, _, _ => none
  | f + 1, l1, l2, l3, D => (if l3 < 0 then (k57 l1 D) else (grd (inB l1 5 = true) (grd (inB l3 61 = true) (bnd (setI D (5, i0, 9, l1.toNatClampNeg + 1) (l3.toNatClampNeg) l2) (fun D5 => (if (D5.1 (5, i0, 8, l1.toNatClampNeg + 1) (l3.toNatClampNeg)) ≤ 0 then (if l2 = (99 : Int32) then (F_X5_findSoon_b51 i0 (fun l1_9 l2_10 l3_11 D12 => (F_X5_findSoon_b13 i0 k57 f l1_9 l2_10 l3_11 D12)) l1 l2 l3 D5) else (bnd (l2 + (1 : Int32)) (fun v13 => (F_X5_findSoon_b51 i0 (fun l1_14 l2_15 l3_16 D17 => (F_X5_findSoon_b13 i0 k57 f l1_14 l2_15 l3_16 D17)) l1 v13 l3 D5)))) else (F_X5_findSoon_b51 i0 (fun l1_18 l2_19 l3_20 D21 => (F_X5_findSoon_b13 i0 k57 f l1_18 l2_19 l3_20 D21)) l1 (1 : Int32) l3 D5)))))))
set_option maxRecDepth 100000 in
set_option maxHeartbeats 4000000 in
theorem T_X5_findSoon_b13 {D' : Dt} {X : Ctx} {l : Launch} {G : Gt} {A : Nat → Prop} {lv : Nat} {i0 : Nat}  {k57 : Int32 → Dt → Option Dt} (hG : Gok G A) (hlv : 1 ≤ lv) (hv0 : V (5, i0, 0, 0) = true)  (C : Cx X cX5_findSoon RX5 G l A lv 4 none none D') (hk57 : ∀ (l1 : Int32) (D : Dt), k57 l1 D = some D' → J X (Rep G D) 57 [(0, .ref (ad G (5, i0, 0, 0))), (1, .int l1)] []) : ∀ (f : Nat) (l1 : Int32) (l2 : Int32) (l3 : Int32) (D : Dt), F_X5_findSoon_b13 i0 k57 f l1 l2 l3 D = some D' → J X (Rep G D) 13 [(0, .ref (ad G (5, i0, 0, 0))), (1, .int l1), (2, .int l2), (3, .int l3)] [] := by
  intro f
  induction f with
  | zero =>
    intro l1 l2 l3 D h
    exact nomatch h
  | succ f ih =>
    intro l1 l2 l3 D h
    rw [F_X5_findSoon_b13] at h
    refine j_iload_n C 3 dX5_findSoon_13 rfl rfl ?_
    refine j_if_lt C 57 dX5_findSoon_14 (by decide) (fun c2 => ?_) (fun c2 => ?_)
    · have h := ite_t c2 h
      refine j_sub [0, 1] [(0, .ref (ad G (5, i0, 0, 0))), (1, .int l1)] rfl ?_
      exact hk57 l1 D h
    · have h := ite_f c2 h
      refine j_aload_n C 0 dX5_findSoon_17 rfl rfl ?_
      refine j_getS C (5, i0, 9, 0) fl_X5_26 dX5_findSoon_18 hv0 ⟨rfl, rfl⟩ rfl rfl ?_
      refine j_iload_n C 1 dX5_findSoon_21 rfl rfl ?_
      obtain ⟨g3, h⟩ := grd_x h
      refine j_aald C 7 5 (5, i0, 9, l1.toNatClampNeg + 1) dX5_findSoon_22 (V_f 8 hv0 (by decide)) rfl (by decide) g3 rfl ?_
      refine j_iload_n C 3 dX5_findSoon_23 rfl rfl ?_
      refine j_iload_n C 2 dX5_findSoon_24 rfl rfl ?_
      obtain ⟨g4, h⟩ := grd_x h
      obtain ⟨D5, eD5, h⟩ := bnd_x h
      refine j_iastK C 61 (l3.toNatClampNeg) dX5_findSoon_25 (V_w hv0 rfl (inB_lt g3)) rfl g4 rfl ?_
      refine j_rep eD5 ?_
      refine j_aload_n C 0 dX5_findSoon_26 rfl rfl ?_
      refine j_getS C (5, i0, 8, 0) fl_X5_23 dX5_findSoon_27 hv0 ⟨rfl, rfl⟩ rfl rfl ?_
      refine j_iload_n C 1 dX5_findSoon_30 rfl rfl ?_
      refine j_aald C 7 5 (5, i0, 8, l1.toNatClampNeg + 1) dX5_findSoon_31 (V_f 7 hv0 (by decide)) rfl (by decide) g3 rfl ?_
      refine j_iload_n C 3 dX5_findSoon_32 rfl rfl ?_
      refine j_ialdK C 61 (l3.toNatClampNeg) dX5_findSoon_33 (V_w hv0 rfl (inB_lt g3)) rfl g4 rfl ?_
      refine j_if_le C 42 dX5_findSoon_34 (by decide) (fun c6 => ?_) (fun c6 => ?_)
      · have h := ite_t c6 h
        refine j_iload_n C 2 dX5_findSoon_42 rfl rfl ?_
        refine j_bipush C (99 : Int32) (by decide) dX5_findSoon_43 ?_
        refine j_icmp_eq C 51 dX5_findSoon_45 (by decide) (fun c7 => ?_) (fun c7 => ?_)
        · have h := ite_t c7 h
          refine T_X5_findSoon_b51 hG hlv hv0 C (fun l1_9 l2_10 l3_11 D12 h => ?_) l1 l2 l3 D5 h
          · exact ih l1_9 l2_10 l3_11 D12 h
        · have h := ite_f c7 h
          obtain ⟨v13, ev13, h⟩ := bnd_x h
          refine j_iinc C 2 [(2, .int v13), (0, .ref (ad G (5, i0, 0, 0))), (1, .int l1), (3, .int l3)] dX5_findSoon_48 rfl (Nat.le_of_ble_eq_true rfl) (ev13.trans (congrArg (l2 + ·) (by decide))) rfl ?_
          refine j_sub [1, 2, 0, 3] [(0, .ref (ad G (5, i0, 0, 0))), (1, .int l1), (2, .int v13), (3, .int l3)] rfl ?_
          refine T_X5_findSoon_b51 hG hlv hv0 C (fun l1_14 l2_15 l3_16 D17 h => ?_) l1 v13 l3 D5 h
          · exact ih l1_14 l2_15 l3_16 D17 h
      · have h := ite_f c6 h
        refine j_iconst C (1 : Int32) (by decide) dX5_findSoon_37 ?_
        refine j_istore_n C [(2, .int (1 : Int32)), (0, .ref (ad G (5, i0, 0, 0))), (1, .int l1), (3, .int l3)] dX5_findSoon_38 rfl (Nat.le_of_ble_eq_true rfl) rfl rfl ?_
        refine j_goto C 51 dX5_findSoon_39 (by decide) ?_
        refine j_sub [1, 2, 0, 3] [(0, .ref (ad G (5, i0, 0, 0))), (1, .int l1), (2, .int (1 : Int32)), (3, .int l3)] rfl ?_
        refine T_X5_findSoon_b51 hG hlv hv0 C (fun l1_18 l2_19 l3_20 D21 h => ?_) l1 (1 : Int32) l3 D5 h
        · exact ih l1_18 l2_19 l3_20 D21 h
def F_X5_findSoon_b2 (i0 : Nat)  : Nat → Int32 → Dt → Option Dt
  | 0, _, _ => none
  | f + 1, l1, D => (if (5 : Int32) ≤ l1 then (some D) else (F_X5_findSoon_b13 i0 (fun l1_22 D23 => (bnd (l1_22 + (1 : Int32)) (fun v24 => (F_X5_findSoon_b2 i0 f v24 D23)))) 2000 l1 (99 : Int32) (60 : Int32) D))
set_option maxRecDepth 100000 in
set_option maxHeartbeats 4000000 in
theorem T_X5_findSoon_b2 {D' : Dt} {X : Ctx} {l : Launch} {G : Gt} {A : Nat → Prop} {lv : Nat} {i0 : Nat}   (hG : Gok G A) (hlv : 1 ≤ lv) (hv0 : V (5, i0, 0, 0) = true)  (C : Cx X cX5_findSoon RX5 G l A lv 4 none none D')  : ∀ (f : Nat) (l1 : Int32) (D : Dt), F_X5_findSoon_b2 i0 f l1 D = some D' → J X (Rep G D) 2 [(0, .ref (ad G (5, i0, 0, 0))), (1, .int l1)] [] := by
  intro f
  induction f with
  | zero =>
    intro l1 D h
    exact nomatch h
  | succ f ih =>
    intro l1 D h
    rw [F_X5_findSoon_b2] at h
    refine j_iload_n C 1 dX5_findSoon_2 rfl rfl ?_
    refine j_iconst C (5 : Int32) (by decide) dX5_findSoon_3 ?_
    refine j_icmp_ge C 63 dX5_findSoon_4 (by decide) (fun c1 => ?_) (fun c1 => ?_)
    · have h := ite_t c1 h
      obtain rfl := Option.some.inj h
      exact j_vret C dX5_findSoon_63
    · have h := ite_f c1 h
      refine j_bipush C (99 : Int32) (by decide) dX5_findSoon_7 ?_
      refine j_istore_n C [(2, .int (99 : Int32)), (0, .ref (ad G (5, i0, 0, 0))), (1, .int l1)] dX5_findSoon_9 rfl (Nat.le_of_ble_eq_true rfl) rfl rfl ?_
      refine j_bipush C (60 : Int32) (by decide) dX5_findSoon_10 ?_
      refine j_istore_n C [(3, .int (60 : Int32)), (2, .int (99 : Int32)), (0, .ref (ad G (5, i0, 0, 0))), (1, .int l1)] dX5_findSoon_12 rfl (Nat.le_of_ble_eq_true rfl) rfl rfl ?_
      refine j_sub [2, 3, 1, 0] [(0, .ref (ad G (5, i0, 0, 0))), (1, .int l1), (2, .int (99 : Int32)), (3, .int (60 : Int32))] rfl ?_
      refine T_X5_findSoon_b13 hG hlv hv0 C (fun l1_22 D23 h => ?_) 2000 l1 (99 : Int32) (60 : Int32) D h
      · obtain ⟨v24, ev24, h⟩ := bnd_x h
        refine j_iinc C 1 [(1, .int v24), (0, .ref (ad G (5, i0, 0, 0)))] dX5_findSoon_57 rfl (Nat.le_of_ble_eq_true rfl) (ev24.trans (congrArg (l1_22 + ·) (by decide))) rfl ?_
        refine j_goto C 2 dX5_findSoon_60 (by decide) ?_
        refine j_sub [1, 0] [(0, .ref (ad G (5, i0, 0, 0))), (1, .int v24)] rfl ?_
        exact ih v24 D23 h
def F_X5_findSoon (i0 : Nat) (D : Dt) : Option Dt := (grd (V (5, i0, 0, 0) = true) (F_X5_findSoon_b2 i0 2000 (0 : Int32) D))
set_option maxRecDepth 100000 in
set_option maxHeartbeats 4000000 in
theorem M_X5_findSoon {l : Launch} {G : Gt} {A : Nat → Prop} {lv : Nat} {i0 : Nat} {D : Dt} {D' : Dt} (hG : Gok G A) (hlv : 1 ≤ lv)  (h : F_X5_findSoon i0 D = some D') : MD l G A lv yX5_findSoon cX5_findSoon 4 none [.ref (ad G (5, i0, 0, 0))] D none D' := by
  unfold F_X5_findSoon at h
  obtain ⟨hv0, h⟩ := grd_x h
  refine md_start RX5 hG (by decide +kernel) rfl (Nat.le_of_ble_eq_true rfl) (L := [(0, .ref (ad G (5, i0, 0, 0)))]) rfl (fun X C => ?_)
  refine j_iconst C (0 : Int32) (by decide) dX5_findSoon_0 ?_
  refine j_istore_n C [(1, .int (0 : Int32)), (0, .ref (ad G (5, i0, 0, 0)))] dX5_findSoon_1 rfl (Nat.le_of_ble_eq_true rfl) rfl rfl ?_
  refine j_sub [1, 0] [(0, .ref (ad G (5, i0, 0, 0))), (1, .int (0 : Int32))] rfl ?_
  refine T_X5_findSoon_b2 hG hlv hv0 C  2000 (0 : Int32) D h
def F_X6_sellers_b24 (i0 : Nat) (a1 : Int32) (k4 : Int32 → Int32 → Int32 → Dt → Option (Int32 × Dt)) (l1 : Int32) (l2 : Int32) (l3 : Int32) (D : Dt) : Option (Int32 × Dt) := (bnd (l3 + (1 : Int32)) (fun v6 => (k4 l1 l2 v6 D)))
set_option maxRecDepth 100000 in
set_option maxHeartbeats 4000000 in
theorem T_X6_sellers_b24 {r : Int32} {D' : Dt} {X : Ctx} {l : Launch} {G : Gt} {A : Nat → Prop} {lv : Nat} {i0 : Nat} {a1 : Int32}  {k4 : Int32 → Int32 → Int32 → Dt → Option (Int32 × Dt)} (hG : Gok G A) (hlv : 2 ≤ lv) (hv0 : V (6, i0, 0, 0) = true)  (C : Cx X cX6_sellers RX6 G l A lv 4 (some .int) (some (.int r)) D') (hk4 : ∀ (l1 : Int32) (l2 : Int32) (l3 : Int32) (D : Dt), k4 l1 l2 l3 D = some (r, D') → J X (Rep G D) 4 [(0, .ref (ad G (6, i0, 0, 0))), (1, .int l1), (2, .int l2), (3, .int l3)] []) : ∀ (l1 : Int32) (l2 : Int32) (l3 : Int32) (D : Dt), F_X6_sellers_b24 i0 a1 k4 l1 l2 l3 D = some (r, D') → J X (Rep G D) 24 [(0, .ref (ad G (6, i0, 0, 0))), (1, .int l1), (2, .int l2), (3, .int l3)] [] := by
  intro l1 l2 l3 D h
  unfold F_X6_sellers_b24 at h
  obtain ⟨v6, ev6, h⟩ := bnd_x h
  refine j_iinc C 3 [(3, .int v6), (0, .ref (ad G (6, i0, 0, 0))), (1, .int l1), (2, .int l2)] dX6_sellers_24 rfl (Nat.le_of_ble_eq_true rfl) (ev6.trans (congrArg (l3 + ·) (by decide))) rfl ?_
  refine j_goto C 4 dX6_sellers_27 (by decide) ?_
  refine j_sub [1, 2, 3, 0] [(0, .ref (ad G (6, i0, 0, 0))), (1, .int l1), (2, .int l2), (3, .int v6)] rfl ?_
  exact hk4 l1 l2 v6 D h
def F_X6_sellers_b4 (i0 : Nat) (a1 : Int32)  : Nat → Int32 → Int32 → Int32 → Dt → Option (Int32 × Dt)
  | 0, _, _, _, _ => none
  | f + 1, l1, l2, l3, D => (if (5 : Int32) ≤ l3 then (some (l2, D)) else (cbd (F_X6_mayBuy i0 l1 l3 D) (fun r3 D4 => (if r3 = 0 then (F_X6_sellers_b24 i0 a1 (fun l1_7 l2_8 l3_9 D10 => (F_X6_sellers_b4 i0 a1 f l1_7 l2_8 l3_9 D10)) l1 l2 l3 D4) else (bnd (l2 ||| ((1 : Int32) <<< (l3 &&& 31))) (fun v11 => (F_X6_sellers_b24 i0 a1 (fun l1_12 l2_13 l3_14 D15 => (F_X6_sellers_b4 i0 a1 f l1_12 l2_13 l3_14 D15)) l1 v11 l3 D4)))))))
set_option maxRecDepth 100000 in
set_option maxHeartbeats 4000000 in
theorem T_X6_sellers_b4 {r : Int32} {D' : Dt} {X : Ctx} {l : Launch} {G : Gt} {A : Nat → Prop} {lv : Nat} {i0 : Nat} {a1 : Int32}   (hG : Gok G A) (hlv : 2 ≤ lv) (hv0 : V (6, i0, 0, 0) = true)  (C : Cx X cX6_sellers RX6 G l A lv 4 (some .int) (some (.int r)) D')  : ∀ (f : Nat) (l1 : Int32) (l2 : Int32) (l3 : Int32) (D : Dt), F_X6_sellers_b4 i0 a1 f l1 l2 l3 D = some (r, D') → J X (Rep G D) 4 [(0, .ref (ad G (6, i0, 0, 0))), (1, .int l1), (2, .int l2), (3, .int l3)] [] := by
  intro f
  induction f with
  | zero =>
    intro l1 l2 l3 D h
    exact nomatch h
  | succ f ih =>
    intro l1 l2 l3 D h
    rw [F_X6_sellers_b4] at h
    refine j_iload_n C 3 dX6_sellers_4 rfl rfl ?_
    refine j_iconst C (5 : Int32) (by decide) dX6_sellers_5 ?_
    refine j_icmp_ge C 30 dX6_sellers_6 (by decide) (fun c1 => ?_) (fun c1 => ?_)
    · have h := ite_t c1 h
      refine j_iload_n C 2 dX6_sellers_30 rfl rfl ?_
      obtain ⟨rfl, rfl⟩ := pr_x h
      exact j_iret C dX6_sellers_31
    · have h := ite_f c1 h
      refine j_aload_n C 0 dX6_sellers_9 rfl rfl ?_
      refine j_iload_n C 1 dX6_sellers_10 rfl rfl ?_
      refine j_iload_n C 3 dX6_sellers_11 rfl rfl ?_
      obtain ⟨r3, D4, h2, h⟩ := cbd_x h
      refine j_callV C [.int l1, .int l3] [] cl_X6_47 (M_X6_mayBuy (lv := lv - 1) hG (by omega) h2) (by omega) dX6_sellers_12 hv0 ⟨rfl, rfl⟩ rfl rfl (Nat.le_of_ble_eq_true rfl) ?_
      refine j_st (st' := [.int r3]) rfl ?_
      refine j_if_eq C 24 dX6_sellers_15 (by decide) (fun c5 => ?_) (fun c5 => ?_)
      · have h := ite_t c5 h
        refine T_X6_sellers_b24 hG hlv hv0 C (fun l1_7 l2_8 l3_9 D10 h => ?_) l1 l2 l3 D4 h
        · exact ih l1_7 l2_8 l3_9 D10 h
      · have h := ite_f c5 h
        refine j_iload_n C 2 dX6_sellers_18 rfl rfl ?_
        refine j_iconst C (1 : Int32) (by decide) dX6_sellers_19 ?_
        refine j_iload_n C 3 dX6_sellers_20 rfl rfl ?_
        refine j_ishl C dX6_sellers_21 ?_
        refine j_ior C dX6_sellers_22 ?_
        obtain ⟨v11, ev11, h⟩ := bnd_x h
        refine j_istore_n C [(2, .int v11), (0, .ref (ad G (6, i0, 0, 0))), (1, .int l1), (3, .int l3)] dX6_sellers_23 rfl (Nat.le_of_ble_eq_true rfl) ev11 rfl ?_
        refine j_sub [1, 2, 0, 3] [(0, .ref (ad G (6, i0, 0, 0))), (1, .int l1), (2, .int v11), (3, .int l3)] rfl ?_
        refine T_X6_sellers_b24 hG hlv hv0 C (fun l1_12 l2_13 l3_14 D15 h => ?_) l1 v11 l3 D4 h
        · exact ih l1_12 l2_13 l3_14 D15 h
def F_X6_sellers (i0 : Nat) (a1 : Int32) (D : Dt) : Option (Int32 × Dt) := (grd (V (6, i0, 0, 0) = true) (F_X6_sellers_b4 i0 a1 2000 a1 (0 : Int32) (0 : Int32) D))
set_option maxRecDepth 100000 in
set_option maxHeartbeats 4000000 in
theorem M_X6_sellers {l : Launch} {G : Gt} {A : Nat → Prop} {lv : Nat} {i0 : Nat} {a1 : Int32} {D : Dt} {r : Int32} {D' : Dt} (hG : Gok G A) (hlv : 2 ≤ lv)  (h : F_X6_sellers i0 a1 D = some (r, D')) : MD l G A lv yX6_sellers cX6_sellers 4 (some .int) [.ref (ad G (6, i0, 0, 0)), .int a1] D (some (.int r)) D' := by
  unfold F_X6_sellers at h
  obtain ⟨hv0, h⟩ := grd_x h
  refine md_start RX6 hG (by decide +kernel) rfl (Nat.le_of_ble_eq_true rfl) (L := [(0, .ref (ad G (6, i0, 0, 0))), (1, .int a1)]) rfl (fun X C => ?_)
  refine j_iconst C (0 : Int32) (by decide) dX6_sellers_0 ?_
  refine j_istore_n C [(2, .int (0 : Int32)), (0, .ref (ad G (6, i0, 0, 0))), (1, .int a1)] dX6_sellers_1 rfl (Nat.le_of_ble_eq_true rfl) rfl rfl ?_
  refine j_iconst C (0 : Int32) (by decide) dX6_sellers_2 ?_
  refine j_istore_n C [(3, .int (0 : Int32)), (2, .int (0 : Int32)), (0, .ref (ad G (6, i0, 0, 0))), (1, .int a1)] dX6_sellers_3 rfl (Nat.le_of_ble_eq_true rfl) rfl rfl ?_
  refine j_sub [2, 3, 1, 0] [(0, .ref (ad G (6, i0, 0, 0))), (1, .int a1), (2, .int (0 : Int32)), (3, .int (0 : Int32))] rfl ?_
  refine T_X6_sellers_b4 hG hlv hv0 C  2000 a1 (0 : Int32) (0 : Int32) D h
def F_X6_partOf_b94 (i0 : Nat) (a1 : Int32) (a2 : Int32) (k36 : Int32 → Int32 → Int32 → Int32 → Int32 → Int32 → Int32 → Dt → Option (Int32 × Dt)) (l1 : Int32) (l2 : Int32) (l3 : Int32) (l4 : Int32) (l5 : Int32) (l6 : Int32) (l7 : Int32) (D : Dt) : Option (Int32 × Dt) := (bnd (l7 + (1 : Int32)) (fun v15 => (k36 l1 l2 l3 l4 l5 l6 v15 D)))
set_option maxRecDepth 100000 in
set_option maxHeartbeats 4000000 in
theorem T_X6_partOf_b94 {r : Int32} {D' : Dt} {X : Ctx} {l : Launch} {G : Gt} {A : Nat → Prop} {lv : Nat} {i0 : Nat} {a1 : Int32} {a2 : Int32}  {k36 : Int32 → Int32 → Int32 → Int32 → Int32 → Int32 → Int32 → Dt → Option (Int32 × Dt)} (hG : Gok G A) (hlv : 2 ≤ lv) (hv0 : V (6, i0, 0, 0) = true)  (C : Cx X cX6_partOf RX6 G l A lv 9 (some .int) (some (.int r)) D') (hk36 : ∀ (l1 : Int32) (l2 : Int32) (l3 : Int32) (l4 : Int32) (l5 : Int32) (l6 : Int32) (l7 : Int32) (D : Dt), k36 l1 l2 l3 l4 l5 l6 l7 D = some (r, D') → J X (Rep G D) 36 [(0, .ref (ad G (6, i0, 0, 0))), (1, .int l1), (2, .int l2), (3, .int l3), (4, .int l4), (5, .int l5), (6, .int l6), (7, .int l7)] []) : ∀ (l1 : Int32) (l2 : Int32) (l3 : Int32) (l4 : Int32) (l5 : Int32) (l6 : Int32) (l7 : Int32) (D : Dt), F_X6_partOf_b94 i0 a1 a2 k36 l1 l2 l3 l4 l5 l6 l7 D = some (r, D') → J X (Rep G D) 94 [(0, .ref (ad G (6, i0, 0, 0))), (1, .int l1), (2, .int l2), (3, .int l3), (4, .int l4), (5, .int l5), (6, .int l6), (7, .int l7)] [] := by
  intro l1 l2 l3 l4 l5 l6 l7 D h
  unfold F_X6_partOf_b94 at h
  obtain ⟨v15, ev15, h⟩ := bnd_x h
  refine j_iinc C 7 [(7, .int v15), (0, .ref (ad G (6, i0, 0, 0))), (1, .int l1), (2, .int l2), (3, .int l3), (4, .int l4), (5, .int l5), (6, .int l6)] dX6_partOf_94 rfl (Nat.le_of_ble_eq_true rfl) (ev15.trans (congrArg (l7 + ·) (by decide))) rfl ?_
  refine j_goto C 36 dX6_partOf_97 (by decide) ?_
  refine j_sub [1, 2, 3, 4, 5, 6, 7, 0] [(0, .ref (ad G (6, i0, 0, 0))), (1, .int l1), (2, .int l2), (3, .int l3), (4, .int l4), (5, .int l5), (6, .int l6), (7, .int v15)] rfl ?_
  exact hk36 l1 l2 l3 l4 l5 l6 v15 D h
def F_X6_partOf_b91 (i0 : Nat) (a1 : Int32) (a2 : Int32) (k36 : Int32 → Int32 → Int32 → Int32 → Int32 → Int32 → Int32 → Dt → Option (Int32 × Dt)) (l1 : Int32) (l2 : Int32) (l3 : Int32) (l4 : Int32) (l5 : Int32) (l6 : Int32) (l7 : Int32) (D : Dt) : Option (Int32 × Dt) := (bnd (l5 + (1 : Int32)) (fun v14 => (F_X6_partOf_b94 i0 a1 a2 (fun l1_16 l2_17 l3_18 l4_19 l5_20 l6_21 l7_22 D23 => (k36 l1_16 l2_17 l3_18 l4_19 l5_20 l6_21 l7_22 D23)) l1 l2 l3 l4 v14 l6 l7 D)))
set_option maxRecDepth 100000 in
set_option maxHeartbeats 4000000 in
theorem T_X6_partOf_b91 {r : Int32} {D' : Dt} {X : Ctx} {l : Launch} {G : Gt} {A : Nat → Prop} {lv : Nat} {i0 : Nat} {a1 : Int32} {a2 : Int32}  {k36 : Int32 → Int32 → Int32 → Int32 → Int32 → Int32 → Int32 → Dt → Option (Int32 × Dt)} (hG : Gok G A) (hlv : 2 ≤ lv) (hv0 : V (6, i0, 0, 0) = true)  (C : Cx X cX6_partOf RX6 G l A lv 9 (some .int) (some (.int r)) D') (hk36 : ∀ (l1 : Int32) (l2 : Int32) (l3 : Int32) (l4 : Int32) (l5 : Int32) (l6 : Int32) (l7 : Int32) (D : Dt), k36 l1 l2 l3 l4 l5 l6 l7 D = some (r, D') → J X (Rep G D) 36 [(0, .ref (ad G (6, i0, 0, 0))), (1, .int l1), (2, .int l2), (3, .int l3), (4, .int l4), (5, .int l5), (6, .int l6), (7, .int l7)] []) : ∀ (l1 : Int32) (l2 : Int32) (l3 : Int32) (l4 : Int32) (l5 : Int32) (l6 : Int32) (l7 : Int32) (D : Dt), F_X6_partOf_b91 i0 a1 a2 k36 l1 l2 l3 l4 l5 l6 l7 D = some (r, D') → J X (Rep G D) 91 [(0, .ref (ad G (6, i0, 0, 0))), (1, .int l1), (2, .int l2), (3, .int l3), (4, .int l4), (5, .int l5), (6, .int l6), (7, .int l7)] [] := by
  intro l1 l2 l3 l4 l5 l6 l7 D h
  unfold F_X6_partOf_b91 at h
  obtain ⟨v14, ev14, h⟩ := bnd_x h
  refine j_iinc C 5 [(5, .int v14), (0, .ref (ad G (6, i0, 0, 0))), (1, .int l1), (2, .int l2), (3, .int l3), (4, .int l4), (6, .int l6), (7, .int l7)] dX6_partOf_91 rfl (Nat.le_of_ble_eq_true rfl) (ev14.trans (congrArg (l5 + ·) (by decide))) rfl ?_
  refine j_sub [1, 2, 3, 4, 5, 0, 6, 7] [(0, .ref (ad G (6, i0, 0, 0))), (1, .int l1), (2, .int l2), (3, .int l3), (4, .int l4), (5, .int v14), (6, .int l6), (7, .int l7)] rfl ?_
  refine T_X6_partOf_b94 hG hlv hv0 C (fun l1_16 l2_17 l3_18 l4_19 l5_20 l6_21 l7_22 D23 h => ?_) l1 l2 l3 l4 v14 l6 l7 D h
  · exact hk36 l1_16 l2_17 l3_18 l4_19 l5_20 l6_21 l7_22 D23 h
def F_X6_partOf_b36 (i0 : Nat) (a1 : Int32) (a2 : Int32) (k100 : Int32 → Int32 → Int32 → Int32 → Int32 → Dt → Option (Int32 × Dt)) : Nat → Int32 → Int32 → Int32 → Int32 → Int32 → Int32 → Int32 → Dt → Option (Int32 × Dt)
  | 0, _, _, _, _, _, _, _, _ => none
  | f + 1, l1, l2, l3, l4, l5, l6, l7, D => (if (5 : Int32) ≤ l7 then (k100 l1 l2 l3 l4 l5 D) else (grd (inB l7 5 = true) (grd (¬ l3 = 0) (bnd (l4 - ((l1 * (D.1 (6, i0, 4, 0) (l7.toNatClampNeg))) / l3)) (fun v11 => (bnd ((l1 * (D.1 (6, i0, 4, 0) (l7.toNatClampNeg))) - (l1 * (D.1 (6, i0, 4, 0) (l7.toNatClampNeg))) / l3 * l3) (fun v12 => (if l6 < v12 then (F_X6_partOf_b91 i0 a1 a2 (fun l1_24 l2_25 l3_26 l4_27 l5_28 l6_29 l7_30 D31 => (F_X6_partOf_b36 i0 a1 a2 k100 f l1_24 l2_25 l3_26 l4_27 l5_28 l6_29 l7_30 D31)) l1 l2 l3 v11 l5 l6 l7 D) else (if v12 = l6 then (if l2 ≤ l7 then (F_X6_partOf_b94 i0 a1 a2 (fun l1_42 l2_43 l3_44 l4_45 l5_46 l6_47 l7_48 D49 => (F_X6_partOf_b36 i0 a1 a2 k100 f l1_42 l2_43 l3_44 l4_45 l5_46 l6_47 l7_48 D49)) l1 l2 l3 v11 l5 l6 l7 D) else (F_X6_partOf_b91 i0 a1 a2 (fun l1_50 l2_51 l3_52 l4_53 l5_54 l6_55 l7_56 D57 => (F_X6_partOf_b36 i0 a1 a2 k100 f l1_50 l2_51 l3_52 l4_53 l5_54 l6_55 l7_56 D57)) l1 l2 l3 v11 l5 l6 l7 D)) else (F_X6_partOf_b94 i0 a1 a2 (fun l1_33 l2_34 l3_35 l4_36 l5_37 l6_38 l7_39 D40 => (F_X6_partOf_b36 i0 a1 a2 k100 f l1_33 l2_34 l3_35 l4_36 l5_37 l6_38 l7_39 D40)) l1 l2 l3 v11 l5 l6 l7 D))))))))))
set_option maxRecDepth 100000 in
set_option maxHeartbeats 4000000 in
theorem T_X6_partOf_b36 {r : Int32} {D' : Dt} {X : Ctx} {l : Launch} {G : Gt} {A : Nat → Prop} {lv : Nat} {i0 : Nat} {a1 : Int32} {a2 : Int32}  {k100 : Int32 → Int32 → Int32 → Int32 → Int32 → Dt → Option (Int32 × Dt)} (hG : Gok G A) (hlv : 2 ≤ lv) (hv0 : V (6, i0, 0, 0) = true)  (C : Cx X cX6_partOf RX6 G l A lv 9 (some .int) (some (.int r)) D') (hk100 : ∀ (l1 : Int32) (l2 : Int32) (l3 : Int32) (l4 : Int32) (l5 : Int32) (D : Dt), k100 l1 l2 l3 l4 l5 D = some (r, D') → J X (Rep G D) 100 [(0, .ref (ad G (6, i0, 0, 0))), (1, .int l1), (2, .int l2), (3, .int l3), (4, .int l4), (5, .int l5)] []) : ∀ (f : Nat) (l1 : Int32) (l2 : Int32) (l3 : Int32) (l4 : Int32) (l5 : Int32) (l6 : Int32) (l7 : Int32) (D : Dt), F_X6_partOf_b36 i0 a1 a2 k100 f l1 l2 l3 l4 l5 l6 l7 D = some (r, D') → J X (Rep G D) 36 [(0, .ref (ad G (6, i0, 0, 0))), (1, .int l1), (2, .int l2), (3, .int l3), (4, .int l4), (5, .int l5), (6, .int l6), (7, .int l7)] [] := by
  intro f
  induction f with
  | zero =>
    intro l1 l2 l3 l4 l5 l6 l7 D h
    exact nomatch h
  | succ f ih =>
    intro l1 l2 l3 l4 l5 l6 l7 D h
    rw [F_X6_partOf_b36] at h
    refine j_iload C 7 dX6_partOf_36 rfl ?_
    refine j_iconst C (5 : Int32) (by decide) dX6_partOf_38 ?_
    refine j_icmp_ge C 100 dX6_partOf_39 (by decide) (fun c8 => ?_) (fun c8 => ?_)
    · have h := ite_t c8 h
      refine j_sub [0, 1, 2, 3, 4, 5] [(0, .ref (ad G (6, i0, 0, 0))), (1, .int l1), (2, .int l2), (3, .int l3), (4, .int l4), (5, .int l5)] rfl ?_
      exact hk100 l1 l2 l3 l4 l5 D h
    · have h := ite_f c8 h
      refine j_iload C 4 dX6_partOf_42 rfl ?_
      refine j_iload_n C 1 dX6_partOf_44 rfl rfl ?_
      refine j_aload_n C 0 dX6_partOf_45 rfl rfl ?_
      refine j_getS C (6, i0, 4, 0) fl_X6_21 dX6_partOf_46 hv0 ⟨rfl, rfl⟩ rfl rfl ?_
      refine j_iload C 7 dX6_partOf_49 rfl ?_
      obtain ⟨g9, h⟩ := grd_x h
      refine j_ialdK C 5 (l7.toNatClampNeg) dX6_partOf_51 (V_f 3 hv0 (by decide)) rfl g9 rfl ?_
      refine j_imul C dX6_partOf_52 ?_
      refine j_iload_n C 3 dX6_partOf_53 rfl rfl ?_
      obtain ⟨g10, h⟩ := grd_x h
      refine j_idiv C g10 dX6_partOf_54 ?_
      refine j_isub C dX6_partOf_55 ?_
      obtain ⟨v11, ev11, h⟩ := bnd_x h
      refine j_istore C [(4, .int v11), (0, .ref (ad G (6, i0, 0, 0))), (1, .int l1), (2, .int l2), (3, .int l3), (5, .int l5), (6, .int l6), (7, .int l7)] dX6_partOf_56 (Nat.le_of_ble_eq_true rfl) ev11 rfl ?_
      refine j_iload_n C 2 dX6_partOf_58 rfl rfl ?_
      refine j_aload_n C 1 dX6_partOf_59 rfl rfl ?_
      refine j_getS C (6, i0, 4, 0) fl_X6_21 dX6_partOf_60 hv0 ⟨rfl, rfl⟩ rfl rfl ?_
      refine j_iload C 7 dX6_partOf_63 rfl ?_
      refine j_ialdK C 5 (l7.toNatClampNeg) dX6_partOf_65 (V_f 3 hv0 (by decide)) rfl g9 rfl ?_
      refine j_imul C dX6_partOf_66 ?_
      refine j_iload_n C 4 dX6_partOf_67 rfl rfl ?_
      refine j_irem C g10 dX6_partOf_68 ?_
      obtain ⟨v12, ev12, h⟩ := bnd_x h
      refine j_istore C [(8, .int v12), (4, .int v11), (0, .ref (ad G (6, i0, 0, 0))), (1, .int l1), (2, .int l2), (3, .int l3), (5, .int l5), (6, .int l6), (7, .int l7)] dX6_partOf_69 (Nat.le_of_ble_eq_true rfl) ev12 rfl ?_
      refine j_iload C 0 dX6_partOf_71 rfl ?_
      refine j_iload C 7 dX6_partOf_73 rfl ?_
      refine j_icmp_gt C 91 dX6_partOf_75 (by decide) (fun c13 => ?_) (fun c13 => ?_)
      · have h := ite_t c13 h
        refine j_sub [2, 3, 4, 5, 1, 6, 7, 8] [(0, .ref (ad G (6, i0, 0, 0))), (1, .int l1), (2, .int l2), (3, .int l3), (4, .int v11), (5, .int l5), (6, .int l6), (7, .int l7)] rfl ?_
        refine T_X6_partOf_b91 hG hlv hv0 C (fun l1_24 l2_25 l3_26 l4_27 l5_28 l6_29 l7_30 D31 h => ?_) l1 l2 l3 v11 l5 l6 l7 D h
        · exact ih l1_24 l2_25 l3_26 l4_27 l5_28 l6_29 l7_30 D31 h
      · have h := ite_f c13 h
        refine j_iload C 0 dX6_partOf_78 rfl ?_
        refine j_iload C 7 dX6_partOf_80 rfl ?_
        refine j_icmp_ne C 94 dX6_partOf_82 (by decide) (fun c32 => ?_) (fun c32 => ?_)
        · have h := ite_f c32 h
          refine j_sub [2, 3, 4, 5, 1, 6, 7, 8] [(0, .ref (ad G (6, i0, 0, 0))), (1, .int l1), (2, .int l2), (3, .int l3), (4, .int v11), (5, .int l5), (6, .int l6), (7, .int l7)] rfl ?_
          refine T_X6_partOf_b94 hG hlv hv0 C (fun l1_33 l2_34 l3_35 l4_36 l5_37 l6_38 l7_39 D40 h => ?_) l1 l2 l3 v11 l5 l6 l7 D h
          · exact ih l1_33 l2_34 l3_35 l4_36 l5_37 l6_38 l7_39 D40 h
        · have h := ite_t c32 h
          refine j_iload C 8 dX6_partOf_85 rfl ?_
          refine j_iload_n C 4 dX6_partOf_87 rfl rfl ?_
          refine j_icmp_ge C 94 dX6_partOf_88 (by decide) (fun c41 => ?_) (fun c41 => ?_)
          · have h := ite_t c41 h
            refine j_sub [2, 3, 4, 5, 1, 6, 7, 8] [(0, .ref (ad G (6, i0, 0, 0))), (1, .int l1), (2, .int l2), (3, .int l3), (4, .int v11), (5, .int l5), (6, .int l6), (7, .int l7)] rfl ?_
            refine T_X6_partOf_b94 hG hlv hv0 C (fun l1_42 l2_43 l3_44 l4_45 l5_46 l6_47 l7_48 D49 h => ?_) l1 l2 l3 v11 l5 l6 l7 D h
            · exact ih l1_42 l2_43 l3_44 l4_45 l5_46 l6_47 l7_48 D49 h
          · have h := ite_f c41 h
            refine j_sub [2, 3, 4, 5, 1, 6, 7, 8] [(0, .ref (ad G (6, i0, 0, 0))), (1, .int l1), (2, .int l2), (3, .int l3), (4, .int v11), (5, .int l5), (6, .int l6), (7, .int l7)] rfl ?_
            refine T_X6_partOf_b91 hG hlv hv0 C (fun l1_50 l2_51 l3_52 l4_53 l5_54 l6_55 l7_56 D57 h => ?_) l1 l2 l3 v11 l5 l6 l7 D h
            · exact ih l1_50 l2_51 l3_52 l4_53 l5_54 l6_55 l7_56 D57 h
def F_X6_partOf (i0 : Nat) (a1 : Int32) (a2 : Int32) (D : Dt) : Option (Int32 × Dt) := (grd (V (6, i0, 0, 0) = true) (cbd (F_X10_total (6, i0, 4, 0) D) (fun r2 D3 => (if (1 : Int32) ≤ r2 then (grd (inB a2 5 = true) (grd (¬ r2 = 0) (bnd ((a1 * (D3.1 (6, i0, 4, 0) (a2.toNatClampNeg))) - (a1 * (D3.1 (6, i0, 4, 0) (a2.toNatClampNeg))) / r2 * r2) (fun v7 => (F_X6_partOf_b36 i0 a1 a2 (fun l1_58 l2_59 l3_60 l4_61 l5_62 D63 => (grd (inB l2_59 5 = true) (grd (¬ l3_60 = 0) (if l4_61 ≤ l5_62 then (some ((((l1_58 * (D63.1 (6, i0, 4, 0) (l2_59.toNatClampNeg))) / l3_60) + (0 : Int32)), D63)) else (some ((((l1_58 * (D63.1 (6, i0, 4, 0) (l2_59.toNatClampNeg))) / l3_60) + (1 : Int32)), D63)))))) 2000 a1 a2 r2 a1 (0 : Int32) v7 (0 : Int32) D3))))) else (some ((0 : Int32), D3))))))
set_option maxRecDepth 100000 in
set_option maxHeartbeats 4000000 in
theorem M_X6_partOf {l : Launch} {G : Gt} {A : Nat → Prop} {lv : Nat} {i0 : Nat} {a1 : Int32} {a2 : Int32} {D : Dt} {r : Int32} {D' : Dt} (hG : Gok G A) (hlv : 2 ≤ lv)  (h : F_X6_partOf i0 a1 a2 D = some (r, D')) : MD l G A lv yX6_partOf cX6_partOf 9 (some .int) [.ref (ad G (6, i0, 0, 0)), .int a1, .int a2] D (some (.int r)) D' := by
  unfold F_X6_partOf at h
  obtain ⟨hv0, h⟩ := grd_x h
  refine md_start RX6 hG (by decide +kernel) rfl (Nat.le_of_ble_eq_true rfl) (L := [(0, .ref (ad G (6, i0, 0, 0))), (1, .int a1), (2, .int a2)]) rfl (fun X C => ?_)
  refine j_aload_n C 0 dX6_partOf_0 rfl rfl ?_
  refine j_getS C (6, i0, 4, 0) fl_X6_21 dX6_partOf_1 hv0 ⟨rfl, rfl⟩ rfl rfl ?_
  obtain ⟨r2, D3, h1, h⟩ := cbd_x h
  refine j_callS C [.ref (ad G (6, i0, 4, 0))] [] cl_X6_68 (M_X10_total (lv := lv - 1) hG (by omega) h1) (by omega) dX6_partOf_4 rfl rfl (Nat.le_of_ble_eq_true rfl) ?_
  refine j_st (st' := [.int r2]) rfl ?_
  refine j_istore_n C [(3, .int r2), (0, .ref (ad G (6, i0, 0, 0))), (1, .int a1), (2, .int a2)] dX6_partOf_7 rfl (Nat.le_of_ble_eq_true rfl) rfl rfl ?_
  refine j_iload_n C 0 dX6_partOf_8 rfl rfl ?_
  refine j_iconst C (1 : Int32) (by decide) dX6_partOf_9 ?_
  refine j_icmp_ge C 15 dX6_partOf_10 (by decide) (fun c4 => ?_) (fun c4 => ?_)
  · have h := ite_t c4 h
    refine j_iload_n C 2 dX6_partOf_15 rfl rfl ?_
    refine j_istore C [(4, .int a1), (3, .int r2), (0, .ref (ad G (6, i0, 0, 0))), (1, .int a1), (2, .int a2)] dX6_partOf_16 (Nat.le_of_ble_eq_true rfl) rfl rfl ?_
    refine j_iconst C (0 : Int32) (by decide) dX6_partOf_18 ?_
    refine j_istore C [(5, .int (0 : Int32)), (4, .int a1), (3, .int r2), (0, .ref (ad G (6, i0, 0, 0))), (1, .int a1), (2, .int a2)] dX6_partOf_19 (Nat.le_of_ble_eq_true rfl) rfl rfl ?_
    refine j_iload_n C 4 dX6_partOf_21 rfl rfl ?_
    refine j_aload_n C 3 dX6_partOf_22 rfl rfl ?_
    refine j_getS C (6, i0, 4, 0) fl_X6_21 dX6_partOf_23 hv0 ⟨rfl, rfl⟩ rfl rfl ?_
    refine j_iload_n C 5 dX6_partOf_26 rfl rfl ?_
    obtain ⟨g5, h⟩ := grd_x h
    refine j_ialdK C 5 (a2.toNatClampNeg) dX6_partOf_27 (V_f 3 hv0 (by decide)) rfl g5 rfl ?_
    refine j_imul C dX6_partOf_28 ?_
    refine j_iload_n C 2 dX6_partOf_29 rfl rfl ?_
    obtain ⟨g6, h⟩ := grd_x h
    refine j_irem C g6 dX6_partOf_30 ?_
    obtain ⟨v7, ev7, h⟩ := bnd_x h
    refine j_istore C [(6, .int v7), (5, .int (0 : Int32)), (4, .int a1), (3, .int r2), (0, .ref (ad G (6, i0, 0, 0))), (1, .int a1), (2, .int a2)] dX6_partOf_31 (Nat.le_of_ble_eq_true rfl) ev7 rfl ?_
    refine j_iconst C (0 : Int32) (by decide) dX6_partOf_33 ?_
    refine j_istore C [(7, .int (0 : Int32)), (6, .int v7), (5, .int (0 : Int32)), (4, .int a1), (3, .int r2), (0, .ref (ad G (6, i0, 0, 0))), (1, .int a1), (2, .int a2)] dX6_partOf_34 (Nat.le_of_ble_eq_true rfl) rfl rfl ?_
    refine j_sub [5, 6, 7, 4, 3, 2, 1, 0] [(0, .ref (ad G (6, i0, 0, 0))), (1, .int a1), (2, .int a2), (3, .int r2), (4, .int a1), (5, .int (0 : Int32)), (6, .int v7), (7, .int (0 : Int32))] rfl ?_
    refine T_X6_partOf_b36 hG hlv hv0 C (fun l1_58 l2_59 l3_60 l4_61 l5_62 D63 h => ?_) 2000 a1 a2 r2 a1 (0 : Int32) v7 (0 : Int32) D3 h
    · refine j_iload_n C 1 dX6_partOf_100 rfl rfl ?_
      refine j_aload_n C 0 dX6_partOf_101 rfl rfl ?_
      refine j_getS C (6, i0, 4, 0) fl_X6_21 dX6_partOf_102 hv0 ⟨rfl, rfl⟩ rfl rfl ?_
      refine j_iload_n C 2 dX6_partOf_105 rfl rfl ?_
      obtain ⟨g64, h⟩ := grd_x h
      refine j_ialdK C 5 (l2_59.toNatClampNeg) dX6_partOf_106 (V_f 3 hv0 (by decide)) rfl g64 rfl ?_
      refine j_imul C dX6_partOf_107 ?_
      refine j_iload_n C 3 dX6_partOf_108 rfl rfl ?_
      obtain ⟨g65, h⟩ := grd_x h
      refine j_idiv C g65 dX6_partOf_109 ?_
      refine j_iload C 5 dX6_partOf_110 rfl ?_
      refine j_iload C 4 dX6_partOf_112 rfl ?_
      refine j_icmp_ge C 121 dX6_partOf_114 (by decide) (fun c66 => ?_) (fun c66 => ?_)
      · have h := ite_t c66 h
        refine j_iconst C (0 : Int32) (by decide) dX6_partOf_121 ?_
        refine j_iadd C dX6_partOf_122 ?_
        obtain ⟨rfl, rfl⟩ := pr_x h
        exact j_iret C dX6_partOf_123
      · have h := ite_f c66 h
        refine j_iconst C (1 : Int32) (by decide) dX6_partOf_117 ?_
        refine j_goto C 122 dX6_partOf_118 (by decide) ?_
        refine j_iadd C dX6_partOf_122 ?_
        obtain ⟨rfl, rfl⟩ := pr_x h
        exact j_iret C dX6_partOf_123
  · have h := ite_f c4 h
    refine j_iconst C (0 : Int32) (by decide) dX6_partOf_13 ?_
    obtain ⟨rfl, rfl⟩ := pr_x h
    exact j_iret C dX6_partOf_14
def F_X7_readLand (a1 : Nat) (D : Dt) : Option (Int32 × Dt) := (grd (V (5, a1, 0, 0) = true) (bnd (D.1 (5, a1, 0, 0) 3) (fun v1 => (cbd (F_X2_takeNumber (0 : Int32) (99 : Int32) D) (fun r3 D4 => (if r3 = 0 then (some ((0 : Int32), D4)) else (grd (inB v1 5 = true) (bnd (setI D4 (5, a1, 5, 0) (v1.toNatClampNeg) (D4.1 (2, 0, 0, 0) 8)) (fun D7 => (cbd (F_X2_takeNumber (0 : Int32) (9 : Int32) D7) (fun r9 D10 => (if r9 = 0 then (some ((0 : Int32), D10)) else (bnd (setI D10 (5, a1, 6, 0) (v1.toNatClampNeg) (D10.1 (2, 0, 0, 0) 8)) (fun D12 => (cbd (F_X2_takeNumber (0 : Int32) (99 : Int32) D12) (fun r14 D15 => (if r14 = 0 then (some ((0 : Int32), D15)) else (bnd (setI D15 (5, a1, 7, 0) (v1.toNatClampNeg) (D15.1 (2, 0, 0, 0) 8)) (fun D17 => (bnd (setI D17 (5, a1, 0, 0) 3 (v1 + (1 : Int32))) (fun D18 => (some ((1 : Int32), D18)))))))))))))))))))))))
set_option maxRecDepth 100000 in
set_option maxHeartbeats 4000000 in
theorem M_X7_readLand {l : Launch} {G : Gt} {A : Nat → Prop} {lv : Nat} {a1 : Nat} {D : Dt} {r : Int32} {D' : Dt} (hG : Gok G A) (hlv : 3 ≤ lv)  (h : F_X7_readLand a1 D = some (r, D')) : MD l G A lv yX7_readLand cX7_readLand 3 (some .boolean) [.ref (ad G (7, 0, 0, 0)), .ref (ad G (5, a1, 0, 0))] D (some (.int r)) D' := by
  unfold F_X7_readLand at h
  obtain ⟨hv1, h⟩ := grd_x h
  refine md_start RX7 hG (by decide +kernel) rfl (Nat.le_of_ble_eq_true rfl) (L := [(0, .ref (ad G (7, 0, 0, 0))), (1, .ref (ad G (5, a1, 0, 0)))]) rfl (fun X C => ?_)
  refine j_aload_n C 1 dX7_readLand_0 rfl rfl ?_
  refine j_getI C fl_X7_45 dX7_readLand_1 hv1 ⟨rfl, rfl⟩ rfl ?_
  obtain ⟨v1, ev1, h⟩ := bnd_x h
  refine j_istore_n C [(2, .int v1), (0, .ref (ad G (7, 0, 0, 0))), (1, .ref (ad G (5, a1, 0, 0)))] dX7_readLand_4 rfl (Nat.le_of_ble_eq_true rfl) ev1 rfl ?_
  refine j_aload_n C 1 dX7_readLand_5 rfl rfl ?_
  refine j_getS C (2, 0, 0, 0) fl_X7_9 dX7_readLand_6 (by decide) ⟨rfl, rfl⟩ rfl rfl ?_
  refine j_iconst C (0 : Int32) (by decide) dX7_readLand_9 ?_
  refine j_bipush C (99 : Int32) (by decide) dX7_readLand_10 ?_
  obtain ⟨r3, D4, h2, h⟩ := cbd_x h
  refine j_callV C [.int (0 : Int32), .int (99 : Int32)] [] cl_X7_61 (M_X2_takeNumber (lv := lv - 1) hG (by omega) h2) (by omega) dX7_readLand_12 (by decide) ⟨rfl, rfl⟩ rfl rfl (Nat.le_of_ble_eq_true rfl) ?_
  refine j_st (st' := [.int r3]) rfl ?_
  refine j_if_ne C 20 dX7_readLand_15 (by decide) (fun c5 => ?_) (fun c5 => ?_)
  · have h := ite_f c5 h
    refine j_aload_n C 2 dX7_readLand_20 rfl rfl ?_
    refine j_getS C (5, a1, 5, 0) fl_X7_74 dX7_readLand_21 hv1 ⟨rfl, rfl⟩ rfl rfl ?_
    refine j_iload_n C 0 dX7_readLand_24 rfl rfl ?_
    refine j_aload_n C 1 dX7_readLand_25 rfl rfl ?_
    refine j_getS C (2, 0, 0, 0) fl_X7_9 dX7_readLand_26 (by decide) ⟨rfl, rfl⟩ rfl rfl ?_
    refine j_getI C fl_X7_65 dX7_readLand_29 (by decide) ⟨rfl, rfl⟩ rfl ?_
    obtain ⟨g6, h⟩ := grd_x h
    obtain ⟨D7, eD7, h⟩ := bnd_x h
    refine j_iastK C 5 (v1.toNatClampNeg) dX7_readLand_32 (V_f 4 hv1 (by decide)) rfl g6 rfl ?_
    refine j_rep eD7 ?_
    refine j_aload_n C 1 dX7_readLand_33 rfl rfl ?_
    refine j_getS C (2, 0, 0, 0) fl_X7_9 dX7_readLand_34 (by decide) ⟨rfl, rfl⟩ rfl rfl ?_
    refine j_iconst C (0 : Int32) (by decide) dX7_readLand_37 ?_
    refine j_bipush C (9 : Int32) (by decide) dX7_readLand_38 ?_
    obtain ⟨r9, D10, h8, h⟩ := cbd_x h
    refine j_callV C [.int (0 : Int32), .int (9 : Int32)] [] cl_X7_61 (M_X2_takeNumber (lv := lv - 1) hG (by omega) h8) (by omega) dX7_readLand_40 (by decide) ⟨rfl, rfl⟩ rfl rfl (Nat.le_of_ble_eq_true rfl) ?_
    refine j_st (st' := [.int r9]) rfl ?_
    refine j_if_ne C 48 dX7_readLand_43 (by decide) (fun c11 => ?_) (fun c11 => ?_)
    · have h := ite_f c11 h
      refine j_aload_n C 2 dX7_readLand_48 rfl rfl ?_
      refine j_getS C (5, a1, 6, 0) fl_X7_78 dX7_readLand_49 hv1 ⟨rfl, rfl⟩ rfl rfl ?_
      refine j_iload_n C 0 dX7_readLand_52 rfl rfl ?_
      refine j_aload_n C 1 dX7_readLand_53 rfl rfl ?_
      refine j_getS C (2, 0, 0, 0) fl_X7_9 dX7_readLand_54 (by decide) ⟨rfl, rfl⟩ rfl rfl ?_
      refine j_getI C fl_X7_65 dX7_readLand_57 (by decide) ⟨rfl, rfl⟩ rfl ?_
      obtain ⟨D12, eD12, h⟩ := bnd_x h
      refine j_iastK C 5 (v1.toNatClampNeg) dX7_readLand_60 (V_f 5 hv1 (by decide)) rfl g6 rfl ?_
      refine j_rep eD12 ?_
      refine j_aload_n C 1 dX7_readLand_61 rfl rfl ?_
      refine j_getS C (2, 0, 0, 0) fl_X7_9 dX7_readLand_62 (by decide) ⟨rfl, rfl⟩ rfl rfl ?_
      refine j_iconst C (0 : Int32) (by decide) dX7_readLand_65 ?_
      refine j_bipush C (99 : Int32) (by decide) dX7_readLand_66 ?_
      obtain ⟨r14, D15, h13, h⟩ := cbd_x h
      refine j_callV C [.int (0 : Int32), .int (99 : Int32)] [] cl_X7_61 (M_X2_takeNumber (lv := lv - 1) hG (by omega) h13) (by omega) dX7_readLand_68 (by decide) ⟨rfl, rfl⟩ rfl rfl (Nat.le_of_ble_eq_true rfl) ?_
      refine j_st (st' := [.int r14]) rfl ?_
      refine j_if_ne C 76 dX7_readLand_71 (by decide) (fun c16 => ?_) (fun c16 => ?_)
      · have h := ite_f c16 h
        refine j_aload_n C 2 dX7_readLand_76 rfl rfl ?_
        refine j_getS C (5, a1, 7, 0) fl_X7_81 dX7_readLand_77 hv1 ⟨rfl, rfl⟩ rfl rfl ?_
        refine j_iload_n C 0 dX7_readLand_80 rfl rfl ?_
        refine j_aload_n C 1 dX7_readLand_81 rfl rfl ?_
        refine j_getS C (2, 0, 0, 0) fl_X7_9 dX7_readLand_82 (by decide) ⟨rfl, rfl⟩ rfl rfl ?_
        refine j_getI C fl_X7_65 dX7_readLand_85 (by decide) ⟨rfl, rfl⟩ rfl ?_
        obtain ⟨D17, eD17, h⟩ := bnd_x h
        refine j_iastK C 5 (v1.toNatClampNeg) dX7_readLand_88 (V_f 6 hv1 (by decide)) rfl g6 rfl ?_
        refine j_rep eD17 ?_
        refine j_aload_n C 2 dX7_readLand_89 rfl rfl ?_
        refine j_iload_n C 0 dX7_readLand_90 rfl rfl ?_
        refine j_iconst C (1 : Int32) (by decide) dX7_readLand_91 ?_
        refine j_iadd C dX7_readLand_92 ?_
        obtain ⟨D18, eD18, h⟩ := bnd_x h
        refine j_putI C fl_X7_45 dX7_readLand_93 hv1 ⟨rfl, rfl⟩ rfl rfl rfl ?_
        refine j_rep eD18 ?_
        refine j_iconst C (1 : Int32) (by decide) dX7_readLand_96 ?_
        obtain ⟨rfl, rfl⟩ := pr_x h
        exact j_zret C (Or.inr rfl) dX7_readLand_97
      · have h := ite_t c16 h
        refine j_iconst C (0 : Int32) (by decide) dX7_readLand_74 ?_
        obtain ⟨rfl, rfl⟩ := pr_x h
        exact j_zret C (Or.inl rfl) dX7_readLand_75
    · have h := ite_t c11 h
      refine j_iconst C (0 : Int32) (by decide) dX7_readLand_46 ?_
      obtain ⟨rfl, rfl⟩ := pr_x h
      exact j_zret C (Or.inl rfl) dX7_readLand_47
  · have h := ite_t c5 h
    refine j_iconst C (0 : Int32) (by decide) dX7_readLand_18 ?_
    obtain ⟨rfl, rfl⟩ := pr_x h
    exact j_zret C (Or.inl rfl) dX7_readLand_19
def F_X7_readRates (a1 : Nat) (D : Dt) : Option (Int32 × Dt) := (grd (V (5, a1, 0, 0) = true) (cbd (F_X2_takeNumber (1 : Int32) (9 : Int32) D) (fun r2 D3 => (if r2 = 0 then (some ((0 : Int32), D3)) else (bnd (setI D3 (5, a1, 0, 0) 1 (D3.1 (2, 0, 0, 0) 8)) (fun D5 => (cbd (F_X2_takeNumber (0 : Int32) (9 : Int32) D5) (fun r7 D8 => (if r7 = 0 then (some ((0 : Int32), D8)) else (bnd (setI D8 (5, a1, 0, 0) 2 (D8.1 (2, 0, 0, 0) 8)) (fun D10 => (some ((1 : Int32), D10)))))))))))))
set_option maxRecDepth 100000 in
set_option maxHeartbeats 4000000 in
theorem M_X7_readRates {l : Launch} {G : Gt} {A : Nat → Prop} {lv : Nat} {a1 : Nat} {D : Dt} {r : Int32} {D' : Dt} (hG : Gok G A) (hlv : 3 ≤ lv)  (h : F_X7_readRates a1 D = some (r, D')) : MD l G A lv yX7_readRates cX7_readRates 2 (some .boolean) [.ref (ad G (7, 0, 0, 0)), .ref (ad G (5, a1, 0, 0))] D (some (.int r)) D' := by
  unfold F_X7_readRates at h
  obtain ⟨hv1, h⟩ := grd_x h
  refine md_start RX7 hG (by decide +kernel) rfl (Nat.le_of_ble_eq_true rfl) (L := [(0, .ref (ad G (7, 0, 0, 0))), (1, .ref (ad G (5, a1, 0, 0)))]) rfl (fun X C => ?_)
  refine j_aload_n C 0 dX7_readRates_0 rfl rfl ?_
  refine j_getS C (2, 0, 0, 0) fl_X7_9 dX7_readRates_1 (by decide) ⟨rfl, rfl⟩ rfl rfl ?_
  refine j_iconst C (1 : Int32) (by decide) dX7_readRates_4 ?_
  refine j_bipush C (9 : Int32) (by decide) dX7_readRates_5 ?_
  obtain ⟨r2, D3, h1, h⟩ := cbd_x h
  refine j_callV C [.int (1 : Int32), .int (9 : Int32)] [] cl_X7_61 (M_X2_takeNumber (lv := lv - 1) hG (by omega) h1) (by omega) dX7_readRates_7 (by decide) ⟨rfl, rfl⟩ rfl rfl (Nat.le_of_ble_eq_true rfl) ?_
  refine j_st (st' := [.int r2]) rfl ?_
  refine j_if_ne C 15 dX7_readRates_10 (by decide) (fun c4 => ?_) (fun c4 => ?_)
  · have h := ite_f c4 h
    refine j_aload_n C 1 dX7_readRates_15 rfl rfl ?_
    refine j_aload_n C 0 dX7_readRates_16 rfl rfl ?_
    refine j_getS C (2, 0, 0, 0) fl_X7_9 dX7_readRates_17 (by decide) ⟨rfl, rfl⟩ rfl rfl ?_
    refine j_getI C fl_X7_65 dX7_readRates_20 (by decide) ⟨rfl, rfl⟩ rfl ?_
    obtain ⟨D5, eD5, h⟩ := bnd_x h
    refine j_putI C fl_X7_68 dX7_readRates_23 hv1 ⟨rfl, rfl⟩ rfl rfl rfl ?_
    refine j_rep eD5 ?_
    refine j_aload_n C 0 dX7_readRates_26 rfl rfl ?_
    refine j_getS C (2, 0, 0, 0) fl_X7_9 dX7_readRates_27 (by decide) ⟨rfl, rfl⟩ rfl rfl ?_
    refine j_iconst C (0 : Int32) (by decide) dX7_readRates_30 ?_
    refine j_bipush C (9 : Int32) (by decide) dX7_readRates_31 ?_
    obtain ⟨r7, D8, h6, h⟩ := cbd_x h
    refine j_callV C [.int (0 : Int32), .int (9 : Int32)] [] cl_X7_61 (M_X2_takeNumber (lv := lv - 1) hG (by omega) h6) (by omega) dX7_readRates_33 (by decide) ⟨rfl, rfl⟩ rfl rfl (Nat.le_of_ble_eq_true rfl) ?_
    refine j_st (st' := [.int r7]) rfl ?_
    refine j_if_ne C 41 dX7_readRates_36 (by decide) (fun c9 => ?_) (fun c9 => ?_)
    · have h := ite_f c9 h
      refine j_aload_n C 1 dX7_readRates_41 rfl rfl ?_
      refine j_aload_n C 0 dX7_readRates_42 rfl rfl ?_
      refine j_getS C (2, 0, 0, 0) fl_X7_9 dX7_readRates_43 (by decide) ⟨rfl, rfl⟩ rfl rfl ?_
      refine j_getI C fl_X7_65 dX7_readRates_46 (by decide) ⟨rfl, rfl⟩ rfl ?_
      obtain ⟨D10, eD10, h⟩ := bnd_x h
      refine j_putI C fl_X7_71 dX7_readRates_49 hv1 ⟨rfl, rfl⟩ rfl rfl rfl ?_
      refine j_rep eD10 ?_
      refine j_iconst C (1 : Int32) (by decide) dX7_readRates_52 ?_
      obtain ⟨rfl, rfl⟩ := pr_x h
      exact j_zret C (Or.inr rfl) dX7_readRates_53
    · have h := ite_t c9 h
      refine j_iconst C (0 : Int32) (by decide) dX7_readRates_39 ?_
      obtain ⟨rfl, rfl⟩ := pr_x h
      exact j_zret C (Or.inl rfl) dX7_readRates_40
  · have h := ite_t c4 h
    refine j_iconst C (0 : Int32) (by decide) dX7_readRates_13 ?_
    obtain ⟨rfl, rfl⟩ := pr_x h
    exact j_zret C (Or.inl rfl) dX7_readRates_14
def F_X7_readSun (a1 : Nat) (D : Dt) : Option (Int32 × Dt) := (grd (V (5, a1, 0, 0) = true) (cbd (F_X2_takeNumber (0 : Int32) ((D.1 (5, a1, 0, 0) 3) - (1 : Int32)) D) (fun r2 D3 => (if r2 = 0 then (some ((0 : Int32), D3)) else (bnd (D3.1 (2, 0, 0, 0) 8) (fun v5 => (cbd (F_X2_takeNumber (0 : Int32) (60 : Int32) D3) (fun r7 D8 => (if r7 = 0 then (some ((0 : Int32), D8)) else (grd (inB v5 5 = true) (grd (inB (D8.1 (2, 0, 0, 0) 8) 61 = true) (bnd (setI D8 (5, a1, 8, v5.toNatClampNeg + 1) ((D8.1 (2, 0, 0, 0) 8).toNatClampNeg) ((D8.1 (5, a1, 8, v5.toNatClampNeg + 1) ((D8.1 (2, 0, 0, 0) 8).toNatClampNeg)) + (1 : Int32))) (fun D12 => (some ((1 : Int32), D12)))))))))))))))
set_option maxRecDepth 100000 in
set_option maxHeartbeats 4000000 in
theorem M_X7_readSun {l : Launch} {G : Gt} {A : Nat → Prop} {lv : Nat} {a1 : Nat} {D : Dt} {r : Int32} {D' : Dt} (hG : Gok G A) (hlv : 3 ≤ lv)  (h : F_X7_readSun a1 D = some (r, D')) : MD l G A lv yX7_readSun cX7_readSun 3 (some .boolean) [.ref (ad G (7, 0, 0, 0)), .ref (ad G (5, a1, 0, 0))] D (some (.int r)) D' := by
  unfold F_X7_readSun at h
  obtain ⟨hv1, h⟩ := grd_x h
  refine md_start RX7 hG (by decide +kernel) rfl (Nat.le_of_ble_eq_true rfl) (L := [(0, .ref (ad G (7, 0, 0, 0))), (1, .ref (ad G (5, a1, 0, 0)))]) rfl (fun X C => ?_)
  refine j_aload_n C 0 dX7_readSun_0 rfl rfl ?_
  refine j_getS C (2, 0, 0, 0) fl_X7_9 dX7_readSun_1 (by decide) ⟨rfl, rfl⟩ rfl rfl ?_
  refine j_iconst C (0 : Int32) (by decide) dX7_readSun_4 ?_
  refine j_aload_n C 1 dX7_readSun_5 rfl rfl ?_
  refine j_getI C fl_X7_45 dX7_readSun_6 hv1 ⟨rfl, rfl⟩ rfl ?_
  refine j_iconst C (1 : Int32) (by decide) dX7_readSun_9 ?_
  refine j_isub C dX7_readSun_10 ?_
  obtain ⟨r2, D3, h1, h⟩ := cbd_x h
  refine j_callV C [.int (0 : Int32), .int ((D.1 (5, a1, 0, 0) 3) - (1 : Int32))] [] cl_X7_61 (M_X2_takeNumber (lv := lv - 1) hG (by omega) h1) (by omega) dX7_readSun_11 (by decide) ⟨rfl, rfl⟩ rfl rfl (Nat.le_of_ble_eq_true rfl) ?_
  refine j_st (st' := [.int r2]) rfl ?_
  refine j_if_ne C 19 dX7_readSun_14 (by decide) (fun c4 => ?_) (fun c4 => ?_)
  · have h := ite_f c4 h
    refine j_aload_n C 0 dX7_readSun_19 rfl rfl ?_
    refine j_getS C (2, 0, 0, 0) fl_X7_9 dX7_readSun_20 (by decide) ⟨rfl, rfl⟩ rfl rfl ?_
    refine j_getI C fl_X7_65 dX7_readSun_23 (by decide) ⟨rfl, rfl⟩ rfl ?_
    obtain ⟨v5, ev5, h⟩ := bnd_x h
    refine j_istore_n C [(2, .int v5), (0, .ref (ad G (7, 0, 0, 0))), (1, .ref (ad G (5, a1, 0, 0)))] dX7_readSun_26 rfl (Nat.le_of_ble_eq_true rfl) ev5 rfl ?_
    refine j_aload_n C 1 dX7_readSun_27 rfl rfl ?_
    refine j_getS C (2, 0, 0, 0) fl_X7_9 dX7_readSun_28 (by decide) ⟨rfl, rfl⟩ rfl rfl ?_
    refine j_iconst C (0 : Int32) (by decide) dX7_readSun_31 ?_
    refine j_bipush C (60 : Int32) (by decide) dX7_readSun_32 ?_
    obtain ⟨r7, D8, h6, h⟩ := cbd_x h
    refine j_callV C [.int (0 : Int32), .int (60 : Int32)] [] cl_X7_61 (M_X2_takeNumber (lv := lv - 1) hG (by omega) h6) (by omega) dX7_readSun_34 (by decide) ⟨rfl, rfl⟩ rfl rfl (Nat.le_of_ble_eq_true rfl) ?_
    refine j_st (st' := [.int r7]) rfl ?_
    refine j_if_ne C 42 dX7_readSun_37 (by decide) (fun c9 => ?_) (fun c9 => ?_)
    · have h := ite_f c9 h
      refine j_aload_n C 2 dX7_readSun_42 rfl rfl ?_
      refine j_getS C (5, a1, 8, 0) fl_X7_84 dX7_readSun_43 hv1 ⟨rfl, rfl⟩ rfl rfl ?_
      refine j_iload_n C 0 dX7_readSun_46 rfl rfl ?_
      obtain ⟨g10, h⟩ := grd_x h
      refine j_aald C 7 5 (5, a1, 8, v5.toNatClampNeg + 1) dX7_readSun_47 (V_f 7 hv1 (by decide)) rfl (by decide) g10 rfl ?_
      refine j_aload_n C 1 dX7_readSun_48 rfl rfl ?_
      refine j_getS C (2, 0, 0, 0) fl_X7_9 dX7_readSun_49 (by decide) ⟨rfl, rfl⟩ rfl rfl ?_
      refine j_getI C fl_X7_65 dX7_readSun_52 (by decide) ⟨rfl, rfl⟩ rfl ?_
      refine j_dup2 C rfl rfl dX7_readSun_55 ?_
      obtain ⟨g11, h⟩ := grd_x h
      refine j_ialdK C 61 ((D8.1 (2, 0, 0, 0) 8).toNatClampNeg) dX7_readSun_56 (V_w hv1 rfl (inB_lt g10)) rfl g11 rfl ?_
      refine j_iconst C (1 : Int32) (by decide) dX7_readSun_57 ?_
      refine j_iadd C dX7_readSun_58 ?_
      obtain ⟨D12, eD12, h⟩ := bnd_x h
      refine j_iastK C 61 ((D8.1 (2, 0, 0, 0) 8).toNatClampNeg) dX7_readSun_59 (V_w hv1 rfl (inB_lt g10)) rfl g11 rfl ?_
      refine j_rep eD12 ?_
      refine j_iconst C (1 : Int32) (by decide) dX7_readSun_60 ?_
      obtain ⟨rfl, rfl⟩ := pr_x h
      exact j_zret C (Or.inr rfl) dX7_readSun_61
    · have h := ite_t c9 h
      refine j_iconst C (0 : Int32) (by decide) dX7_readSun_40 ?_
      obtain ⟨rfl, rfl⟩ := pr_x h
      exact j_zret C (Or.inl rfl) dX7_readSun_41
  · have h := ite_t c4 h
    refine j_iconst C (0 : Int32) (by decide) dX7_readSun_17 ?_
    obtain ⟨rfl, rfl⟩ := pr_x h
    exact j_zret C (Or.inl rfl) dX7_readSun_18
def F_X7_readClause_b90 (a1 : Nat) (a2 : Int32)   (D : Dt) : Option (Int32 × Dt) := (cbd (F_X2_fail (4 : Int32) D) (fun r8 D9 => (grd (r8 = 0 ∨ r8 = 1) (some (r8, D9)))))
set_option maxRecDepth 100000 in
set_option maxHeartbeats 4000000 in
theorem T_X7_readClause_b90 {r : Int32} {D' : Dt} {X : Ctx} {l : Launch} {G : Gt} {A : Nat → Prop} {lv : Nat} {a1 : Nat} {a2 : Int32}   (hG : Gok G A) (hlv : 4 ≤ lv) (hv1 : V (5, a1, 0, 0) = true)  (C : Cx X cX7_readClause RX7 G l A lv 5 (some .boolean) (some (.int r)) D')  : ∀  (D : Dt), F_X7_readClause_b90 a1 a2  D = some (r, D') → J X (Rep G D) 90 [(0, .ref (ad G (7, 0, 0, 0)))] [] := by
  intro D h
  unfold F_X7_readClause_b90 at h
  refine j_aload_n C 0 dX7_readClause_90 rfl rfl ?_
  refine j_getS C (2, 0, 0, 0) fl_X7_9 dX7_readClause_91 (by decide) ⟨rfl, rfl⟩ rfl rfl ?_
  refine j_iconst C (4 : Int32) (by decide) dX7_readClause_94 ?_
  obtain ⟨r8, D9, h7, h⟩ := cbd_x h
  refine j_callV C [.int (4 : Int32)] [] cl_X7_42 (M_X2_fail (lv := lv - 1) hG (by omega) h7) (by omega) dX7_readClause_95 (by decide) ⟨rfl, rfl⟩ rfl rfl (Nat.le_of_ble_eq_true rfl) ?_
  refine j_st (st' := [.int r8]) rfl ?_
  obtain ⟨g10, h⟩ := grd_x h
  obtain ⟨rfl, rfl⟩ := pr_x h
  exact j_zret C g10 dX7_readClause_98
def F_X7_readClause_b82 (a1 : Nat) (a2 : Int32)  (l3 : Int32) (l4 : Int32) (s0 : Int32) (s1 : Int32) (D : Dt) : Option (Int32 × Dt) := (if s0 = s1 then (if l4 = 0 then (vbd (F_X2_step  D) (fun D16 => (if l3 = (32 : Int32) then (cbd (F_X7_readRates a1 D16) (fun r28 D29 => (grd (r28 = 0 ∨ r28 = 1) (some (r28, D29))))) else (if l3 = (20 : Int32) then (cbd (F_X7_readLand a1 D16) (fun r24 D25 => (grd (r24 = 0 ∨ r24 = 1) (some (r24, D25))))) else (cbd (F_X7_readSun a1 D16) (fun r20 D21 => (grd (r20 = 0 ∨ r20 = 1) (some (r20, D21))))))))) else (F_X7_readClause_b90 a1 a2  D)) else (F_X7_readClause_b90 a1 a2  D))
set_option maxRecDepth 100000 in
set_option maxHeartbeats 4000000 in
theorem T_X7_readClause_b82 {r : Int32} {D' : Dt} {X : Ctx} {l : Launch} {G : Gt} {A : Nat → Prop} {lv : Nat} {a1 : Nat} {a2 : Int32}   (hG : Gok G A) (hlv : 4 ≤ lv) (hv1 : V (5, a1, 0, 0) = true)  (C : Cx X cX7_readClause RX7 G l A lv 5 (some .boolean) (some (.int r)) D')  : ∀ (l3 : Int32) (l4 : Int32) (s0 : Int32) (s1 : Int32) (D : Dt), F_X7_readClause_b82 a1 a2 l3 l4 s0 s1 D = some (r, D') → J X (Rep G D) 82 [(0, .ref (ad G (7, 0, 0, 0))), (1, .ref (ad G (5, a1, 0, 0))), (3, .int l3), (4, .int l4)] [.int s1, .int s0] := by
  intro l3 l4 s0 s1 D h
  unfold F_X7_readClause_b82 at h
  refine j_icmp_ne C 90 dX7_readClause_82 (by decide) (fun c13 => ?_) (fun c13 => ?_)
  · have h := ite_f c13 h
    refine j_sub [0] [(0, .ref (ad G (7, 0, 0, 0)))] rfl ?_
    refine T_X7_readClause_b90 hG hlv hv1 C   D h
  · have h := ite_t c13 h
    refine j_iload C 3 dX7_readClause_85 rfl ?_
    refine j_if_eq C 99 dX7_readClause_87 (by decide) (fun c14 => ?_) (fun c14 => ?_)
    · have h := ite_t c14 h
      refine j_aload_n C 0 dX7_readClause_99 rfl rfl ?_
      refine j_getS C (2, 0, 0, 0) fl_X7_9 dX7_readClause_100 (by decide) ⟨rfl, rfl⟩ rfl rfl ?_
      obtain ⟨D16, h15, h⟩ := vbd_x h
      refine j_callV C [] [] cl_X7_48 (M_X2_step (lv := lv - 1) hG (by omega) h15) (by omega) dX7_readClause_103 (by decide) ⟨rfl, rfl⟩ rfl rfl (Nat.le_of_ble_eq_true rfl) ?_
      refine j_st (st' := []) rfl ?_
      refine j_iload_n C 2 dX7_readClause_106 rfl rfl ?_
      refine j_bipush C (32 : Int32) (by decide) dX7_readClause_107 ?_
      refine j_icmp_ne C 118 dX7_readClause_109 (by decide) (fun c17 => ?_) (fun c17 => ?_)
      · have h := ite_f c17 h
        refine j_iload_n C 2 dX7_readClause_118 rfl rfl ?_
        refine j_bipush C (20 : Int32) (by decide) dX7_readClause_119 ?_
        refine j_icmp_ne C 132 dX7_readClause_121 (by decide) (fun c18 => ?_) (fun c18 => ?_)
        · have h := ite_f c18 h
          refine j_aload_n C 0 dX7_readClause_132 rfl rfl ?_
          refine j_aload_n C 1 dX7_readClause_133 rfl rfl ?_
          obtain ⟨r20, D21, h19, h⟩ := cbd_x h
          refine j_callV C [.ref (ad G (5, a1, 0, 0))] [] cl_X7_58 (M_X7_readSun (lv := lv - 1) hG (by omega) h19) (by omega) dX7_readClause_134 (by decide) ⟨rfl, rfl⟩ rfl rfl (Nat.le_of_ble_eq_true rfl) ?_
          refine j_st (st' := [.int r20]) rfl ?_
          obtain ⟨g22, h⟩ := grd_x h
          obtain ⟨rfl, rfl⟩ := pr_x h
          exact j_zret C g22 dX7_readClause_137
        · have h := ite_t c18 h
          refine j_aload_n C 0 dX7_readClause_124 rfl rfl ?_
          refine j_aload_n C 1 dX7_readClause_125 rfl rfl ?_
          obtain ⟨r24, D25, h23, h⟩ := cbd_x h
          refine j_callV C [.ref (ad G (5, a1, 0, 0))] [] cl_X7_55 (M_X7_readLand (lv := lv - 1) hG (by omega) h23) (by omega) dX7_readClause_126 (by decide) ⟨rfl, rfl⟩ rfl rfl (Nat.le_of_ble_eq_true rfl) ?_
          refine j_st (st' := [.int r24]) rfl ?_
          refine j_goto C 137 dX7_readClause_129 (by decide) ?_
          obtain ⟨g26, h⟩ := grd_x h
          obtain ⟨rfl, rfl⟩ := pr_x h
          exact j_zret C g26 dX7_readClause_137
      · have h := ite_t c17 h
        refine j_aload_n C 0 dX7_readClause_112 rfl rfl ?_
        refine j_aload_n C 1 dX7_readClause_113 rfl rfl ?_
        obtain ⟨r28, D29, h27, h⟩ := cbd_x h
        refine j_callV C [.ref (ad G (5, a1, 0, 0))] [] cl_X7_51 (M_X7_readRates (lv := lv - 1) hG (by omega) h27) (by omega) dX7_readClause_114 (by decide) ⟨rfl, rfl⟩ rfl rfl (Nat.le_of_ble_eq_true rfl) ?_
        refine j_st (st' := [.int r28]) rfl ?_
        obtain ⟨g30, h⟩ := grd_x h
        obtain ⟨rfl, rfl⟩ := pr_x h
        exact j_zret C g30 dX7_readClause_117
    · have h := ite_f c14 h
      refine j_sub [0] [(0, .ref (ad G (7, 0, 0, 0)))] rfl ?_
      refine T_X7_readClause_b90 hG hlv hv1 C   D h
def F_X7_readClause_b73 (a1 : Nat) (a2 : Int32)  (l2 : Int32) (l3 : Int32) (l4 : Int32) (s0 : Int32) (D : Dt) : Option (Int32 × Dt) := (if l2 = 0 then (F_X7_readClause_b82 a1 a2 l3 l4 s0 (1 : Int32) D) else (F_X7_readClause_b82 a1 a2 l3 l4 s0 (0 : Int32) D))
set_option maxRecDepth 100000 in
set_option maxHeartbeats 4000000 in
theorem T_X7_readClause_b73 {r : Int32} {D' : Dt} {X : Ctx} {l : Launch} {G : Gt} {A : Nat → Prop} {lv : Nat} {a1 : Nat} {a2 : Int32}   (hG : Gok G A) (hlv : 4 ≤ lv) (hv1 : V (5, a1, 0, 0) = true)  (C : Cx X cX7_readClause RX7 G l A lv 5 (some .boolean) (some (.int r)) D')  : ∀ (l2 : Int32) (l3 : Int32) (l4 : Int32) (s0 : Int32) (D : Dt), F_X7_readClause_b73 a1 a2 l2 l3 l4 s0 D = some (r, D') → J X (Rep G D) 73 [(0, .ref (ad G (7, 0, 0, 0))), (1, .ref (ad G (5, a1, 0, 0))), (2, .int l2), (3, .int l3), (4, .int l4)] [.int s0] := by
  intro l2 l3 l4 s0 D h
  unfold F_X7_readClause_b73 at h
  refine j_iload_n C 2 dX7_readClause_73 rfl rfl ?_
  refine j_if_ne C 81 dX7_readClause_74 (by decide) (fun c12 => ?_) (fun c12 => ?_)
  · have h := ite_f c12 h
    refine j_iconst C (0 : Int32) (by decide) dX7_readClause_81 ?_
    refine j_sub [0, 1, 3, 4] [(0, .ref (ad G (7, 0, 0, 0))), (1, .ref (ad G (5, a1, 0, 0))), (3, .int l3), (4, .int l4)] rfl ?_
    refine T_X7_readClause_b82 hG hlv hv1 C  l3 l4 s0 (0 : Int32) D h
  · have h := ite_t c12 h
    refine j_iconst C (1 : Int32) (by decide) dX7_readClause_77 ?_
    refine j_goto C 82 dX7_readClause_78 (by decide) ?_
    refine j_sub [0, 1, 3, 4] [(0, .ref (ad G (7, 0, 0, 0))), (1, .ref (ad G (5, a1, 0, 0))), (3, .int l3), (4, .int l4)] rfl ?_
    refine T_X7_readClause_b82 hG hlv hv1 C  l3 l4 s0 (1 : Int32) D h
def F_X7_readClause_b54 (a1 : Nat) (a2 : Int32)  (l2 : Int32) (l3 : Int32) (s0 : Int32) (D : Dt) : Option (Int32 × Dt) := (if (40 : Int32) ≤ l2 then (F_X7_readClause_b90 a1 a2  D) else (if l3 = (32 : Int32) then (F_X7_readClause_b73 a1 a2 l2 l3 s0 (1 : Int32) D) else (F_X7_readClause_b73 a1 a2 l2 l3 s0 (0 : Int32) D)))
set_option maxRecDepth 100000 in
set_option maxHeartbeats 4000000 in
theorem T_X7_readClause_b54 {r : Int32} {D' : Dt} {X : Ctx} {l : Launch} {G : Gt} {A : Nat → Prop} {lv : Nat} {a1 : Nat} {a2 : Int32}   (hG : Gok G A) (hlv : 4 ≤ lv) (hv1 : V (5, a1, 0, 0) = true)  (C : Cx X cX7_readClause RX7 G l A lv 5 (some .boolean) (some (.int r)) D')  : ∀ (l2 : Int32) (l3 : Int32) (s0 : Int32) (D : Dt), F_X7_readClause_b54 a1 a2 l2 l3 s0 D = some (r, D') → J X (Rep G D) 54 [(0, .ref (ad G (7, 0, 0, 0))), (1, .ref (ad G (5, a1, 0, 0))), (2, .int l2), (3, .int l3)] [.int s0] := by
  intro l2 l3 s0 D h
  unfold F_X7_readClause_b54 at h
  refine j_istore C [(4, .int s0), (0, .ref (ad G (7, 0, 0, 0))), (1, .ref (ad G (5, a1, 0, 0))), (2, .int l2), (3, .int l3)] dX7_readClause_54 (Nat.le_of_ble_eq_true rfl) rfl rfl ?_
  refine j_iload_n C 3 dX7_readClause_56 rfl rfl ?_
  refine j_bipush C (40 : Int32) (by decide) dX7_readClause_57 ?_
  refine j_icmp_ge C 90 dX7_readClause_59 (by decide) (fun c6 => ?_) (fun c6 => ?_)
  · have h := ite_t c6 h
    refine j_sub [1] [(0, .ref (ad G (7, 0, 0, 0)))] rfl ?_
    refine T_X7_readClause_b90 hG hlv hv1 C   D h
  · have h := ite_f c6 h
    refine j_iload_n C 4 dX7_readClause_62 rfl rfl ?_
    refine j_bipush C (32 : Int32) (by decide) dX7_readClause_63 ?_
    refine j_icmp_ne C 72 dX7_readClause_65 (by decide) (fun c11 => ?_) (fun c11 => ?_)
    · have h := ite_f c11 h
      refine j_iconst C (0 : Int32) (by decide) dX7_readClause_72 ?_
      refine j_sub [1, 2, 3, 4, 0] [(0, .ref (ad G (7, 0, 0, 0))), (1, .ref (ad G (5, a1, 0, 0))), (2, .int l2), (3, .int l3), (4, .int s0)] rfl ?_
      refine T_X7_readClause_b73 hG hlv hv1 C  l2 l3 s0 (0 : Int32) D h
    · have h := ite_t c11 h
      refine j_iconst C (1 : Int32) (by decide) dX7_readClause_68 ?_
      refine j_goto C 73 dX7_readClause_69 (by decide) ?_
      refine j_sub [1, 2, 3, 4, 0] [(0, .ref (ad G (7, 0, 0, 0))), (1, .ref (ad G (5, a1, 0, 0))), (2, .int l2), (3, .int l3), (4, .int s0)] rfl ?_
      refine T_X7_readClause_b73 hG hlv hv1 C  l2 l3 s0 (1 : Int32) D h
def F_X7_readClause_b53 (a1 : Nat) (a2 : Int32)  (l2 : Int32) (l3 : Int32) (D : Dt) : Option (Int32 × Dt) := (F_X7_readClause_b54 a1 a2 l2 l3 (0 : Int32) D)
set_option maxRecDepth 100000 in
set_option maxHeartbeats 4000000 in
theorem T_X7_readClause_b53 {r : Int32} {D' : Dt} {X : Ctx} {l : Launch} {G : Gt} {A : Nat → Prop} {lv : Nat} {a1 : Nat} {a2 : Int32}   (hG : Gok G A) (hlv : 4 ≤ lv) (hv1 : V (5, a1, 0, 0) = true)  (C : Cx X cX7_readClause RX7 G l A lv 5 (some .boolean) (some (.int r)) D')  : ∀ (l2 : Int32) (l3 : Int32) (D : Dt), F_X7_readClause_b53 a1 a2 l2 l3 D = some (r, D') → J X (Rep G D) 53 [(0, .ref (ad G (7, 0, 0, 0))), (1, .ref (ad G (5, a1, 0, 0))), (2, .int l2), (3, .int l3)] [] := by
  intro l2 l3 D h
  unfold F_X7_readClause_b53 at h
  refine j_iconst C (0 : Int32) (by decide) dX7_readClause_53 ?_
  refine T_X7_readClause_b54 hG hlv hv1 C  l2 l3 (0 : Int32) D h
def F_X7_readClause_b35 (a1 : Nat) (a2 : Int32)  (l2 : Int32) (l3 : Int32) (D : Dt) : Option (Int32 × Dt) := (if l3 = (20 : Int32) then (if (D.1 (5, a1, 0, 0) 3) < (5 : Int32) then (F_X7_readClause_b53 a1 a2 l2 l3 D) else (F_X7_readClause_b54 a1 a2 l2 l3 (1 : Int32) D)) else (F_X7_readClause_b53 a1 a2 l2 l3 D))
set_option maxRecDepth 100000 in
set_option maxHeartbeats 4000000 in
theorem T_X7_readClause_b35 {r : Int32} {D' : Dt} {X : Ctx} {l : Launch} {G : Gt} {A : Nat → Prop} {lv : Nat} {a1 : Nat} {a2 : Int32}   (hG : Gok G A) (hlv : 4 ≤ lv) (hv1 : V (5, a1, 0, 0) = true)  (C : Cx X cX7_readClause RX7 G l A lv 5 (some .boolean) (some (.int r)) D')  : ∀ (l2 : Int32) (l3 : Int32) (D : Dt), F_X7_readClause_b35 a1 a2 l2 l3 D = some (r, D') → J X (Rep G D) 35 [(0, .ref (ad G (7, 0, 0, 0))), (1, .ref (ad G (5, a1, 0, 0))), (2, .int l2), (3, .int l3)] [] := by
  intro l2 l3 D h
  unfold F_X7_readClause_b35 at h
  refine j_iload_n C 3 dX7_readClause_35 rfl rfl ?_
  refine j_bipush C (20 : Int32) (by decide) dX7_readClause_36 ?_
  refine j_icmp_ne C 53 dX7_readClause_38 (by decide) (fun c5 => ?_) (fun c5 => ?_)
  · have h := ite_f c5 h
    refine T_X7_readClause_b53 hG hlv hv1 C  l2 l3 D h
  · have h := ite_t c5 h
    refine j_aload_n C 1 dX7_readClause_41 rfl rfl ?_
    refine j_getI C fl_X7_45 dX7_readClause_42 hv1 ⟨rfl, rfl⟩ rfl ?_
    refine j_iconst C (5 : Int32) (by decide) dX7_readClause_45 ?_
    refine j_icmp_lt C 53 dX7_readClause_46 (by decide) (fun c31 => ?_) (fun c31 => ?_)
    · have h := ite_t c31 h
      refine T_X7_readClause_b53 hG hlv hv1 C  l2 l3 D h
    · have h := ite_f c31 h
      refine j_iconst C (1 : Int32) (by decide) dX7_readClause_49 ?_
      refine j_goto C 54 dX7_readClause_50 (by decide) ?_
      refine T_X7_readClause_b54 hG hlv hv1 C  l2 l3 (1 : Int32) D h
def F_X7_readClause (a1 : Nat) (a2 : Int32) (D : Dt) : Option (Int32 × Dt) := (grd (V (5, a1, 0, 0) = true) (cbd (F_X2_sign  D) (fun r2 D3 => (if r2 = (32 : Int32) then (F_X7_readClause_b35 a1 a2 a2 r2 D3) else (if r2 = (20 : Int32) then (F_X7_readClause_b35 a1 a2 a2 r2 D3) else (if r2 = (23 : Int32) then (F_X7_readClause_b35 a1 a2 a2 r2 D3) else (cbd (F_X2_fail (0 : Int32) D3) (fun r35 D36 => (grd (r35 = 0 ∨ r35 = 1) (some (r35, D36)))))))))))
set_option maxRecDepth 100000 in
set_option maxHeartbeats 4000000 in
theorem M_X7_readClause {l : Launch} {G : Gt} {A : Nat → Prop} {lv : Nat} {a1 : Nat} {a2 : Int32} {D : Dt} {r : Int32} {D' : Dt} (hG : Gok G A) (hlv : 4 ≤ lv)  (h : F_X7_readClause a1 a2 D = some (r, D')) : MD l G A lv yX7_readClause cX7_readClause 5 (some .boolean) [.ref (ad G (7, 0, 0, 0)), .ref (ad G (5, a1, 0, 0)), .int a2] D (some (.int r)) D' := by
  unfold F_X7_readClause at h
  obtain ⟨hv1, h⟩ := grd_x h
  refine md_start RX7 hG (by decide +kernel) rfl (Nat.le_of_ble_eq_true rfl) (L := [(0, .ref (ad G (7, 0, 0, 0))), (1, .ref (ad G (5, a1, 0, 0))), (2, .int a2)]) rfl (fun X C => ?_)
  refine j_aload_n C 0 dX7_readClause_0 rfl rfl ?_
  refine j_getS C (2, 0, 0, 0) fl_X7_9 dX7_readClause_1 (by decide) ⟨rfl, rfl⟩ rfl rfl ?_
  obtain ⟨r2, D3, h1, h⟩ := cbd_x h
  refine j_callV C [] [] cl_X7_30 (M_X2_sign (lv := lv - 1) hG (by omega) h1) (by omega) dX7_readClause_4 (by decide) ⟨rfl, rfl⟩ rfl rfl (Nat.le_of_ble_eq_true rfl) ?_
  refine j_st (st' := [.int r2]) rfl ?_
  refine j_istore_n C [(3, .int r2), (0, .ref (ad G (7, 0, 0, 0))), (1, .ref (ad G (5, a1, 0, 0))), (2, .int a2)] dX7_readClause_7 rfl (Nat.le_of_ble_eq_true rfl) rfl rfl ?_
  refine j_iload_n C 0 dX7_readClause_8 rfl rfl ?_
  refine j_bipush C (32 : Int32) (by decide) dX7_readClause_9 ?_
  refine j_icmp_eq C 35 dX7_readClause_11 (by decide) (fun c4 => ?_) (fun c4 => ?_)
  · have h := ite_t c4 h
    refine j_sub [1, 2, 3, 0] [(0, .ref (ad G (7, 0, 0, 0))), (1, .ref (ad G (5, a1, 0, 0))), (2, .int a2), (3, .int r2)] rfl ?_
    refine T_X7_readClause_b35 hG hlv hv1 C  a2 r2 D3 h
  · have h := ite_f c4 h
    refine j_iload_n C 0 dX7_readClause_14 rfl rfl ?_
    refine j_bipush C (20 : Int32) (by decide) dX7_readClause_15 ?_
    refine j_icmp_eq C 35 dX7_readClause_17 (by decide) (fun c32 => ?_) (fun c32 => ?_)
    · have h := ite_t c32 h
      refine j_sub [1, 2, 3, 0] [(0, .ref (ad G (7, 0, 0, 0))), (1, .ref (ad G (5, a1, 0, 0))), (2, .int a2), (3, .int r2)] rfl ?_
      refine T_X7_readClause_b35 hG hlv hv1 C  a2 r2 D3 h
    · have h := ite_f c32 h
      refine j_iload_n C 0 dX7_readClause_20 rfl rfl ?_
      refine j_bipush C (23 : Int32) (by decide) dX7_readClause_21 ?_
      refine j_icmp_eq C 35 dX7_readClause_23 (by decide) (fun c33 => ?_) (fun c33 => ?_)
      · have h := ite_t c33 h
        refine j_sub [1, 2, 3, 0] [(0, .ref (ad G (7, 0, 0, 0))), (1, .ref (ad G (5, a1, 0, 0))), (2, .int a2), (3, .int r2)] rfl ?_
        refine T_X7_readClause_b35 hG hlv hv1 C  a2 r2 D3 h
      · have h := ite_f c33 h
        refine j_aload_n C 1 dX7_readClause_26 rfl rfl ?_
        refine j_getS C (2, 0, 0, 0) fl_X7_9 dX7_readClause_27 (by decide) ⟨rfl, rfl⟩ rfl rfl ?_
        refine j_iconst C (0 : Int32) (by decide) dX7_readClause_30 ?_
        obtain ⟨r35, D36, h34, h⟩ := cbd_x h
        refine j_callV C [.int (0 : Int32)] [] cl_X7_42 (M_X2_fail (lv := lv - 1) hG (by omega) h34) (by omega) dX7_readClause_31 (by decide) ⟨rfl, rfl⟩ rfl rfl (Nat.le_of_ble_eq_true rfl) ?_
        refine j_st (st' := [.int r35]) rfl ?_
        obtain ⟨g37, h⟩ := grd_x h
        obtain ⟨rfl, rfl⟩ := pr_x h
        exact j_zret C g37 dX7_readClause_34
def F_X7_read_b6 (a1 : Nat) (k39 : Dt → Option (Int32 × Dt)) : Nat → Int32 → Dt → Option (Int32 × Dt)
  | 0, _, _ => none
  | f + 1, l2, D => (if (40 : Int32) < l2 then (some ((D.1 (2, 0, 0, 0) 7), D)) else (cbd (F_X7_readClause a1 l2 D) (fun r5 D6 => (if r5 = 0 then (some ((D6.1 (2, 0, 0, 0) 7), D6)) else (cbd (F_X2_sign  D6) (fun r9 D10 => (if r9 = 0 then (k39  D10) else (cbd (F_X2_demand (4 : Int32) D10) (fun r13 D14 => (if r13 = 0 then (some ((D14.1 (2, 0, 0, 0) 7), D14)) else (bnd (l2 + (1 : Int32)) (fun v16 => (F_X7_read_b6 a1 k39 f v16 D14)))))))))))))
set_option maxRecDepth 100000 in
set_option maxHeartbeats 4000000 in
theorem T_X7_read_b6 {r : Int32} {D' : Dt} {X : Ctx} {l : Launch} {G : Gt} {A : Nat → Prop} {lv : Nat} {a1 : Nat}  {k39 : Dt → Option (Int32 × Dt)} (hG : Gok G A) (hlv : 5 ≤ lv) (hv1 : V (5, a1, 0, 0) = true)  (C : Cx X cX7_read RX7 G l A lv 3 (some .int) (some (.int r)) D') (hk39 : ∀  (D : Dt), k39  D = some (r, D') → J X (Rep G D) 39 [(1, .ref (ad G (5, a1, 0, 0)))] []) : ∀ (f : Nat) (l2 : Int32) (D : Dt), F_X7_read_b6 a1 k39 f l2 D = some (r, D') → J X (Rep G D) 6 [(0, .ref (ad G (7, 0, 0, 0))), (1, .ref (ad G (5, a1, 0, 0))), (2, .int l2)] [] := by
  intro f
  induction f with
  | zero =>
    intro l2 D h
    exact nomatch h
  | succ f ih =>
    intro l2 D h
    rw [F_X7_read_b6] at h
    refine j_iload_n C 2 dX7_read_6 rfl rfl ?_
    refine j_bipush C (40 : Int32) (by decide) dX7_read_7 ?_
    refine j_icmp_gt C 71 dX7_read_9 (by decide) (fun c3 => ?_) (fun c3 => ?_)
    · have h := ite_t c3 h
      refine j_aload_n C 0 dX7_read_71 rfl rfl ?_
      refine j_getS C (2, 0, 0, 0) fl_X7_9 dX7_read_72 (by decide) ⟨rfl, rfl⟩ rfl rfl ?_
      refine j_getI C fl_X7_24 dX7_read_75 (by decide) ⟨rfl, rfl⟩ rfl ?_
      obtain ⟨rfl, rfl⟩ := pr_x h
      exact j_iret C dX7_read_78
    · have h := ite_f c3 h
      refine j_aload_n C 0 dX7_read_12 rfl rfl ?_
      refine j_aload_n C 1 dX7_read_13 rfl rfl ?_
      refine j_iload_n C 2 dX7_read_14 rfl rfl ?_
      obtain ⟨r5, D6, h4, h⟩ := cbd_x h
      refine j_callV C [.ref (ad G (5, a1, 0, 0)), .int l2] [] cl_X7_20 (M_X7_readClause (lv := lv - 1) hG (by omega) h4) (by omega) dX7_read_15 (by decide) ⟨rfl, rfl⟩ rfl rfl (Nat.le_of_ble_eq_true rfl) ?_
      refine j_st (st' := [.int r5]) rfl ?_
      refine j_if_ne C 29 dX7_read_18 (by decide) (fun c7 => ?_) (fun c7 => ?_)
      · have h := ite_f c7 h
        refine j_aload_n C 0 dX7_read_29 rfl rfl ?_
        refine j_getS C (2, 0, 0, 0) fl_X7_9 dX7_read_30 (by decide) ⟨rfl, rfl⟩ rfl rfl ?_
        obtain ⟨r9, D10, h8, h⟩ := cbd_x h
        refine j_callV C [] [] cl_X7_30 (M_X2_sign (lv := lv - 1) hG (by omega) h8) (by omega) dX7_read_33 (by decide) ⟨rfl, rfl⟩ rfl rfl (Nat.le_of_ble_eq_true rfl) ?_
        refine j_st (st' := [.int r9]) rfl ?_
        refine j_if_ne C 46 dX7_read_36 (by decide) (fun c11 => ?_) (fun c11 => ?_)
        · have h := ite_f c11 h
          refine j_aload_n C 0 dX7_read_46 rfl rfl ?_
          refine j_getS C (2, 0, 0, 0) fl_X7_9 dX7_read_47 (by decide) ⟨rfl, rfl⟩ rfl rfl ?_
          refine j_iconst C (4 : Int32) (by decide) dX7_read_50 ?_
          obtain ⟨r13, D14, h12, h⟩ := cbd_x h
          refine j_callV C [.int (4 : Int32)] [] cl_X7_38 (M_X2_demand (lv := lv - 1) hG (by omega) h12) (by omega) dX7_read_51 (by decide) ⟨rfl, rfl⟩ rfl rfl (Nat.le_of_ble_eq_true rfl) ?_
          refine j_st (st' := [.int r13]) rfl ?_
          refine j_if_ne C 65 dX7_read_54 (by decide) (fun c15 => ?_) (fun c15 => ?_)
          · have h := ite_f c15 h
            obtain ⟨v16, ev16, h⟩ := bnd_x h
            refine j_iinc C 2 [(2, .int v16), (0, .ref (ad G (7, 0, 0, 0))), (1, .ref (ad G (5, a1, 0, 0)))] dX7_read_65 rfl (Nat.le_of_ble_eq_true rfl) (ev16.trans (congrArg (l2 + ·) (by decide))) rfl ?_
            refine j_goto C 6 dX7_read_68 (by decide) ?_
            refine j_sub [1, 2, 0] [(0, .ref (ad G (7, 0, 0, 0))), (1, .ref (ad G (5, a1, 0, 0))), (2, .int v16)] rfl ?_
            exact ih v16 D14 h
          · have h := ite_t c15 h
            refine j_aload_n C 0 dX7_read_57 rfl rfl ?_
            refine j_getS C (2, 0, 0, 0) fl_X7_9 dX7_read_58 (by decide) ⟨rfl, rfl⟩ rfl rfl ?_
            refine j_getI C fl_X7_24 dX7_read_61 (by decide) ⟨rfl, rfl⟩ rfl ?_
            obtain ⟨rfl, rfl⟩ := pr_x h
            exact j_iret C dX7_read_64
        · have h := ite_t c11 h
          refine j_sub [1] [(1, .ref (ad G (5, a1, 0, 0)))] rfl ?_
          exact hk39  D10 h
      · have h := ite_t c7 h
        refine j_aload_n C 0 dX7_read_21 rfl rfl ?_
        refine j_getS C (2, 0, 0, 0) fl_X7_9 dX7_read_22 (by decide) ⟨rfl, rfl⟩ rfl rfl ?_
        refine j_getI C fl_X7_24 dX7_read_25 (by decide) ⟨rfl, rfl⟩ rfl ?_
        obtain ⟨rfl, rfl⟩ := pr_x h
        exact j_iret C dX7_read_28
def F_X7_read (a1 : Nat) (D : Dt) : Option (Int32 × Dt) := (grd (V (5, a1, 0, 0) = true) (vbd (F_X5_clear a1 D) (fun D2 => (F_X7_read_b6 a1 (fun D17 => (bnd (setI D17 (5, a1, 0, 0) 0 (1 : Int32)) (fun D18 => (some ((0 : Int32), D18))))) 2000 (0 : Int32) D2))))
set_option maxRecDepth 100000 in
set_option maxHeartbeats 4000000 in
theorem M_X7_read {l : Launch} {G : Gt} {A : Nat → Prop} {lv : Nat} {a1 : Nat} {D : Dt} {r : Int32} {D' : Dt} (hG : Gok G A) (hlv : 5 ≤ lv)  (h : F_X7_read a1 D = some (r, D')) : MD l G A lv yX7_read cX7_read 3 (some .int) [.ref (ad G (7, 0, 0, 0)), .ref (ad G (5, a1, 0, 0))] D (some (.int r)) D' := by
  unfold F_X7_read at h
  obtain ⟨hv1, h⟩ := grd_x h
  refine md_start RX7 hG (by decide +kernel) rfl (Nat.le_of_ble_eq_true rfl) (L := [(0, .ref (ad G (7, 0, 0, 0))), (1, .ref (ad G (5, a1, 0, 0)))]) rfl (fun X C => ?_)
  refine j_aload_n C 1 dX7_read_0 rfl rfl ?_
  obtain ⟨D2, h1, h⟩ := vbd_x h
  refine j_callV C [] [] cl_X7_15 (M_X5_clear (lv := lv - 1) hG (by omega) h1) (by omega) dX7_read_1 hv1 ⟨rfl, rfl⟩ rfl rfl (Nat.le_of_ble_eq_true rfl) ?_
  refine j_st (st' := []) rfl ?_
  refine j_iconst C (0 : Int32) (by decide) dX7_read_4 ?_
  refine j_istore_n C [(2, .int (0 : Int32)), (0, .ref (ad G (7, 0, 0, 0))), (1, .ref (ad G (5, a1, 0, 0)))] dX7_read_5 rfl (Nat.le_of_ble_eq_true rfl) rfl rfl ?_
  refine j_sub [1, 2, 0] [(0, .ref (ad G (7, 0, 0, 0))), (1, .ref (ad G (5, a1, 0, 0))), (2, .int (0 : Int32))] rfl ?_
  refine T_X7_read_b6 hG hlv hv1 C (fun D17 h => ?_) 2000 (0 : Int32) D2 h
  · refine j_aload_n C 0 dX7_read_39 rfl rfl ?_
    refine j_iconst C (1 : Int32) (by decide) dX7_read_40 ?_
    obtain ⟨D18, eD18, h⟩ := bnd_x h
    refine j_putZ C fl_X7_34 dX7_read_41 hv1 ⟨rfl, rfl⟩ rfl rfl rfl (Or.inr rfl) ?_
    refine j_rep eD18 ?_
    refine j_iconst C (0 : Int32) (by decide) dX7_read_44 ?_
    obtain ⟨rfl, rfl⟩ := pr_x h
    exact j_iret C dX7_read_45
def F_X9_begin (i0 : Nat) (a1 : Nat) (D : Dt) : Option Dt := (grd (V (9, i0, 0, 0) = true) (grd (V (5, a1, 0, 0) = true) (vbd (F_X5_copyFrom i0 a1 D) (fun D2 => (vbd (F_X6_begin (21 * i0) a1 D2) (fun D4 => (bnd (setI D4 (0, i0, 0, 0) 1 (0 : Int32)) (fun D5 => (bnd (setI D5 (9, i0, 0, 0) 6 (0 : Int32)) (fun D6 => (some D6)))))))))))
set_option maxRecDepth 100000 in
set_option maxHeartbeats 4000000 in
theorem M_X9_begin {l : Launch} {G : Gt} {A : Nat → Prop} {lv : Nat} {i0 : Nat} {a1 : Nat} {D : Dt} {D' : Dt} (hG : Gok G A) (hlv : 3 ≤ lv)  (h : F_X9_begin i0 a1 D = some D') : MD l G A lv yX9_begin cX9_begin 2 none [.ref (ad G (9, i0, 0, 0)), .ref (ad G (5, a1, 0, 0))] D none D' := by
  unfold F_X9_begin at h
  obtain ⟨hv0, h⟩ := grd_x h
  obtain ⟨hv1, h⟩ := grd_x h
  refine md_start RX9 hG (by decide +kernel) rfl (Nat.le_of_ble_eq_true rfl) (L := [(0, .ref (ad G (9, i0, 0, 0))), (1, .ref (ad G (5, a1, 0, 0)))]) rfl (fun X C => ?_)
  refine j_aload_n C 0 dX9_begin_0 rfl rfl ?_
  refine j_getS C (5, i0, 0, 0) fl_X9_12 dX9_begin_1 hv0 ⟨rfl, rfl⟩ rfl rfl ?_
  refine j_aload_n C 1 dX9_begin_4 rfl rfl ?_
  obtain ⟨D2, h1, h⟩ := vbd_x h
  refine j_callV C [.ref (ad G (5, a1, 0, 0))] [] cl_X9_46 (M_X5_copyFrom (lv := lv - 1) hG (by omega) h1) (by omega) dX9_begin_5 (V_95 hv0) ⟨rfl, rfl⟩ rfl rfl (Nat.le_of_ble_eq_true rfl) ?_
  refine j_st (st' := []) rfl ?_
  refine j_aload_n C 0 dX9_begin_8 rfl rfl ?_
  refine j_getS C (6, (21 * i0), 0, 0) fl_X9_21 dX9_begin_9 hv0 ⟨rfl, rfl⟩ rfl rfl ?_
  refine j_aload_n C 1 dX9_begin_12 rfl rfl ?_
  obtain ⟨D4, h3, h⟩ := vbd_x h
  refine j_callV C [.ref (ad G (5, a1, 0, 0))] [] cl_X9_50 (M_X6_begin (lv := lv - 1) hG (by omega) h3) (by omega) dX9_begin_13 (V_96 hv0) ⟨rfl, rfl⟩ rfl rfl (Nat.le_of_ble_eq_true rfl) ?_
  refine j_st (st' := []) rfl ?_
  refine j_aload_n C 0 dX9_begin_16 rfl rfl ?_
  refine j_getS C (0, i0, 0, 0) fl_X9_28 dX9_begin_17 hv0 ⟨rfl, rfl⟩ rfl rfl ?_
  refine j_iconst C (0 : Int32) (by decide) dX9_begin_20 ?_
  obtain ⟨D5, eD5, h⟩ := bnd_x h
  refine j_putI C fl_X9_53 dX9_begin_21 (V_90 hv0) ⟨rfl, rfl⟩ rfl rfl rfl ?_
  refine j_rep eD5 ?_
  refine j_aload_n C 0 dX9_begin_24 rfl rfl ?_
  refine j_iconst C (0 : Int32) (by decide) dX9_begin_25 ?_
  obtain ⟨D6, eD6, h⟩ := bnd_x h
  refine j_putI C fl_X9_56 dX9_begin_26 hv0 ⟨rfl, rfl⟩ rfl rfl rfl ?_
  refine j_rep eD6 ?_
  obtain rfl := Option.some.inj h
  exact j_vret C dX9_begin_29
def F_X9_copyFrom (i0 : Nat) (a1 : Nat) (D : Dt) : Option Dt := (grd (V (9, i0, 0, 0) = true) (grd (V (9, a1, 0, 0) = true) (vbd (F_X5_copyFrom i0 a1 D) (fun D2 => (vbd (F_X6_copyFrom (21 * i0) (21 * a1) D2) (fun D4 => (vbd (F_X0_copyFrom i0 a1 D4) (fun D6 => (vbd (F_X10_copyRow (9, a1, 4, 0) (9, i0, 4, 0) D6) (fun D8 => (vbd (F_X10_copyRow (9, a1, 5, 0) (9, i0, 5, 0) D8) (fun D10 => (vbd (F_X10_copyRow (9, a1, 6, 0) (9, i0, 6, 0) D10) (fun D12 => (bnd (setI D12 (9, i0, 0, 0) 6 (D12.1 (9, a1, 0, 0) 6)) (fun D13 => (bnd (setI D13 (9, i0, 0, 0) 7 (D13.1 (9, a1, 0, 0) 7)) (fun D14 => (bnd (setI D14 (9, i0, 0, 0) 8 (D14.1 (9, a1, 0, 0) 8)) (fun D15 => (some D15)))))))))))))))))))))
set_option maxRecDepth 100000 in
set_option maxHeartbeats 4000000 in
theorem M_X9_copyFrom {l : Launch} {G : Gt} {A : Nat → Prop} {lv : Nat} {i0 : Nat} {a1 : Nat} {D : Dt} {D' : Dt} (hG : Gok G A) (hlv : 4 ≤ lv)  (h : F_X9_copyFrom i0 a1 D = some D') : MD l G A lv yX9_copyFrom cX9_copyFrom 2 none [.ref (ad G (9, i0, 0, 0)), .ref (ad G (9, a1, 0, 0))] D none D' := by
  unfold F_X9_copyFrom at h
  obtain ⟨hv0, h⟩ := grd_x h
  obtain ⟨hv1, h⟩ := grd_x h
  refine md_start RX9 hG (by decide +kernel) rfl (Nat.le_of_ble_eq_true rfl) (L := [(0, .ref (ad G (9, i0, 0, 0))), (1, .ref (ad G (9, a1, 0, 0)))]) rfl (fun X C => ?_)
  refine j_aload_n C 0 dX9_copyFrom_0 rfl rfl ?_
  refine j_getS C (5, i0, 0, 0) fl_X9_12 dX9_copyFrom_1 hv0 ⟨rfl, rfl⟩ rfl rfl ?_
  refine j_aload_n C 1 dX9_copyFrom_4 rfl rfl ?_
  refine j_getS C (5, a1, 0, 0) fl_X9_12 dX9_copyFrom_5 hv1 ⟨rfl, rfl⟩ rfl rfl ?_
  obtain ⟨D2, h1, h⟩ := vbd_x h
  refine j_callV C [.ref (ad G (5, a1, 0, 0))] [] cl_X9_46 (M_X5_copyFrom (lv := lv - 1) hG (by omega) h1) (by omega) dX9_copyFrom_8 (V_95 hv0) ⟨rfl, rfl⟩ rfl rfl (Nat.le_of_ble_eq_true rfl) ?_
  refine j_st (st' := []) rfl ?_
  refine j_aload_n C 0 dX9_copyFrom_11 rfl rfl ?_
  refine j_getS C (6, (21 * i0), 0, 0) fl_X9_21 dX9_copyFrom_12 hv0 ⟨rfl, rfl⟩ rfl rfl ?_
  refine j_aload_n C 1 dX9_copyFrom_15 rfl rfl ?_
  refine j_getS C (6, (21 * a1), 0, 0) fl_X9_21 dX9_copyFrom_16 hv1 ⟨rfl, rfl⟩ rfl rfl ?_
  obtain ⟨D4, h3, h⟩ := vbd_x h
  refine j_callV C [.ref (ad G (6, (21 * a1), 0, 0))] [] cl_X9_59 (M_X6_copyFrom (lv := lv - 1) hG (by omega) h3) (by omega) dX9_copyFrom_19 (V_96 hv0) ⟨rfl, rfl⟩ rfl rfl (Nat.le_of_ble_eq_true rfl) ?_
  refine j_st (st' := []) rfl ?_
  refine j_aload_n C 0 dX9_copyFrom_22 rfl rfl ?_
  refine j_getS C (0, i0, 0, 0) fl_X9_28 dX9_copyFrom_23 hv0 ⟨rfl, rfl⟩ rfl rfl ?_
  refine j_aload_n C 1 dX9_copyFrom_26 rfl rfl ?_
  refine j_getS C (0, a1, 0, 0) fl_X9_28 dX9_copyFrom_27 hv1 ⟨rfl, rfl⟩ rfl rfl ?_
  obtain ⟨D6, h5, h⟩ := vbd_x h
  refine j_callV C [.ref (ad G (0, a1, 0, 0))] [] cl_X9_62 (M_X0_copyFrom (lv := lv - 1) hG (by omega) h5) (by omega) dX9_copyFrom_30 (V_90 hv0) ⟨rfl, rfl⟩ rfl rfl (Nat.le_of_ble_eq_true rfl) ?_
  refine j_st (st' := []) rfl ?_
  refine j_aload_n C 1 dX9_copyFrom_33 rfl rfl ?_
  refine j_getS C (9, a1, 4, 0) fl_X9_32 dX9_copyFrom_34 hv1 ⟨rfl, rfl⟩ rfl rfl ?_
  refine j_aload_n C 0 dX9_copyFrom_37 rfl rfl ?_
  refine j_getS C (9, i0, 4, 0) fl_X9_32 dX9_copyFrom_38 hv0 ⟨rfl, rfl⟩ rfl rfl ?_
  obtain ⟨D8, h7, h⟩ := vbd_x h
  refine j_callS C [.ref (ad G (9, a1, 4, 0)), .ref (ad G (9, i0, 4, 0))] [] cl_X9_65 (M_X10_copyRow (lv := lv - 1) hG (by omega) h7) (by omega) dX9_copyFrom_41 rfl rfl (Nat.le_of_ble_eq_true rfl) ?_
  refine j_st (st' := []) rfl ?_
  refine j_aload_n C 1 dX9_copyFrom_44 rfl rfl ?_
  refine j_getS C (9, a1, 5, 0) fl_X9_36 dX9_copyFrom_45 hv1 ⟨rfl, rfl⟩ rfl rfl ?_
  refine j_aload_n C 0 dX9_copyFrom_48 rfl rfl ?_
  refine j_getS C (9, i0, 5, 0) fl_X9_36 dX9_copyFrom_49 hv0 ⟨rfl, rfl⟩ rfl rfl ?_
  obtain ⟨D10, h9, h⟩ := vbd_x h
  refine j_callS C [.ref (ad G (9, a1, 5, 0)), .ref (ad G (9, i0, 5, 0))] [] cl_X9_65 (M_X10_copyRow (lv := lv - 1) hG (by omega) h9) (by omega) dX9_copyFrom_52 rfl rfl (Nat.le_of_ble_eq_true rfl) ?_
  refine j_st (st' := []) rfl ?_
  refine j_aload_n C 1 dX9_copyFrom_55 rfl rfl ?_
  refine j_getS C (9, a1, 6, 0) fl_X9_39 dX9_copyFrom_56 hv1 ⟨rfl, rfl⟩ rfl rfl ?_
  refine j_aload_n C 0 dX9_copyFrom_59 rfl rfl ?_
  refine j_getS C (9, i0, 6, 0) fl_X9_39 dX9_copyFrom_60 hv0 ⟨rfl, rfl⟩ rfl rfl ?_
  obtain ⟨D12, h11, h⟩ := vbd_x h
  refine j_callS C [.ref (ad G (9, a1, 6, 0)), .ref (ad G (9, i0, 6, 0))] [] cl_X9_65 (M_X10_copyRow (lv := lv - 1) hG (by omega) h11) (by omega) dX9_copyFrom_63 rfl rfl (Nat.le_of_ble_eq_true rfl) ?_
  refine j_st (st' := []) rfl ?_
  refine j_aload_n C 0 dX9_copyFrom_66 rfl rfl ?_
  refine j_aload_n C 1 dX9_copyFrom_67 rfl rfl ?_
  refine j_getI C fl_X9_56 dX9_copyFrom_68 hv1 ⟨rfl, rfl⟩ rfl ?_
  obtain ⟨D13, eD13, h⟩ := bnd_x h
  refine j_putI C fl_X9_56 dX9_copyFrom_71 hv0 ⟨rfl, rfl⟩ rfl rfl rfl ?_
  refine j_rep eD13 ?_
  refine j_aload_n C 0 dX9_copyFrom_74 rfl rfl ?_
  refine j_aload_n C 1 dX9_copyFrom_75 rfl rfl ?_
  refine j_getI C fl_X9_42 dX9_copyFrom_76 hv1 ⟨rfl, rfl⟩ rfl ?_
  obtain ⟨D14, eD14, h⟩ := bnd_x h
  refine j_putI C fl_X9_42 dX9_copyFrom_79 hv0 ⟨rfl, rfl⟩ rfl rfl rfl ?_
  refine j_rep eD14 ?_
  refine j_aload_n C 0 dX9_copyFrom_82 rfl rfl ?_
  refine j_aload_n C 1 dX9_copyFrom_83 rfl rfl ?_
  refine j_getI C fl_X9_69 dX9_copyFrom_84 hv1 ⟨rfl, rfl⟩ rfl ?_
  obtain ⟨D15, eD15, h⟩ := bnd_x h
  refine j_putI C fl_X9_69 dX9_copyFrom_87 hv0 ⟨rfl, rfl⟩ rfl rfl rfl ?_
  refine j_rep eD15 ?_
  obtain rfl := Option.some.inj h
  exact j_vret C dX9_copyFrom_90
def F_X9_addNote (i0 : Nat) (a1 : Int32) (a2 : Int32) (a3 : Int32) (D : Dt) : Option (Int32 × Dt) := (grd (V (9, i0, 0, 0) = true) (if (D.1 (9, i0, 0, 0) 6) < (10 : Int32) then (grd (inB (D.1 (9, i0, 0, 0) 6) 10 = true) (bnd (setI D (9, i0, 4, 0) ((D.1 (9, i0, 0, 0) 6).toNatClampNeg) a1) (fun D3 => (grd (inB (D3.1 (9, i0, 0, 0) 6) 10 = true) (bnd (setI D3 (9, i0, 5, 0) ((D3.1 (9, i0, 0, 0) 6).toNatClampNeg) a2) (fun D5 => (grd (inB (D5.1 (9, i0, 0, 0) 6) 10 = true) (bnd (setI D5 (9, i0, 6, 0) ((D5.1 (9, i0, 0, 0) 6).toNatClampNeg) a3) (fun D7 => (bnd (setI D7 (9, i0, 0, 0) 6 ((D7.1 (9, i0, 0, 0) 6) + (1 : Int32))) (fun D8 => (some ((1 : Int32), D8))))))))))))) else (some ((0 : Int32), D))))
set_option maxRecDepth 100000 in
set_option maxHeartbeats 4000000 in
theorem M_X9_addNote {l : Launch} {G : Gt} {A : Nat → Prop} {lv : Nat} {i0 : Nat} {a1 : Int32} {a2 : Int32} {a3 : Int32} {D : Dt} {r : Int32} {D' : Dt} (hG : Gok G A) (hlv : 1 ≤ lv)  (h : F_X9_addNote i0 a1 a2 a3 D = some (r, D')) : MD l G A lv yX9_addNote cX9_addNote 4 (some .boolean) [.ref (ad G (9, i0, 0, 0)), .int a1, .int a2, .int a3] D (some (.int r)) D' := by
  unfold F_X9_addNote at h
  obtain ⟨hv0, h⟩ := grd_x h
  refine md_start RX9 hG (by decide +kernel) rfl (Nat.le_of_ble_eq_true rfl) (L := [(0, .ref (ad G (9, i0, 0, 0))), (1, .int a1), (2, .int a2), (3, .int a3)]) rfl (fun X C => ?_)
  refine j_aload_n C 0 dX9_addNote_0 rfl rfl ?_
  refine j_getI C fl_X9_56 dX9_addNote_1 hv0 ⟨rfl, rfl⟩ rfl ?_
  refine j_bipush C (10 : Int32) (by decide) dX9_addNote_4 ?_
  refine j_icmp_lt C 11 dX9_addNote_6 (by decide) (fun c1 => ?_) (fun c1 => ?_)
  · have h := ite_t c1 h
    refine j_aload_n C 0 dX9_addNote_11 rfl rfl ?_
    refine j_getS C (9, i0, 4, 0) fl_X9_32 dX9_addNote_12 hv0 ⟨rfl, rfl⟩ rfl rfl ?_
    refine j_aload_n C 0 dX9_addNote_15 rfl rfl ?_
    refine j_getI C fl_X9_56 dX9_addNote_16 hv0 ⟨rfl, rfl⟩ rfl ?_
    refine j_iload_n C 1 dX9_addNote_19 rfl rfl ?_
    obtain ⟨g2, h⟩ := grd_x h
    obtain ⟨D3, eD3, h⟩ := bnd_x h
    refine j_iastK C 10 ((D.1 (9, i0, 0, 0) 6).toNatClampNeg) dX9_addNote_20 (V_f 3 hv0 (by decide)) rfl g2 rfl ?_
    refine j_rep eD3 ?_
    refine j_aload_n C 0 dX9_addNote_21 rfl rfl ?_
    refine j_getS C (9, i0, 5, 0) fl_X9_36 dX9_addNote_22 hv0 ⟨rfl, rfl⟩ rfl rfl ?_
    refine j_aload_n C 0 dX9_addNote_25 rfl rfl ?_
    refine j_getI C fl_X9_56 dX9_addNote_26 hv0 ⟨rfl, rfl⟩ rfl ?_
    refine j_iload_n C 2 dX9_addNote_29 rfl rfl ?_
    obtain ⟨g4, h⟩ := grd_x h
    obtain ⟨D5, eD5, h⟩ := bnd_x h
    refine j_iastK C 10 ((D3.1 (9, i0, 0, 0) 6).toNatClampNeg) dX9_addNote_30 (V_f 4 hv0 (by decide)) rfl g4 rfl ?_
    refine j_rep eD5 ?_
    refine j_aload_n C 0 dX9_addNote_31 rfl rfl ?_
    refine j_getS C (9, i0, 6, 0) fl_X9_39 dX9_addNote_32 hv0 ⟨rfl, rfl⟩ rfl rfl ?_
    refine j_aload_n C 0 dX9_addNote_35 rfl rfl ?_
    refine j_getI C fl_X9_56 dX9_addNote_36 hv0 ⟨rfl, rfl⟩ rfl ?_
    refine j_iload_n C 3 dX9_addNote_39 rfl rfl ?_
    obtain ⟨g6, h⟩ := grd_x h
    obtain ⟨D7, eD7, h⟩ := bnd_x h
    refine j_iastK C 10 ((D5.1 (9, i0, 0, 0) 6).toNatClampNeg) dX9_addNote_40 (V_f 5 hv0 (by decide)) rfl g6 rfl ?_
    refine j_rep eD7 ?_
    refine j_aload_n C 0 dX9_addNote_41 rfl rfl ?_
    refine j_dup C rfl dX9_addNote_42 ?_
    refine j_getI C fl_X9_56 dX9_addNote_43 hv0 ⟨rfl, rfl⟩ rfl ?_
    refine j_iconst C (1 : Int32) (by decide) dX9_addNote_46 ?_
    refine j_iadd C dX9_addNote_47 ?_
    obtain ⟨D8, eD8, h⟩ := bnd_x h
    refine j_putI C fl_X9_56 dX9_addNote_48 hv0 ⟨rfl, rfl⟩ rfl rfl rfl ?_
    refine j_rep eD8 ?_
    refine j_iconst C (1 : Int32) (by decide) dX9_addNote_51 ?_
    obtain ⟨rfl, rfl⟩ := pr_x h
    exact j_zret C (Or.inr rfl) dX9_addNote_52
  · have h := ite_f c1 h
    refine j_iconst C (0 : Int32) (by decide) dX9_addNote_9 ?_
    obtain ⟨rfl, rfl⟩ := pr_x h
    exact j_zret C (Or.inl rfl) dX9_addNote_10
def F_X10_feed (a1 : Int32) (a2 : Int32) (a3 : Int32) (a4 : Int32) (a5 : Int32) (D : Dt) : Option (Int32 × Dt) := (if ((D.1 (2, 0, 0, 0) 1) + (20 : Int32)) ≤ (400 : Int32) then (vbd (F_X2_putNumber a1 D) (fun D3 => (vbd (F_X2_putNumber a2 D3) (fun D5 => (vbd (F_X2_putNumber a3 D5) (fun D7 => (vbd (F_X2_putNumber a4 D7) (fun D9 => (vbd (F_X2_putNumber a5 D9) (fun D11 => (some ((D11.1 (2, 0, 0, 0) 1), D11)))))))))))) else (some ((-1 : Int32), D)))
set_option maxRecDepth 100000 in
set_option maxHeartbeats 4000000 in
theorem M_X10_feed {l : Launch} {G : Gt} {A : Nat → Prop} {lv : Nat} {a1 : Int32} {a2 : Int32} {a3 : Int32} {a4 : Int32} {a5 : Int32} {D : Dt} {r : Int32} {D' : Dt} (hG : Gok G A) (hlv : 2 ≤ lv)  (h : F_X10_feed a1 a2 a3 a4 a5 D = some (r, D')) : MD l G A lv yX10_feed cX10_feed 6 (some .int) [.ref (ad G (10, 0, 0, 0)), .int a1, .int a2, .int a3, .int a4, .int a5] D (some (.int r)) D' := by
  unfold F_X10_feed at h
  refine md_start RX10 hG (by decide +kernel) rfl (Nat.le_of_ble_eq_true rfl) (L := [(0, .ref (ad G (10, 0, 0, 0))), (1, .int a1), (2, .int a2), (3, .int a3), (4, .int a4), (5, .int a5)]) rfl (fun X C => ?_)
  refine j_aload_n C 0 dX10_feed_0 rfl rfl ?_
  refine j_getS C (2, 0, 0, 0) fl_X10_12 dX10_feed_1 (by decide) ⟨rfl, rfl⟩ rfl rfl ?_
  refine j_getI C fl_X10_77 dX10_feed_4 (by decide) ⟨rfl, rfl⟩ rfl ?_
  refine j_bipush C (20 : Int32) (by decide) dX10_feed_7 ?_
  refine j_iadd C dX10_feed_9 ?_
  refine j_sipush C (400 : Int32) (by decide) dX10_feed_10 ?_
  refine j_icmp_le C 18 dX10_feed_13 (by decide) (fun c1 => ?_) (fun c1 => ?_)
  · have h := ite_t c1 h
    refine j_aload_n C 0 dX10_feed_18 rfl rfl ?_
    refine j_getS C (2, 0, 0, 0) fl_X10_12 dX10_feed_19 (by decide) ⟨rfl, rfl⟩ rfl rfl ?_
    refine j_iload_n C 1 dX10_feed_22 rfl rfl ?_
    obtain ⟨D3, h2, h⟩ := vbd_x h
    refine j_callV C [.int a1] [] cl_X10_81 (M_X2_putNumber (lv := lv - 1) hG (by omega) h2) (by omega) dX10_feed_23 (by decide) ⟨rfl, rfl⟩ rfl rfl (Nat.le_of_ble_eq_true rfl) ?_
    refine j_st (st' := []) rfl ?_
    refine j_aload_n C 0 dX10_feed_26 rfl rfl ?_
    refine j_getS C (2, 0, 0, 0) fl_X10_12 dX10_feed_27 (by decide) ⟨rfl, rfl⟩ rfl rfl ?_
    refine j_iload_n C 2 dX10_feed_30 rfl rfl ?_
    obtain ⟨D5, h4, h⟩ := vbd_x h
    refine j_callV C [.int a2] [] cl_X10_81 (M_X2_putNumber (lv := lv - 1) hG (by omega) h4) (by omega) dX10_feed_31 (by decide) ⟨rfl, rfl⟩ rfl rfl (Nat.le_of_ble_eq_true rfl) ?_
    refine j_st (st' := []) rfl ?_
    refine j_aload_n C 0 dX10_feed_34 rfl rfl ?_
    refine j_getS C (2, 0, 0, 0) fl_X10_12 dX10_feed_35 (by decide) ⟨rfl, rfl⟩ rfl rfl ?_
    refine j_iload_n C 3 dX10_feed_38 rfl rfl ?_
    obtain ⟨D7, h6, h⟩ := vbd_x h
    refine j_callV C [.int a3] [] cl_X10_81 (M_X2_putNumber (lv := lv - 1) hG (by omega) h6) (by omega) dX10_feed_39 (by decide) ⟨rfl, rfl⟩ rfl rfl (Nat.le_of_ble_eq_true rfl) ?_
    refine j_st (st' := []) rfl ?_
    refine j_aload_n C 0 dX10_feed_42 rfl rfl ?_
    refine j_getS C (2, 0, 0, 0) fl_X10_12 dX10_feed_43 (by decide) ⟨rfl, rfl⟩ rfl rfl ?_
    refine j_iload C 4 dX10_feed_46 rfl ?_
    obtain ⟨D9, h8, h⟩ := vbd_x h
    refine j_callV C [.int a4] [] cl_X10_81 (M_X2_putNumber (lv := lv - 1) hG (by omega) h8) (by omega) dX10_feed_48 (by decide) ⟨rfl, rfl⟩ rfl rfl (Nat.le_of_ble_eq_true rfl) ?_
    refine j_st (st' := []) rfl ?_
    refine j_aload_n C 0 dX10_feed_51 rfl rfl ?_
    refine j_getS C (2, 0, 0, 0) fl_X10_12 dX10_feed_52 (by decide) ⟨rfl, rfl⟩ rfl rfl ?_
    refine j_iload C 5 dX10_feed_55 rfl ?_
    obtain ⟨D11, h10, h⟩ := vbd_x h
    refine j_callV C [.int a5] [] cl_X10_81 (M_X2_putNumber (lv := lv - 1) hG (by omega) h10) (by omega) dX10_feed_57 (by decide) ⟨rfl, rfl⟩ rfl rfl (Nat.le_of_ble_eq_true rfl) ?_
    refine j_st (st' := []) rfl ?_
    refine j_aload_n C 0 dX10_feed_60 rfl rfl ?_
    refine j_getS C (2, 0, 0, 0) fl_X10_12 dX10_feed_61 (by decide) ⟨rfl, rfl⟩ rfl rfl ?_
    refine j_getI C fl_X10_77 dX10_feed_64 (by decide) ⟨rfl, rfl⟩ rfl ?_
    obtain ⟨rfl, rfl⟩ := pr_x h
    exact j_iret C dX10_feed_67
  · have h := ite_f c1 h
    refine j_iconst C (-1 : Int32) (by decide) dX10_feed_16 ?_
    obtain ⟨rfl, rfl⟩ := pr_x h
    exact j_iret C dX10_feed_17
def F_X10_end (a1 : Int32) (D : Dt) : Option (Int32 × Dt) := (cbd (F_X10_within a1 (0 : Int32) (D.1 (2, 0, 0, 0) 1) D) (fun r2 D3 => (if r2 = 0 then (some ((-1 : Int32), D3)) else (bnd (setI D3 (2, 0, 0, 0) 1 a1) (fun D5 => (some (a1, D5)))))))
set_option maxRecDepth 100000 in
set_option maxHeartbeats 4000000 in
theorem M_X10_end {l : Launch} {G : Gt} {A : Nat → Prop} {lv : Nat} {a1 : Int32} {D : Dt} {r : Int32} {D' : Dt} (hG : Gok G A) (hlv : 2 ≤ lv)  (h : F_X10_end a1 D = some (r, D')) : MD l G A lv yX10_end cX10_end 2 (some .int) [.ref (ad G (10, 0, 0, 0)), .int a1] D (some (.int r)) D' := by
  unfold F_X10_end at h
  refine md_start RX10 hG (by decide +kernel) rfl (Nat.le_of_ble_eq_true rfl) (L := [(0, .ref (ad G (10, 0, 0, 0))), (1, .int a1)]) rfl (fun X C => ?_)
  refine j_iload_n C 1 dX10_end_0 rfl rfl ?_
  refine j_iconst C (0 : Int32) (by decide) dX10_end_1 ?_
  refine j_aload_n C 0 dX10_end_2 rfl rfl ?_
  refine j_getS C (2, 0, 0, 0) fl_X10_12 dX10_end_3 (by decide) ⟨rfl, rfl⟩ rfl rfl ?_
  refine j_getI C fl_X10_77 dX10_end_6 (by decide) ⟨rfl, rfl⟩ rfl ?_
  obtain ⟨r2, D3, h1, h⟩ := cbd_x h
  refine j_callS C [.int a1, .int (0 : Int32), .int (D.1 (2, 0, 0, 0) 1)] [] cl_X10_85 (M_X10_within (lv := lv - 1) hG (by omega) h1) (by omega) dX10_end_9 rfl rfl (Nat.le_of_ble_eq_true rfl) ?_
  refine j_st (st' := [.int r2]) rfl ?_
  refine j_if_ne C 17 dX10_end_12 (by decide) (fun c4 => ?_) (fun c4 => ?_)
  · have h := ite_f c4 h
    refine j_aload_n C 0 dX10_end_17 rfl rfl ?_
    refine j_getS C (2, 0, 0, 0) fl_X10_12 dX10_end_18 (by decide) ⟨rfl, rfl⟩ rfl rfl ?_
    refine j_iload_n C 1 dX10_end_21 rfl rfl ?_
    obtain ⟨D5, eD5, h⟩ := bnd_x h
    refine j_putI C fl_X10_77 dX10_end_22 (by decide) ⟨rfl, rfl⟩ rfl rfl rfl ?_
    refine j_rep eD5 ?_
    refine j_iload_n C 1 dX10_end_25 rfl rfl ?_
    obtain ⟨rfl, rfl⟩ := pr_x h
    exact j_iret C dX10_end_26
  · have h := ite_t c4 h
    refine j_iconst C (-1 : Int32) (by decide) dX10_end_15 ?_
    obtain ⟨rfl, rfl⟩ := pr_x h
    exact j_iret C dX10_end_16
def F_X10_table  (D : Dt) : Option (Int32 × Dt) := (vbd (F_X2_split  D) (fun D2 => (bnd (setI D2 (2, 0, 0, 0) 1 (0 : Int32)) (fun D3 => (cbd (F_X7_read 5 D3) (fun r5 D6 => (if r5 = 0 then (vbd (F_X5_findSoon 5 D6) (fun D9 => (vbd (F_X9_begin 0 5 D9) (fun D11 => (some ((D11.1 (5, 0, 0, 0) 3), D11)))))) else (some (((-2 : Int32) - r5), D6)))))))))
set_option maxRecDepth 100000 in
set_option maxHeartbeats 4000000 in
theorem M_X10_table {l : Launch} {G : Gt} {A : Nat → Prop} {lv : Nat}  {D : Dt} {r : Int32} {D' : Dt} (hG : Gok G A) (hlv : 11 ≤ lv)  (h : F_X10_table  D = some (r, D')) : MD l G A lv yX10_table cX10_table 2 (some .int) [.ref (ad G (10, 0, 0, 0))] D (some (.int r)) D' := by
  unfold F_X10_table at h
  refine md_start RX10 hG (by decide +kernel) rfl (Nat.le_of_ble_eq_true rfl) (L := [(0, .ref (ad G (10, 0, 0, 0)))]) rfl (fun X C => ?_)
  refine j_aload_n C 0 dX10_table_0 rfl rfl ?_
  refine j_getS C (2, 0, 0, 0) fl_X10_12 dX10_table_1 (by decide) ⟨rfl, rfl⟩ rfl rfl ?_
  obtain ⟨D2, h1, h⟩ := vbd_x h
  refine j_callV C [] [] cl_X10_89 (M_X2_split (lv := lv - 1) hG (by omega) h1) (by omega) dX10_table_4 (by decide) ⟨rfl, rfl⟩ rfl rfl (Nat.le_of_ble_eq_true rfl) ?_
  refine j_st (st' := []) rfl ?_
  refine j_aload_n C 0 dX10_table_7 rfl rfl ?_
  refine j_getS C (2, 0, 0, 0) fl_X10_12 dX10_table_8 (by decide) ⟨rfl, rfl⟩ rfl rfl ?_
  refine j_iconst C (0 : Int32) (by decide) dX10_table_11 ?_
  obtain ⟨D3, eD3, h⟩ := bnd_x h
  refine j_putI C fl_X10_77 dX10_table_12 (by decide) ⟨rfl, rfl⟩ rfl rfl rfl ?_
  refine j_rep eD3 ?_
  refine j_aload_n C 0 dX10_table_15 rfl rfl ?_
  refine j_getS C (7, 0, 0, 0) fl_X10_21 dX10_table_16 (by decide) ⟨rfl, rfl⟩ rfl rfl ?_
  refine j_aload_n C 0 dX10_table_19 rfl rfl ?_
  refine j_getS C (5, 5, 0, 0) fl_X10_35 dX10_table_20 (by decide) ⟨rfl, rfl⟩ rfl rfl ?_
  obtain ⟨r5, D6, h4, h⟩ := cbd_x h
  refine j_callV C [.ref (ad G (5, 5, 0, 0))] [] cl_X10_92 (M_X7_read (lv := lv - 1) hG (by omega) h4) (by omega) dX10_table_23 (by decide) ⟨rfl, rfl⟩ rfl rfl (Nat.le_of_ble_eq_true rfl) ?_
  refine j_st (st' := [.int r5]) rfl ?_
  refine j_istore_n C [(1, .int r5), (0, .ref (ad G (10, 0, 0, 0)))] dX10_table_26 rfl (Nat.le_of_ble_eq_true rfl) rfl rfl ?_
  refine j_iload_n C 0 dX10_table_27 rfl rfl ?_
  refine j_if_eq C 36 dX10_table_28 (by decide) (fun c7 => ?_) (fun c7 => ?_)
  · have h := ite_t c7 h
    refine j_aload_n C 1 dX10_table_36 rfl rfl ?_
    refine j_getS C (5, 5, 0, 0) fl_X10_35 dX10_table_37 (by decide) ⟨rfl, rfl⟩ rfl rfl ?_
    obtain ⟨D9, h8, h⟩ := vbd_x h
    refine j_callV C [] [] cl_X10_96 (M_X5_findSoon (lv := lv - 1) hG (by omega) h8) (by omega) dX10_table_40 (by decide) ⟨rfl, rfl⟩ rfl rfl (Nat.le_of_ble_eq_true rfl) ?_
    refine j_st (st' := []) rfl ?_
    refine j_aload_n C 1 dX10_table_43 rfl rfl ?_
    refine j_getS C (9, 0, 0, 0) fl_X10_49 dX10_table_44 (by decide) ⟨rfl, rfl⟩ rfl rfl ?_
    refine j_aload_n C 1 dX10_table_47 rfl rfl ?_
    refine j_getS C (5, 5, 0, 0) fl_X10_35 dX10_table_48 (by decide) ⟨rfl, rfl⟩ rfl rfl ?_
    obtain ⟨D11, h10, h⟩ := vbd_x h
    refine j_callV C [.ref (ad G (5, 5, 0, 0))] [] cl_X10_99 (M_X9_begin (lv := lv - 1) hG (by omega) h10) (by omega) dX10_table_51 (by decide) ⟨rfl, rfl⟩ rfl rfl (Nat.le_of_ble_eq_true rfl) ?_
    refine j_st (st' := []) rfl ?_
    refine j_aload_n C 1 dX10_table_54 rfl rfl ?_
    refine j_getS C (9, 0, 0, 0) fl_X10_49 dX10_table_55 (by decide) ⟨rfl, rfl⟩ rfl rfl ?_
    refine j_getS C (5, 0, 0, 0) fl_X10_103 dX10_table_58 (by decide) ⟨rfl, rfl⟩ rfl rfl ?_
    refine j_getI C fl_X10_106 dX10_table_61 (V_95 (by decide)) ⟨rfl, rfl⟩ rfl ?_
    obtain ⟨rfl, rfl⟩ := pr_x h
    exact j_iret C dX10_table_64
  · have h := ite_f c7 h
    refine j_bipush C (-2 : Int32) (by decide) dX10_table_31 ?_
    refine j_iload_n C 0 dX10_table_33 rfl rfl ?_
    refine j_isub C dX10_table_34 ?_
    obtain ⟨rfl, rfl⟩ := pr_x h
    exact j_iret C dX10_table_35
def F_X10_rule  (D : Dt) : Option (Int32 × Dt) := (if (D.1 (10, 0, 0, 0) 5) < (6 : Int32) then (vbd (F_X2_split  D) (fun D3 => (bnd (setI D3 (2, 0, 0, 0) 1 (0 : Int32)) (fun D4 => (grd (inB (D4.1 (10, 0, 0, 0) 5) 6 = true) (cbd (F_X4_read (D4.1 (10, 0, 0, 0) 5).toNatClampNeg D4) (fun r7 D8 => (if r7 = 0 then (bnd (setI D8 (10, 0, 0, 0) 5 ((D8.1 (10, 0, 0, 0) 5) + (1 : Int32))) (fun D10 => (some (((D10.1 (10, 0, 0, 0) 5) - (1 : Int32)), D10)))) else (some (((-2 : Int32) - r7), D8)))))))))) else (some ((-1 : Int32), D)))
set_option maxRecDepth 100000 in
set_option maxHeartbeats 4000000 in
theorem M_X10_rule {l : Launch} {G : Gt} {A : Nat → Prop} {lv : Nat}  {D : Dt} {r : Int32} {D' : Dt} (hG : Gok G A) (hlv : 47 ≤ lv)  (h : F_X10_rule  D = some (r, D')) : MD l G A lv yX10_rule cX10_rule 2 (some .int) [.ref (ad G (10, 0, 0, 0))] D (some (.int r)) D' := by
  unfold F_X10_rule at h
  refine md_start RX10 hG (by decide +kernel) rfl (Nat.le_of_ble_eq_true rfl) (L := [(0, .ref (ad G (10, 0, 0, 0)))]) rfl (fun X C => ?_)
  refine j_aload_n C 0 dX10_rule_0 rfl rfl ?_
  refine j_getI C fl_X10_109 dX10_rule_1 (by decide) ⟨rfl, rfl⟩ rfl ?_
  refine j_bipush C (6 : Int32) (by decide) dX10_rule_4 ?_
  refine j_icmp_lt C 11 dX10_rule_6 (by decide) (fun c1 => ?_) (fun c1 => ?_)
  · have h := ite_t c1 h
    refine j_aload_n C 0 dX10_rule_11 rfl rfl ?_
    refine j_getS C (2, 0, 0, 0) fl_X10_12 dX10_rule_12 (by decide) ⟨rfl, rfl⟩ rfl rfl ?_
    obtain ⟨D3, h2, h⟩ := vbd_x h
    refine j_callV C [] [] cl_X10_89 (M_X2_split (lv := lv - 1) hG (by omega) h2) (by omega) dX10_rule_15 (by decide) ⟨rfl, rfl⟩ rfl rfl (Nat.le_of_ble_eq_true rfl) ?_
    refine j_st (st' := []) rfl ?_
    refine j_aload_n C 0 dX10_rule_18 rfl rfl ?_
    refine j_getS C (2, 0, 0, 0) fl_X10_12 dX10_rule_19 (by decide) ⟨rfl, rfl⟩ rfl rfl ?_
    refine j_iconst C (0 : Int32) (by decide) dX10_rule_22 ?_
    obtain ⟨D4, eD4, h⟩ := bnd_x h
    refine j_putI C fl_X10_77 dX10_rule_23 (by decide) ⟨rfl, rfl⟩ rfl rfl rfl ?_
    refine j_rep eD4 ?_
    refine j_aload_n C 0 dX10_rule_26 rfl rfl ?_
    refine j_getS C (4, 0, 0, 0) fl_X10_28 dX10_rule_27 (by decide) ⟨rfl, rfl⟩ rfl rfl ?_
    refine j_aload_n C 0 dX10_rule_30 rfl rfl ?_
    refine j_getS C (10, 0, 5, 0) fl_X10_41 dX10_rule_31 (by decide) ⟨rfl, rfl⟩ rfl rfl ?_
    refine j_aload_n C 0 dX10_rule_34 rfl rfl ?_
    refine j_getI C fl_X10_109 dX10_rule_35 (by decide) ⟨rfl, rfl⟩ rfl ?_
    obtain ⟨g5, h⟩ := grd_x h
    refine j_aald C 5 6 (3, (D4.1 (10, 0, 0, 0) 5).toNatClampNeg, 0, 0) dX10_rule_38 (V_f 4 (by decide) (by decide)) rfl (by decide) g5 rfl ?_
    obtain ⟨r7, D8, h6, h⟩ := cbd_x h
    refine j_callV C [.ref (ad G (3, (D4.1 (10, 0, 0, 0) 5).toNatClampNeg, 0, 0))] [] cl_X10_112 (M_X4_read (lv := lv - 1) hG (by omega) h6) (by omega) dX10_rule_39 (by decide) ⟨rfl, rfl⟩ rfl rfl (Nat.le_of_ble_eq_true rfl) ?_
    refine j_st (st' := [.int r7]) rfl ?_
    refine j_istore_n C [(1, .int r7), (0, .ref (ad G (10, 0, 0, 0)))] dX10_rule_42 rfl (Nat.le_of_ble_eq_true rfl) rfl rfl ?_
    refine j_iload_n C 0 dX10_rule_43 rfl rfl ?_
    refine j_if_eq C 52 dX10_rule_44 (by decide) (fun c9 => ?_) (fun c9 => ?_)
    · have h := ite_t c9 h
      refine j_aload_n C 1 dX10_rule_52 rfl rfl ?_
      refine j_dup C rfl dX10_rule_53 ?_
      refine j_getI C fl_X10_109 dX10_rule_54 (by decide) ⟨rfl, rfl⟩ rfl ?_
      refine j_iconst C (1 : Int32) (by decide) dX10_rule_57 ?_
      refine j_iadd C dX10_rule_58 ?_
      obtain ⟨D10, eD10, h⟩ := bnd_x h
      refine j_putI C fl_X10_109 dX10_rule_59 (by decide) ⟨rfl, rfl⟩ rfl rfl rfl ?_
      refine j_rep eD10 ?_
      refine j_aload_n C 1 dX10_rule_62 rfl rfl ?_
      refine j_getI C fl_X10_109 dX10_rule_63 (by decide) ⟨rfl, rfl⟩ rfl ?_
      refine j_iconst C (1 : Int32) (by decide) dX10_rule_66 ?_
      refine j_isub C dX10_rule_67 ?_
      obtain ⟨rfl, rfl⟩ := pr_x h
      exact j_iret C dX10_rule_68
    · have h := ite_f c9 h
      refine j_bipush C (-2 : Int32) (by decide) dX10_rule_47 ?_
      refine j_iload_n C 0 dX10_rule_49 rfl rfl ?_
      refine j_isub C dX10_rule_50 ?_
      obtain ⟨rfl, rfl⟩ := pr_x h
      exact j_iret C dX10_rule_51
  · have h := ite_f c1 h
    refine j_iconst C (-1 : Int32) (by decide) dX10_rule_9 ?_
    obtain ⟨rfl, rfl⟩ := pr_x h
    exact j_iret C dX10_rule_10
def F_X10_force (a1 : Int32) (D : Dt) : Option (Int32 × Dt) := (cbd (F_X10_within a1 (-1 : Int32) ((D.1 (10, 0, 0, 0) 5) - (1 : Int32)) D) (fun r2 D3 => (if r2 = 0 then (some ((-2 : Int32), D3)) else (bnd (D3.1 (9, 0, 0, 0) 7) (fun v5 => (bnd (setI D3 (9, 0, 0, 0) 7 a1) (fun D6 => (some (v5, D6)))))))))
set_option maxRecDepth 100000 in
set_option maxHeartbeats 4000000 in
theorem M_X10_force {l : Launch} {G : Gt} {A : Nat → Prop} {lv : Nat} {a1 : Int32} {D : Dt} {r : Int32} {D' : Dt} (hG : Gok G A) (hlv : 2 ≤ lv)  (h : F_X10_force a1 D = some (r, D')) : MD l G A lv yX10_force cX10_force 3 (some .int) [.ref (ad G (10, 0, 0, 0)), .int a1] D (some (.int r)) D' := by
  unfold F_X10_force at h
  refine md_start RX10 hG (by decide +kernel) rfl (Nat.le_of_ble_eq_true rfl) (L := [(0, .ref (ad G (10, 0, 0, 0))), (1, .int a1)]) rfl (fun X C => ?_)
  refine j_iload_n C 1 dX10_force_0 rfl rfl ?_
  refine j_iconst C (-1 : Int32) (by decide) dX10_force_1 ?_
  refine j_aload_n C 0 dX10_force_2 rfl rfl ?_
  refine j_getI C fl_X10_109 dX10_force_3 (by decide) ⟨rfl, rfl⟩ rfl ?_
  refine j_iconst C (1 : Int32) (by decide) dX10_force_6 ?_
  refine j_isub C dX10_force_7 ?_
  obtain ⟨r2, D3, h1, h⟩ := cbd_x h
  refine j_callS C [.int a1, .int (-1 : Int32), .int ((D.1 (10, 0, 0, 0) 5) - (1 : Int32))] [] cl_X10_85 (M_X10_within (lv := lv - 1) hG (by omega) h1) (by omega) dX10_force_8 rfl rfl (Nat.le_of_ble_eq_true rfl) ?_
  refine j_st (st' := [.int r2]) rfl ?_
  refine j_if_ne C 17 dX10_force_11 (by decide) (fun c4 => ?_) (fun c4 => ?_)
  · have h := ite_f c4 h
    refine j_aload_n C 0 dX10_force_17 rfl rfl ?_
    refine j_getS C (9, 0, 0, 0) fl_X10_49 dX10_force_18 (by decide) ⟨rfl, rfl⟩ rfl rfl ?_
    refine j_getI C fl_X10_115 dX10_force_21 (by decide) ⟨rfl, rfl⟩ rfl ?_
    obtain ⟨v5, ev5, h⟩ := bnd_x h
    refine j_istore_n C [(2, .int v5), (0, .ref (ad G (10, 0, 0, 0))), (1, .int a1)] dX10_force_24 rfl (Nat.le_of_ble_eq_true rfl) ev5 rfl ?_
    refine j_aload_n C 1 dX10_force_25 rfl rfl ?_
    refine j_getS C (9, 0, 0, 0) fl_X10_49 dX10_force_26 (by decide) ⟨rfl, rfl⟩ rfl rfl ?_
    refine j_iload_n C 2 dX10_force_29 rfl rfl ?_
    obtain ⟨D6, eD6, h⟩ := bnd_x h
    refine j_putI C fl_X10_115 dX10_force_30 (by decide) ⟨rfl, rfl⟩ rfl rfl rfl ?_
    refine j_rep eD6 ?_
    refine j_iload_n C 0 dX10_force_33 rfl rfl ?_
    obtain ⟨rfl, rfl⟩ := pr_x h
    exact j_iret C dX10_force_34
  · have h := ite_t c4 h
    refine j_bipush C (-2 : Int32) (by decide) dX10_force_14 ?_
    obtain ⟨rfl, rfl⟩ := pr_x h
    exact j_iret C dX10_force_16
def F_X10_isLand (a1 : Int32) (D : Dt) : Option (Int32 × Dt) := (cbd (F_X10_within a1 (0 : Int32) ((D.1 (5, 0, 0, 0) 3) - (1 : Int32)) D) (fun r2 D3 => (grd (r2 = 0 ∨ r2 = 1) (some (r2, D3)))))
set_option maxRecDepth 100000 in
set_option maxHeartbeats 4000000 in
theorem M_X10_isLand {l : Launch} {G : Gt} {A : Nat → Prop} {lv : Nat} {a1 : Int32} {D : Dt} {r : Int32} {D' : Dt} (hG : Gok G A) (hlv : 2 ≤ lv)  (h : F_X10_isLand a1 D = some (r, D')) : MD l G A lv yX10_isLand cX10_isLand 2 (some .boolean) [.ref (ad G (10, 0, 0, 0)), .int a1] D (some (.int r)) D' := by
  unfold F_X10_isLand at h
  refine md_start RX10 hG (by decide +kernel) rfl (Nat.le_of_ble_eq_true rfl) (L := [(0, .ref (ad G (10, 0, 0, 0))), (1, .int a1)]) rfl (fun X C => ?_)
  refine j_iload_n C 1 dX10_isLand_0 rfl rfl ?_
  refine j_iconst C (0 : Int32) (by decide) dX10_isLand_1 ?_
  refine j_aload_n C 0 dX10_isLand_2 rfl rfl ?_
  refine j_getS C (9, 0, 0, 0) fl_X10_49 dX10_isLand_3 (by decide) ⟨rfl, rfl⟩ rfl rfl ?_
  refine j_getS C (5, 0, 0, 0) fl_X10_103 dX10_isLand_6 (by decide) ⟨rfl, rfl⟩ rfl rfl ?_
  refine j_getI C fl_X10_106 dX10_isLand_9 (V_95 (by decide)) ⟨rfl, rfl⟩ rfl ?_
  refine j_iconst C (1 : Int32) (by decide) dX10_isLand_12 ?_
  refine j_isub C dX10_isLand_13 ?_
  obtain ⟨r2, D3, h1, h⟩ := cbd_x h
  refine j_callS C [.int a1, .int (0 : Int32), .int ((D.1 (5, 0, 0, 0) 3) - (1 : Int32))] [] cl_X10_85 (M_X10_within (lv := lv - 1) hG (by omega) h1) (by omega) dX10_isLand_14 rfl rfl (Nat.le_of_ble_eq_true rfl) ?_
  refine j_st (st' := [.int r2]) rfl ?_
  obtain ⟨g4, h⟩ := grd_x h
  obtain ⟨rfl, rfl⟩ := pr_x h
  exact j_zret C g4 dX10_isLand_17
