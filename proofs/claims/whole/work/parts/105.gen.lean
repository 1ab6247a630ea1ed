def F_X11_blanks_b0   : Nat → Dt → Option Dt
  | 0, _ => none
  | f + 1, D => (cbd (F_X11_sign  D) (fun r2 D3 => (if r2 = (32 : Int32) then (bnd (setI D3 (11, 0, 0, 0) 20 ((D3.1 (11, 0, 0, 0) 20) + (1 : Int32))) (fun D5 => (F_X11_blanks_b0  f  D5))) else (some D3))))
set_option maxRecDepth 100000 in
set_option maxHeartbeats 4000000 in
theorem T_X11_blanks_b0 {D' : Dt} {X : Ctx} {l : Launch} {G : Gt} {A : Nat → Prop} {lv : Nat}    (hG : Gok G A) (hlv : 2 ≤ lv)   (C : Cx X cX11_blanks RX11 G l A lv 1 none none D')  : ∀ (f : Nat)  (D : Dt), F_X11_blanks_b0  f  D = some D' → J X (Rep G D) 0 [(0, .ref (ad G (11, 0, 0, 0)))] [] := by
  intro f
  induction f with
  | zero =>
    intro D h
    exact nomatch h
  | succ f ih =>
    intro D h
    rw [F_X11_blanks_b0] at h
    refine j_aload_n C 0 dX11_blanks_0 rfl rfl ?_
    obtain ⟨r2, D3, h1, h⟩ := cbd_x h
    refine j_callV C [] [] cl_X11_171 (M_X11_sign (lv := lv - 1) hG (by omega) h1) (by omega) dX11_blanks_1 (by decide) ⟨rfl, rfl⟩ rfl rfl (Nat.le_of_ble_eq_true rfl) ?_
    refine j_st (st' := [.int r2]) rfl ?_
    refine j_bipush C (32 : Int32) (by decide) dX11_blanks_4 ?_
    refine j_icmp_ne C 22 dX11_blanks_6 (by decide) (fun c4 => ?_) (fun c4 => ?_)
    · have h := ite_f c4 h
      obtain rfl := Option.some.inj h
      exact j_vret C dX11_blanks_22
    · have h := ite_t c4 h
      refine j_aload_n C 0 dX11_blanks_9 rfl rfl ?_
      refine j_dup C rfl dX11_blanks_10 ?_
      refine j_getI C fl_X11_168 dX11_blanks_11 (by decide) ⟨rfl, rfl⟩ rfl ?_
      refine j_iconst C (1 : Int32) (by decide) dX11_blanks_14 ?_
      refine j_iadd C dX11_blanks_15 ?_
      obtain ⟨D5, eD5, h⟩ := bnd_x h
      refine j_putI C fl_X11_168 dX11_blanks_16 (by decide) ⟨rfl, rfl⟩ rfl rfl rfl ?_
      refine j_rep eD5 ?_
      refine j_goto C 0 dX11_blanks_19 (by decide) ?_
      exact ih  D5 h
def F_X11_blanks  (D : Dt) : Option Dt := (F_X11_blanks_b0  2000  D)
set_option maxRecDepth 100000 in
set_option maxHeartbeats 4000000 in
theorem M_X11_blanks {l : Launch} {G : Gt} {A : Nat → Prop} {lv : Nat}  {D : Dt} {D' : Dt} (hG : Gok G A) (hlv : 2 ≤ lv)  (h : F_X11_blanks  D = some D') : MD l G A lv yX11_blanks cX11_blanks 1 none [.ref (ad G (11, 0, 0, 0))] D none D' := by
  unfold F_X11_blanks at h
  refine md_start RX11 hG (by decide +kernel) rfl (Nat.le_of_ble_eq_true rfl) (L := [(0, .ref (ad G (11, 0, 0, 0)))]) rfl (fun X C => ?_)
  refine T_X11_blanks_b0 hG hlv  C  2000  D h
def F_X11_isDigit  (D : Dt) : Option (Int32 × Dt) := (cbd (F_X11_sign  D) (fun r2 D3 => (cbd (F_X11_in r2.toInt64 (48 : Int64) (57 : Int64) D3) (fun r5 D6 => (grd (r5 = 0 ∨ r5 = 1) (some (r5, D6)))))))
set_option maxRecDepth 100000 in
set_option maxHeartbeats 4000000 in
theorem M_X11_isDigit {l : Launch} {G : Gt} {A : Nat → Prop} {lv : Nat}  {D : Dt} {r : Int32} {D' : Dt} (hG : Gok G A) (hlv : 2 ≤ lv)  (h : F_X11_isDigit  D = some (r, D')) : MD l G A lv yX11_isDigit cX11_isDigit 1 (some .boolean) [.ref (ad G (11, 0, 0, 0))] D (some (.int r)) D' := by
  unfold F_X11_isDigit at h
  refine md_start RX11 hG (by decide +kernel) rfl (Nat.le_of_ble_eq_true rfl) (L := [(0, .ref (ad G (11, 0, 0, 0)))]) rfl (fun X C => ?_)
  refine j_aload_n C 0 dX11_isDigit_0 rfl rfl ?_
  obtain ⟨r2, D3, h1, h⟩ := cbd_x h
  refine j_callV C [] [] cl_X11_171 (M_X11_sign (lv := lv - 1) hG (by omega) h1) (by omega) dX11_isDigit_1 (by decide) ⟨rfl, rfl⟩ rfl rfl (Nat.le_of_ble_eq_true rfl) ?_
  refine j_st (st' := [.int r2]) rfl ?_
  refine j_i2l C dX11_isDigit_4 ?_
  refine j_ldc2 C (48 : Int64) kc_X11_175 dX11_isDigit_5 ?_
  refine j_ldc2 C (57 : Int64) kc_X11_177 dX11_isDigit_8 ?_
  obtain ⟨r5, D6, h4, h⟩ := cbd_x h
  refine j_callS C [.long r2.toInt64, .long (48 : Int64), .long (57 : Int64)] [] cl_X11_134 (M_X11_in (lv := lv - 1) hG (by omega) h4) (by omega) dX11_isDigit_11 rfl rfl (Nat.le_of_ble_eq_true rfl) ?_
  refine j_st (st' := [.int r5]) rfl ?_
  obtain ⟨g7, h⟩ := grd_x h
  obtain ⟨rfl, rfl⟩ := pr_x h
  exact j_zret C g7 dX11_isDigit_14
def F_X11_stood_b5 (a1 : Nat) (k41 : Int32 → Dt → Option (Int32 × Dt)) : Nat → Int32 → Dt → Option (Int32 × Dt)
  | 0, _, _ => none
  | f + 1, l2, D => (if (D.1 (11, 0, 0, 0) 19) ≤ l2 then (k41 l2 D) else (grd (inB l2 400 = true) (if (D.1 (11, 0, 30, 0) (l2.toNatClampNeg)) < (97 : Int32) then (k41 l2 D) else (if (122 : Int32) < (D.1 (11, 0, 30, 0) (l2.toNatClampNeg)) then (k41 l2 D) else (bnd (l2 + (1 : Int32)) (fun v6 => (F_X11_stood_b5 a1 k41 f v6 D)))))))
set_option maxRecDepth 100000 in
set_option maxHeartbeats 4000000 in
theorem T_X11_stood_b5 {r : Int32} {D' : Dt} {X : Ctx} {l : Launch} {G : Gt} {A : Nat → Prop} {lv : Nat} {a1 : Nat}  {k41 : Int32 → Dt → Option (Int32 × Dt)} (hG : Gok G A) (hlv : 8 ≤ lv) (hv1 : a1 < 20)  (C : Cx X cX11_stood RX11 G l A lv 5 (some .boolean) (some (.int r)) D') (hk41 : ∀ (l2 : Int32) (D : Dt), k41 l2 D = some (r, D') → J X (Rep G D) 41 [(0, .ref (ad G (11, 0, 0, 0))), (1, .ref (sK G a1)), (2, .int l2)] []) : ∀ (f : Nat) (l2 : Int32) (D : Dt), F_X11_stood_b5 a1 k41 f l2 D = some (r, D') → J X (Rep G D) 5 [(0, .ref (ad G (11, 0, 0, 0))), (1, .ref (sK G a1)), (2, .int l2)] [] := by
  intro f
  induction f with
  | zero =>
    intro l2 D h
    exact nomatch h
  | succ f ih =>
    intro l2 D h
    rw [F_X11_stood_b5] at h
    refine j_iload_n C 2 dX11_stood_5 rfl rfl ?_
    refine j_aload_n C 0 dX11_stood_6 rfl rfl ?_
    refine j_getI C fl_X11_138 dX11_stood_7 (by decide) ⟨rfl, rfl⟩ rfl ?_
    refine j_icmp_ge C 41 dX11_stood_10 (by decide) (fun c2 => ?_) (fun c2 => ?_)
    · have h := ite_t c2 h
      exact hk41 l2 D h
    · have h := ite_f c2 h
      refine j_aload_n C 0 dX11_stood_13 rfl rfl ?_
      refine j_getS C (11, 0, 30, 0) fl_X11_68 dX11_stood_14 (by decide) ⟨rfl, rfl⟩ rfl rfl ?_
      refine j_iload_n C 2 dX11_stood_17 rfl rfl ?_
      obtain ⟨g3, h⟩ := grd_x h
      refine j_baldK C 400 (l2.toNatClampNeg) dX11_stood_18 (V_f 29 (by decide) (by decide)) rfl g3 rfl ?_
      refine j_bipush C (97 : Int32) (by decide) dX11_stood_19 ?_
      refine j_icmp_lt C 41 dX11_stood_21 (by decide) (fun c4 => ?_) (fun c4 => ?_)
      · have h := ite_t c4 h
        exact hk41 l2 D h
      · have h := ite_f c4 h
        refine j_aload_n C 0 dX11_stood_24 rfl rfl ?_
        refine j_getS C (11, 0, 30, 0) fl_X11_68 dX11_stood_25 (by decide) ⟨rfl, rfl⟩ rfl rfl ?_
        refine j_iload_n C 2 dX11_stood_28 rfl rfl ?_
        refine j_baldK C 400 (l2.toNatClampNeg) dX11_stood_29 (V_f 29 (by decide) (by decide)) rfl g3 rfl ?_
        refine j_bipush C (122 : Int32) (by decide) dX11_stood_30 ?_
        refine j_icmp_gt C 41 dX11_stood_32 (by decide) (fun c5 => ?_) (fun c5 => ?_)
        · have h := ite_t c5 h
          exact hk41 l2 D h
        · have h := ite_f c5 h
          obtain ⟨v6, ev6, h⟩ := bnd_x h
          refine j_iinc C 2 [(2, .int v6), (0, .ref (ad G (11, 0, 0, 0))), (1, .ref (sK G a1))] dX11_stood_35 rfl (Nat.le_of_ble_eq_true rfl) (ev6.trans (congrArg (l2 + ·) (by decide))) rfl ?_
          refine j_goto C 5 dX11_stood_38 (by decide) ?_
          refine j_sub [1, 2, 0] [(0, .ref (ad G (11, 0, 0, 0))), (1, .ref (sK G a1)), (2, .int v6)] rfl ?_
          exact ih v6 D h
def F_X11_stood_b102 (a1 : Nat) (k63 : Int32 → Int32 → Dt → Option (Int32 × Dt)) (l4 : Int32) (s0 : Int32) (D : Dt) : Option (Int32 × Dt) := (bnd (l4 + (1 : Int32)) (fun v17 => (k63 s0 v17 D)))
set_option maxRecDepth 100000 in
set_option maxHeartbeats 4000000 in
theorem T_X11_stood_b102 {r : Int32} {D' : Dt} {X : Ctx} {l : Launch} {G : Gt} {A : Nat → Prop} {lv : Nat} {a1 : Nat}  {k63 : Int32 → Int32 → Dt → Option (Int32 × Dt)} (hG : Gok G A) (hlv : 8 ≤ lv) (hv1 : a1 < 20)  (C : Cx X cX11_stood RX11 G l A lv 5 (some .boolean) (some (.int r)) D') (hk63 : ∀ (l3 : Int32) (l4 : Int32) (D : Dt), k63 l3 l4 D = some (r, D') → J X (Rep G D) 63 [(0, .ref (ad G (11, 0, 0, 0))), (1, .ref (sK G a1)), (3, .int l3), (4, .int l4)] []) : ∀ (l4 : Int32) (s0 : Int32) (D : Dt), F_X11_stood_b102 a1 k63 l4 s0 D = some (r, D') → J X (Rep G D) 102 [(0, .ref (ad G (11, 0, 0, 0))), (1, .ref (sK G a1)), (4, .int l4)] [.int s0] := by
  intro l4 s0 D h
  unfold F_X11_stood_b102 at h
  refine j_istore_n C [(3, .int s0), (0, .ref (ad G (11, 0, 0, 0))), (1, .ref (sK G a1)), (4, .int l4)] dX11_stood_102 rfl (Nat.le_of_ble_eq_true rfl) rfl rfl ?_
  obtain ⟨v17, ev17, h⟩ := bnd_x h
  refine j_iinc C 3 [(4, .int v17), (3, .int s0), (0, .ref (ad G (11, 0, 0, 0))), (1, .ref (sK G a1))] dX11_stood_103 rfl (Nat.le_of_ble_eq_true rfl) (ev17.trans (congrArg (l4 + ·) (by decide))) rfl ?_
  refine j_goto C 63 dX11_stood_106 (by decide) ?_
  refine j_sub [2, 3, 1, 0] [(0, .ref (ad G (11, 0, 0, 0))), (1, .ref (sK G a1)), (3, .int s0), (4, .int v17)] rfl ?_
  exact hk63 s0 v17 D h
def F_X11_stood_b63 (a1 : Nat)  : Nat → Int32 → Int32 → Dt → Option (Int32 × Dt)
  | 0, _, _, _ => none
  | f + 1, l3, l4, D => (if (sLen a1) ≤ l4 then (grd (l3 = 0 ∨ l3 = 1) (some (l3, D))) else (if l3 = 0 then (grd (l3 = 0 ∨ l3 = 1) (some (l3, D))) else (grd (inB ((D.1 (11, 0, 0, 0) 20) + l4) 400 = true) (grd (inB l4 (lenS.getD a1 0) = true) (if (D.1 (11, 0, 30, 0) (((D.1 (11, 0, 0, 0) 20) + l4).toNatClampNeg)) = (sChr a1 l4) then (F_X11_stood_b102 a1 (fun l3_21 l4_22 D23 => (F_X11_stood_b63 a1 f l3_21 l4_22 D23)) l4 (1 : Int32) D) else (F_X11_stood_b102 a1 (fun l3_18 l4_19 D20 => (F_X11_stood_b63 a1 f l3_18 l4_19 D20)) l4 (0 : Int32) D))))))
set_option maxRecDepth 100000 in
set_option maxHeartbeats 4000000 in
theorem T_X11_stood_b63 {r : Int32} {D' : Dt} {X : Ctx} {l : Launch} {G : Gt} {A : Nat → Prop} {lv : Nat} {a1 : Nat}   (hG : Gok G A) (hlv : 8 ≤ lv) (hv1 : a1 < 20)  (C : Cx X cX11_stood RX11 G l A lv 5 (some .boolean) (some (.int r)) D')  : ∀ (f : Nat) (l3 : Int32) (l4 : Int32) (D : Dt), F_X11_stood_b63 a1 f l3 l4 D = some (r, D') → J X (Rep G D) 63 [(0, .ref (ad G (11, 0, 0, 0))), (1, .ref (sK G a1)), (3, .int l3), (4, .int l4)] [] := by
  intro f
  induction f with
  | zero =>
    intro l3 l4 D h
    exact nomatch h
  | succ f ih =>
    intro l3 l4 D h
    rw [F_X11_stood_b63] at h
    refine j_iload C 3 dX11_stood_63 rfl ?_
    refine j_aload_n C 1 dX11_stood_65 rfl rfl ?_
    refine j_slen C hv1 cw_X11_179 (by omega) (Nat.le_of_ble_eq_true rfl) dX11_stood_66 ?_
    refine j_icmp_ge C 109 dX11_stood_69 (by decide) (fun c10 => ?_) (fun c10 => ?_)
    · have h := ite_t c10 h
      refine j_iload_n C 2 dX11_stood_109 rfl rfl ?_
      obtain ⟨g11, h⟩ := grd_x h
      obtain ⟨rfl, rfl⟩ := pr_x h
      exact j_zret C g11 dX11_stood_110
    · have h := ite_f c10 h
      refine j_iload_n C 2 dX11_stood_72 rfl rfl ?_
      refine j_if_eq C 109 dX11_stood_73 (by decide) (fun c12 => ?_) (fun c12 => ?_)
      · have h := ite_t c12 h
        refine j_iload_n C 2 dX11_stood_109 rfl rfl ?_
        obtain ⟨g13, h⟩ := grd_x h
        obtain ⟨rfl, rfl⟩ := pr_x h
        exact j_zret C g13 dX11_stood_110
      · have h := ite_f c12 h
        refine j_aload_n C 0 dX11_stood_76 rfl rfl ?_
        refine j_getS C (11, 0, 30, 0) fl_X11_68 dX11_stood_77 (by decide) ⟨rfl, rfl⟩ rfl rfl ?_
        refine j_aload_n C 0 dX11_stood_80 rfl rfl ?_
        refine j_getI C fl_X11_168 dX11_stood_81 (by decide) ⟨rfl, rfl⟩ rfl ?_
        refine j_iload C 3 dX11_stood_84 rfl ?_
        refine j_iadd C dX11_stood_86 ?_
        obtain ⟨g14, h⟩ := grd_x h
        refine j_baldK C 400 (((D.1 (11, 0, 0, 0) 20) + l4).toNatClampNeg) dX11_stood_87 (V_f 29 (by decide) (by decide)) rfl g14 rfl ?_
        refine j_aload_n C 1 dX11_stood_88 rfl rfl ?_
        refine j_iload C 3 dX11_stood_89 rfl ?_
        obtain ⟨g15, h⟩ := grd_x h
        refine j_scha C hv1 cw_X11_184 (by omega) (Nat.le_of_ble_eq_true rfl) g15 dX11_stood_91 ?_
        refine j_icmp_ne C 101 dX11_stood_94 (by decide) (fun c16 => ?_) (fun c16 => ?_)
        · have h := ite_f c16 h
          refine j_iconst C (0 : Int32) (by decide) dX11_stood_101 ?_
          refine j_sub [0, 1, 3] [(0, .ref (ad G (11, 0, 0, 0))), (1, .ref (sK G a1)), (4, .int l4)] rfl ?_
          refine T_X11_stood_b102 hG hlv hv1 C (fun l3_18 l4_19 D20 h => ?_) l4 (0 : Int32) D h
          · exact ih l3_18 l4_19 D20 h
        · have h := ite_t c16 h
          refine j_iconst C (1 : Int32) (by decide) dX11_stood_97 ?_
          refine j_goto C 102 dX11_stood_98 (by decide) ?_
          refine j_sub [0, 1, 3] [(0, .ref (ad G (11, 0, 0, 0))), (1, .ref (sK G a1)), (4, .int l4)] rfl ?_
          refine T_X11_stood_b102 hG hlv hv1 C (fun l3_21 l4_22 D23 h => ?_) l4 (1 : Int32) D h
          · exact ih l3_21 l4_22 D23 h
def F_X11_stood_b59 (a1 : Nat)  (s0 : Int32) (D : Dt) : Option (Int32 × Dt) := (F_X11_stood_b63 a1 2000 s0 (0 : Int32) D)
set_option maxRecDepth 100000 in
set_option maxHeartbeats 4000000 in
theorem T_X11_stood_b59 {r : Int32} {D' : Dt} {X : Ctx} {l : Launch} {G : Gt} {A : Nat → Prop} {lv : Nat} {a1 : Nat}   (hG : Gok G A) (hlv : 8 ≤ lv) (hv1 : a1 < 20)  (C : Cx X cX11_stood RX11 G l A lv 5 (some .boolean) (some (.int r)) D')  : ∀ (s0 : Int32) (D : Dt), F_X11_stood_b59 a1 s0 D = some (r, D') → J X (Rep G D) 59 [(0, .ref (ad G (11, 0, 0, 0))), (1, .ref (sK G a1))] [.int s0] := by
  intro s0 D h
  unfold F_X11_stood_b59 at h
  refine j_istore_n C [(3, .int s0), (0, .ref (ad G (11, 0, 0, 0))), (1, .ref (sK G a1))] dX11_stood_59 rfl (Nat.le_of_ble_eq_true rfl) rfl rfl ?_
  refine j_iconst C (0 : Int32) (by decide) dX11_stood_60 ?_
  refine j_istore C [(4, .int (0 : Int32)), (3, .int s0), (0, .ref (ad G (11, 0, 0, 0))), (1, .ref (sK G a1))] dX11_stood_61 (Nat.le_of_ble_eq_true rfl) rfl rfl ?_
  refine j_sub [2, 3, 1, 0] [(0, .ref (ad G (11, 0, 0, 0))), (1, .ref (sK G a1)), (3, .int s0), (4, .int (0 : Int32))] rfl ?_
  refine T_X11_stood_b63 hG hlv hv1 C  2000 s0 (0 : Int32) D h
def F_X11_stood (a1 : Nat) (D : Dt) : Option (Int32 × Dt) := (grd (a1 < 20) (bnd (D.1 (11, 0, 0, 0) 20) (fun v1 => (F_X11_stood_b5 a1 (fun l2_7 D8 => (if (l2_7 - (D8.1 (11, 0, 0, 0) 20)) = (sLen a1) then (F_X11_stood_b59 a1 (1 : Int32) D8) else (F_X11_stood_b59 a1 (0 : Int32) D8))) 2000 v1 D))))
set_option maxRecDepth 100000 in
set_option maxHeartbeats 4000000 in
theorem M_X11_stood {l : Launch} {G : Gt} {A : Nat → Prop} {lv : Nat} {a1 : Nat} {D : Dt} {r : Int32} {D' : Dt} (hG : Gok G A) (hlv : 8 ≤ lv)  (h : F_X11_stood a1 D = some (r, D')) : MD l G A lv yX11_stood cX11_stood 5 (some .boolean) [.ref (ad G (11, 0, 0, 0)), .ref (sK G a1)] D (some (.int r)) D' := by
  unfold F_X11_stood at h
  obtain ⟨hv1, h⟩ := grd_x h
  refine md_start RX11 hG (by decide +kernel) rfl (Nat.le_of_ble_eq_true rfl) (L := [(0, .ref (ad G (11, 0, 0, 0))), (1, .ref (sK G a1))]) rfl (fun X C => ?_)
  refine j_aload_n C 0 dX11_stood_0 rfl rfl ?_
  refine j_getI C fl_X11_168 dX11_stood_1 (by decide) ⟨rfl, rfl⟩ rfl ?_
  obtain ⟨v1, ev1, h⟩ := bnd_x h
  refine j_istore_n C [(2, .int v1), (0, .ref (ad G (11, 0, 0, 0))), (1, .ref (sK G a1))] dX11_stood_4 rfl (Nat.le_of_ble_eq_true rfl) ev1 rfl ?_
  refine j_sub [1, 2, 0] [(0, .ref (ad G (11, 0, 0, 0))), (1, .ref (sK G a1)), (2, .int v1)] rfl ?_
  refine T_X11_stood_b5 hG hlv hv1 C (fun l2_7 D8 h => ?_) 2000 v1 D h
  · refine j_iload_n C 2 dX11_stood_41 rfl rfl ?_
    refine j_aload_n C 0 dX11_stood_42 rfl rfl ?_
    refine j_getI C fl_X11_168 dX11_stood_43 (by decide) ⟨rfl, rfl⟩ rfl ?_
    refine j_isub C dX11_stood_46 ?_
    refine j_aload_n C 1 dX11_stood_47 rfl rfl ?_
    refine j_slen C hv1 cw_X11_179 (by omega) (Nat.le_of_ble_eq_true rfl) dX11_stood_48 ?_
    refine j_icmp_ne C 58 dX11_stood_51 (by decide) (fun c9 => ?_) (fun c9 => ?_)
    · have h := ite_f c9 h
      refine j_iconst C (0 : Int32) (by decide) dX11_stood_58 ?_
      refine j_sub [0, 1] [(0, .ref (ad G (11, 0, 0, 0))), (1, .ref (sK G a1))] rfl ?_
      refine T_X11_stood_b59 hG hlv hv1 C  (0 : Int32) D8 h
    · have h := ite_t c9 h
      refine j_iconst C (1 : Int32) (by decide) dX11_stood_54 ?_
      refine j_goto C 59 dX11_stood_55 (by decide) ?_
      refine j_sub [0, 1] [(0, .ref (ad G (11, 0, 0, 0))), (1, .ref (sK G a1))] rfl ?_
      refine T_X11_stood_b59 hG hlv hv1 C  (1 : Int32) D8 h
def F_X11_takes_b27 (a1 : Nat)  (l2 : Int32) (s1 : Int32) (s2 : Int32) (D : Dt) : Option (Int32 × Dt) := (bnd (setI D (11, 0, 0, 0) 20 (s1 + s2)) (fun D7 => (grd (l2 = 0 ∨ l2 = 1) (some (l2, D7)))))
set_option maxRecDepth 100000 in
set_option maxHeartbeats 4000000 in
theorem T_X11_takes_b27 {r : Int32} {D' : Dt} {X : Ctx} {l : Launch} {G : Gt} {A : Nat → Prop} {lv : Nat} {a1 : Nat}   (hG : Gok G A) (hlv : 9 ≤ lv) (hv1 : a1 < 20)  (C : Cx X cX11_takes RX11 G l A lv 3 (some .boolean) (some (.int r)) D')  : ∀ (l2 : Int32) (s1 : Int32) (s2 : Int32) (D : Dt), F_X11_takes_b27 a1 l2 s1 s2 D = some (r, D') → J X (Rep G D) 27 [(2, .int l2)] [.int s2, .int s1, .ref (ad G (11, 0, 0, 0))] := by
  intro l2 s1 s2 D h
  unfold F_X11_takes_b27 at h
  refine j_iadd C dX11_takes_27 ?_
  obtain ⟨D7, eD7, h⟩ := bnd_x h
  refine j_putI C fl_X11_168 dX11_takes_28 (by decide) ⟨rfl, rfl⟩ rfl rfl rfl ?_
  refine j_rep eD7 ?_
  refine j_iload_n C 0 dX11_takes_31 rfl rfl ?_
  obtain ⟨g8, h⟩ := grd_x h
  obtain ⟨rfl, rfl⟩ := pr_x h
  exact j_zret C g8 dX11_takes_32
def F_X11_takes (a1 : Nat) (D : Dt) : Option (Int32 × Dt) := (grd (a1 < 20) (vbd (F_X11_blanks  D) (fun D2 => (cbd (F_X11_stood a1 D2) (fun r4 D5 => (if r4 = 0 then (F_X11_takes_b27 a1 r4 (D5.1 (11, 0, 0, 0) 20) (0 : Int32) D5) else (F_X11_takes_b27 a1 r4 (D5.1 (11, 0, 0, 0) 20) (sLen a1) D5)))))))
set_option maxRecDepth 100000 in
set_option maxHeartbeats 4000000 in
theorem M_X11_takes {l : Launch} {G : Gt} {A : Nat → Prop} {lv : Nat} {a1 : Nat} {D : Dt} {r : Int32} {D' : Dt} (hG : Gok G A) (hlv : 9 ≤ lv)  (h : F_X11_takes a1 D = some (r, D')) : MD l G A lv yX11_takes cX11_takes 3 (some .boolean) [.ref (ad G (11, 0, 0, 0)), .ref (sK G a1)] D (some (.int r)) D' := by
  unfold F_X11_takes at h
  obtain ⟨hv1, h⟩ := grd_x h
  refine md_start RX11 hG (by decide +kernel) rfl (Nat.le_of_ble_eq_true rfl) (L := [(0, .ref (ad G (11, 0, 0, 0))), (1, .ref (sK G a1))]) rfl (fun X C => ?_)
  refine j_aload_n C 0 dX11_takes_0 rfl rfl ?_
  obtain ⟨D2, h1, h⟩ := vbd_x h
  refine j_callV C [] [] cl_X11_188 (M_X11_blanks (lv := lv - 1) hG (by omega) h1) (by omega) dX11_takes_1 (by decide) ⟨rfl, rfl⟩ rfl rfl (Nat.le_of_ble_eq_true rfl) ?_
  refine j_st (st' := []) rfl ?_
  refine j_aload_n C 0 dX11_takes_4 rfl rfl ?_
  refine j_aload_n C 1 dX11_takes_5 rfl rfl ?_
  obtain ⟨r4, D5, h3, h⟩ := cbd_x h
  refine j_callV C [.ref (sK G a1)] [] cl_X11_191 (M_X11_stood (lv := lv - 1) hG (by omega) h3) (by omega) dX11_takes_6 (by decide) ⟨rfl, rfl⟩ rfl rfl (Nat.le_of_ble_eq_true rfl) ?_
  refine j_st (st' := [.int r4]) rfl ?_
  refine j_istore_n C [(2, .int r4), (0, .ref (ad G (11, 0, 0, 0))), (1, .ref (sK G a1))] dX11_takes_9 rfl (Nat.le_of_ble_eq_true rfl) rfl rfl ?_
  refine j_aload_n C 1 dX11_takes_10 rfl rfl ?_
  refine j_dup C rfl dX11_takes_11 ?_
  refine j_getI C fl_X11_168 dX11_takes_12 (by decide) ⟨rfl, rfl⟩ rfl ?_
  refine j_iload_n C 0 dX11_takes_15 rfl rfl ?_
  refine j_if_eq C 26 dX11_takes_16 (by decide) (fun c6 => ?_) (fun c6 => ?_)
  · have h := ite_t c6 h
    refine j_iconst C (0 : Int32) (by decide) dX11_takes_26 ?_
    refine j_sub [0] [(2, .int r4)] rfl ?_
    refine T_X11_takes_b27 hG hlv hv1 C  r4 (D5.1 (11, 0, 0, 0) 20) (0 : Int32) D5 h
  · have h := ite_f c6 h
    refine j_aload_n C 2 dX11_takes_19 rfl rfl ?_
    refine j_slen C hv1 cw_X11_179 (by omega) (Nat.le_of_ble_eq_true rfl) dX11_takes_20 ?_
    refine j_goto C 27 dX11_takes_23 (by decide) ?_
    refine j_sub [0] [(2, .int r4)] rfl ?_
    refine T_X11_takes_b27 hG hlv hv1 C  r4 (D5.1 (11, 0, 0, 0) 20) (sLen a1) D5 h
def F_X11_entry (a1 : Int32) (a2 : Int32) (D : Dt) : Option Dt := (if (D.1 (11, 0, 0, 0) 21) = 0 then (grd (inB (((300 : Int32) * (D.1 (11, 0, 0, 0) 22)) + (D.1 (11, 0, 0, 0) 24)) 1800 = true) (bnd (setI D (11, 0, 31, 0) ((((300 : Int32) * (D.1 (11, 0, 0, 0) 22)) + (D.1 (11, 0, 0, 0) 24)).toNatClampNeg) a1) (fun D3 => (grd (inB (((300 : Int32) * (D3.1 (11, 0, 0, 0) 22)) + (D3.1 (11, 0, 0, 0) 24)) 1800 = true) (bnd (setI D3 (11, 0, 32, 0) ((((300 : Int32) * (D3.1 (11, 0, 0, 0) 22)) + (D3.1 (11, 0, 0, 0) 24)).toNatClampNeg) a2) (fun D5 => (bnd (setI D5 (11, 0, 0, 0) 24 ((D5.1 (11, 0, 0, 0) 24) + (1 : Int32))) (fun D6 => (some D6))))))))) else (some D))
set_option maxRecDepth 100000 in
set_option maxHeartbeats 4000000 in
theorem M_X11_entry {l : Launch} {G : Gt} {A : Nat → Prop} {lv : Nat} {a1 : Int32} {a2 : Int32} {D : Dt} {D' : Dt} (hG : Gok G A) (hlv : 1 ≤ lv)  (h : F_X11_entry a1 a2 D = some D') : MD l G A lv yX11_entry cX11_entry 3 none [.ref (ad G (11, 0, 0, 0)), .int a1, .int a2] D none D' := by
  unfold F_X11_entry at h
  refine md_start RX11 hG (by decide +kernel) rfl (Nat.le_of_ble_eq_true rfl) (L := [(0, .ref (ad G (11, 0, 0, 0))), (1, .int a1), (2, .int a2)]) rfl (fun X C => ?_)
  refine j_aload_n C 0 dX11_entry_0 rfl rfl ?_
  refine j_getI C fl_X11_165 dX11_entry_1 (by decide) ⟨rfl, rfl⟩ rfl ?_
  refine j_if_ne C 55 dX11_entry_4 (by decide) (fun c1 => ?_) (fun c1 => ?_)
  · have h := ite_f c1 h
    obtain rfl := Option.some.inj h
    exact j_vret C dX11_entry_55
  · have h := ite_t c1 h
    refine j_aload_n C 0 dX11_entry_7 rfl rfl ?_
    refine j_getS C (11, 0, 31, 0) fl_X11_72 dX11_entry_8 (by decide) ⟨rfl, rfl⟩ rfl rfl ?_
    refine j_sipush C (300 : Int32) (by decide) dX11_entry_11 ?_
    refine j_aload_n C 0 dX11_entry_14 rfl rfl ?_
    refine j_getI C fl_X11_195 dX11_entry_15 (by decide) ⟨rfl, rfl⟩ rfl ?_
    refine j_imul C dX11_entry_18 ?_
    refine j_aload_n C 0 dX11_entry_19 rfl rfl ?_
    refine j_getI C fl_X11_198 dX11_entry_20 (by decide) ⟨rfl, rfl⟩ rfl ?_
    refine j_iadd C dX11_entry_23 ?_
    refine j_iload_n C 1 dX11_entry_24 rfl rfl ?_
    obtain ⟨g2, h⟩ := grd_x h
    obtain ⟨D3, eD3, h⟩ := bnd_x h
    refine j_iastK C 1800 ((((300 : Int32) * (D.1 (11, 0, 0, 0) 22)) + (D.1 (11, 0, 0, 0) 24)).toNatClampNeg) dX11_entry_25 (V_f 30 (by decide) (by decide)) rfl g2 rfl ?_
    refine j_rep eD3 ?_
    refine j_aload_n C 0 dX11_entry_26 rfl rfl ?_
    refine j_getS C (11, 0, 32, 0) fl_X11_75 dX11_entry_27 (by decide) ⟨rfl, rfl⟩ rfl rfl ?_
    refine j_sipush C (300 : Int32) (by decide) dX11_entry_30 ?_
    refine j_aload_n C 0 dX11_entry_33 rfl rfl ?_
    refine j_getI C fl_X11_195 dX11_entry_34 (by decide) ⟨rfl, rfl⟩ rfl ?_
    refine j_imul C dX11_entry_37 ?_
    refine j_aload_n C 0 dX11_entry_38 rfl rfl ?_
    refine j_getI C fl_X11_198 dX11_entry_39 (by decide) ⟨rfl, rfl⟩ rfl ?_
    refine j_iadd C dX11_entry_42 ?_
    refine j_iload_n C 2 dX11_entry_43 rfl rfl ?_
    obtain ⟨g4, h⟩ := grd_x h
    obtain ⟨D5, eD5, h⟩ := bnd_x h
    refine j_iastK C 1800 ((((300 : Int32) * (D3.1 (11, 0, 0, 0) 22)) + (D3.1 (11, 0, 0, 0) 24)).toNatClampNeg) dX11_entry_44 (V_f 31 (by decide) (by decide)) rfl g4 rfl ?_
    refine j_rep eD5 ?_
    refine j_aload_n C 0 dX11_entry_45 rfl rfl ?_
    refine j_dup C rfl dX11_entry_46 ?_
    refine j_getI C fl_X11_198 dX11_entry_47 (by decide) ⟨rfl, rfl⟩ rfl ?_
    refine j_iconst C (1 : Int32) (by decide) dX11_entry_50 ?_
    refine j_iadd C dX11_entry_51 ?_
    obtain ⟨D6, eD6, h⟩ := bnd_x h
    refine j_putI C fl_X11_198 dX11_entry_52 (by decide) ⟨rfl, rfl⟩ rfl rfl rfl ?_
    refine j_rep eD6 ?_
    obtain rfl := Option.some.inj h
    exact j_vret C dX11_entry_55
def F_X11_isCounted_b15 (a1 : Int32)   (D : Dt) : Option Dt := (bnd (setI D (11, 0, 0, 0) 26 ((D.1 (11, 0, 0, 0) 26) + (1 : Int32))) (fun D2 => (some D2)))
set_option maxRecDepth 100000 in
set_option maxHeartbeats 4000000 in
theorem T_X11_isCounted_b15 {D' : Dt} {X : Ctx} {l : Launch} {G : Gt} {A : Nat → Prop} {lv : Nat} {a1 : Int32}   (hG : Gok G A) (hlv : 2 ≤ lv)   (C : Cx X cX11_isCounted RX11 G l A lv 2 none none D')  : ∀  (D : Dt), F_X11_isCounted_b15 a1  D = some D' → J X (Rep G D) 15 [(0, .ref (ad G (11, 0, 0, 0)))] [] := by
  intro D h
  unfold F_X11_isCounted_b15 at h
  refine j_aload_n C 0 dX11_isCounted_15 rfl rfl ?_
  refine j_dup C rfl dX11_isCounted_16 ?_
  refine j_getI C fl_X11_201 dX11_isCounted_17 (by decide) ⟨rfl, rfl⟩ rfl ?_
  refine j_iconst C (1 : Int32) (by decide) dX11_isCounted_20 ?_
  refine j_iadd C dX11_isCounted_21 ?_
  obtain ⟨D2, eD2, h⟩ := bnd_x h
  refine j_putI C fl_X11_201 dX11_isCounted_22 (by decide) ⟨rfl, rfl⟩ rfl rfl rfl ?_
  refine j_rep eD2 ?_
  obtain rfl := Option.some.inj h
  exact j_vret C dX11_isCounted_25
def F_X11_isCounted (a1 : Int32) (D : Dt) : Option Dt := (if (D.1 (11, 0, 0, 0) 26) = (60 : Int32) then (vbd (F_X11_fails (3 : Int32) a1 D) (fun D4 => (F_X11_isCounted_b15 a1  D4))) else (F_X11_isCounted_b15 a1  D))
set_option maxRecDepth 100000 in
set_option maxHeartbeats 4000000 in
theorem M_X11_isCounted {l : Launch} {G : Gt} {A : Nat → Prop} {lv : Nat} {a1 : Int32} {D : Dt} {D' : Dt} (hG : Gok G A) (hlv : 2 ≤ lv)  (h : F_X11_isCounted a1 D = some D') : MD l G A lv yX11_isCounted cX11_isCounted 2 none [.ref (ad G (11, 0, 0, 0)), .int a1] D none D' := by
  unfold F_X11_isCounted at h
  refine md_start RX11 hG (by decide +kernel) rfl (Nat.le_of_ble_eq_true rfl) (L := [(0, .ref (ad G (11, 0, 0, 0))), (1, .int a1)]) rfl (fun X C => ?_)
  refine j_aload_n C 0 dX11_isCounted_0 rfl rfl ?_
  refine j_getI C fl_X11_201 dX11_isCounted_1 (by decide) ⟨rfl, rfl⟩ rfl ?_
  refine j_bipush C (60 : Int32) (by decide) dX11_isCounted_4 ?_
  refine j_icmp_ne C 15 dX11_isCounted_6 (by decide) (fun c1 => ?_) (fun c1 => ?_)
  · have h := ite_f c1 h
    refine j_sub [0] [(0, .ref (ad G (11, 0, 0, 0)))] rfl ?_
    refine T_X11_isCounted_b15 hG hlv  C   D h
  · have h := ite_t c1 h
    refine j_aload_n C 0 dX11_isCounted_9 rfl rfl ?_
    refine j_iconst C (3 : Int32) (by decide) dX11_isCounted_10 ?_
    refine j_iload_n C 1 dX11_isCounted_11 rfl rfl ?_
    obtain ⟨D4, h3, h⟩ := vbd_x h
    refine j_callV C [.int (3 : Int32), .int a1] [] cl_X11_204 (M_X11_fails (lv := lv - 1) hG (by omega) h3) (by omega) dX11_isCounted_12 (by decide) ⟨rfl, rfl⟩ rfl rfl (Nat.le_of_ble_eq_true rfl) ?_
    refine j_st (st' := []) rfl ?_
    refine j_sub [0] [(0, .ref (ad G (11, 0, 0, 0)))] rfl ?_
    refine T_X11_isCounted_b15 hG hlv  C   D4 h
def F_X11_digits_b58 (a1 : Int32) (k25 : Int32 → Int32 → Int32 → Dt → Option (Int32 × Dt)) (l1 : Int32) (l2 : Int32) (s0 : Int32) (D : Dt) : Option (Int32 × Dt) := (bnd (setI D (11, 0, 0, 0) 20 ((D.1 (11, 0, 0, 0) 20) + (1 : Int32))) (fun D11 => (k25 l1 l2 s0 D11)))
set_option maxRecDepth 100000 in
set_option maxHeartbeats 4000000 in
theorem T_X11_digits_b58 {r : Int32} {D' : Dt} {X : Ctx} {l : Launch} {G : Gt} {A : Nat → Prop} {lv : Nat} {a1 : Int32}  {k25 : Int32 → Int32 → Int32 → Dt → Option (Int32 × Dt)} (hG : Gok G A) (hlv : 3 ≤ lv)   (C : Cx X cX11_digits RX11 G l A lv 4 (some .int) (some (.int r)) D') (hk25 : ∀ (l1 : Int32) (l2 : Int32) (l3 : Int32) (D : Dt), k25 l1 l2 l3 D = some (r, D') → J X (Rep G D) 25 [(0, .ref (ad G (11, 0, 0, 0))), (1, .int l1), (2, .int l2), (3, .int l3)] []) : ∀ (l1 : Int32) (l2 : Int32) (s0 : Int32) (D : Dt), F_X11_digits_b58 a1 k25 l1 l2 s0 D = some (r, D') → J X (Rep G D) 58 [(0, .ref (ad G (11, 0, 0, 0))), (1, .int l1), (2, .int l2)] [.int s0] := by
  intro l1 l2 s0 D h
  unfold F_X11_digits_b58 at h
  refine j_istore_n C [(3, .int s0), (0, .ref (ad G (11, 0, 0, 0))), (1, .int l1), (2, .int l2)] dX11_digits_58 rfl (Nat.le_of_ble_eq_true rfl) rfl rfl ?_
  refine j_aload_n C 1 dX11_digits_59 rfl rfl ?_
  refine j_dup C rfl dX11_digits_60 ?_
  refine j_getI C fl_X11_168 dX11_digits_61 (by decide) ⟨rfl, rfl⟩ rfl ?_
  refine j_iconst C (1 : Int32) (by decide) dX11_digits_64 ?_
  refine j_iadd C dX11_digits_65 ?_
  obtain ⟨D11, eD11, h⟩ := bnd_x h
  refine j_putI C fl_X11_168 dX11_digits_66 (by decide) ⟨rfl, rfl⟩ rfl rfl rfl ?_
  refine j_rep eD11 ?_
  refine j_goto C 25 dX11_digits_69 (by decide) ?_
  refine j_sub [1, 2, 3, 0] [(0, .ref (ad G (11, 0, 0, 0))), (1, .int l1), (2, .int l2), (3, .int s0)] rfl ?_
  exact hk25 l1 l2 s0 D11 h
def F_X11_digits_b25 (a1 : Int32) (k72 : Int32 → Int32 → Int32 → Dt → Option (Int32 × Dt)) : Nat → Int32 → Int32 → Int32 → Dt → Option (Int32 × Dt)
  | 0, _, _, _, _ => none
  | f + 1, l1, l2, l3, D => (cbd (F_X11_isDigit  D) (fun r7 D8 => (if r7 = 0 then (k72 l1 l2 l3 D8) else (if (5 : Int32) ≤ ((D8.1 (11, 0, 0, 0) 20) - l2) then (F_X11_digits_b58 a1 (fun l1_12 l2_13 l3_14 D15 => (F_X11_digits_b25 a1 k72 f l1_12 l2_13 l3_14 D15)) l1 l2 l3 D8) else (cbd (F_X11_sign  D8) (fun r17 D18 => (F_X11_digits_b58 a1 (fun l1_19 l2_20 l3_21 D22 => (F_X11_digits_b25 a1 k72 f l1_19 l2_20 l3_21 D22)) l1 l2 ((((10 : Int32) * l3) + r17) - (48 : Int32)) D18)))))))
set_option maxRecDepth 100000 in
set_option maxHeartbeats 4000000 in
theorem T_X11_digits_b25 {r : Int32} {D' : Dt} {X : Ctx} {l : Launch} {G : Gt} {A : Nat → Prop} {lv : Nat} {a1 : Int32}  {k72 : Int32 → Int32 → Int32 → Dt → Option (Int32 × Dt)} (hG : Gok G A) (hlv : 3 ≤ lv)   (C : Cx X cX11_digits RX11 G l A lv 4 (some .int) (some (.int r)) D') (hk72 : ∀ (l1 : Int32) (l2 : Int32) (l3 : Int32) (D : Dt), k72 l1 l2 l3 D = some (r, D') → J X (Rep G D) 72 [(0, .ref (ad G (11, 0, 0, 0))), (1, .int l1), (2, .int l2), (3, .int l3)] []) : ∀ (f : Nat) (l1 : Int32) (l2 : Int32) (l3 : Int32) (D : Dt), F_X11_digits_b25 a1 k72 f l1 l2 l3 D = some (r, D') → J X (Rep G D) 25 [(0, .ref (ad G (11, 0, 0, 0))), (1, .int l1), (2, .int l2), (3, .int l3)] [] := by
  intro f
  induction f with
  | zero =>
    intro l1 l2 l3 D h
    exact nomatch h
  | succ f ih =>
    intro l1 l2 l3 D h
    rw [F_X11_digits_b25] at h
    refine j_aload_n C 0 dX11_digits_25 rfl rfl ?_
    obtain ⟨r7, D8, h6, h⟩ := cbd_x h
    refine j_callV C [] [] cl_X11_208 (M_X11_isDigit (lv := lv - 1) hG (by omega) h6) (by omega) dX11_digits_26 (by decide) ⟨rfl, rfl⟩ rfl rfl (Nat.le_of_ble_eq_true rfl) ?_
    refine j_st (st' := [.int r7]) rfl ?_
    refine j_if_eq C 72 dX11_digits_29 (by decide) (fun c9 => ?_) (fun c9 => ?_)
    · have h := ite_t c9 h
      exact hk72 l1 l2 l3 D8 h
    · have h := ite_f c9 h
      refine j_aload_n C 0 dX11_digits_32 rfl rfl ?_
      refine j_getI C fl_X11_168 dX11_digits_33 (by decide) ⟨rfl, rfl⟩ rfl ?_
      refine j_iload_n C 2 dX11_digits_36 rfl rfl ?_
      refine j_isub C dX11_digits_37 ?_
      refine j_iconst C (5 : Int32) (by decide) dX11_digits_38 ?_
      refine j_icmp_ge C 57 dX11_digits_39 (by decide) (fun c10 => ?_) (fun c10 => ?_)
      · have h := ite_t c10 h
        refine j_iload_n C 3 dX11_digits_57 rfl rfl ?_
        refine j_sub [0, 1, 2] [(0, .ref (ad G (11, 0, 0, 0))), (1, .int l1), (2, .int l2)] rfl ?_
        refine T_X11_digits_b58 hG hlv  C (fun l1_12 l2_13 l3_14 D15 h => ?_) l1 l2 l3 D8 h
        · exact ih l1_12 l2_13 l3_14 D15 h
      · have h := ite_f c10 h
        refine j_bipush C (10 : Int32) (by decide) dX11_digits_42 ?_
        refine j_iload_n C 3 dX11_digits_44 rfl rfl ?_
        refine j_imul C dX11_digits_45 ?_
        refine j_aload_n C 0 dX11_digits_46 rfl rfl ?_
        obtain ⟨r17, D18, h16, h⟩ := cbd_x h
        refine j_callV C [] [.int ((10 : Int32) * l3)] cl_X11_171 (M_X11_sign (lv := lv - 1) hG (by omega) h16) (by omega) dX11_digits_47 (by decide) ⟨rfl, rfl⟩ rfl rfl (Nat.le_of_ble_eq_true rfl) ?_
        refine j_st (st' := [.int r17, .int ((10 : Int32) * l3)]) rfl ?_
        refine j_iadd C dX11_digits_50 ?_
        refine j_bipush C (48 : Int32) (by decide) dX11_digits_51 ?_
        refine j_isub C dX11_digits_53 ?_
        refine j_goto C 58 dX11_digits_54 (by decide) ?_
        refine j_sub [0, 1, 2] [(0, .ref (ad G (11, 0, 0, 0))), (1, .int l1), (2, .int l2)] rfl ?_
        refine T_X11_digits_b58 hG hlv  C (fun l1_19 l2_20 l3_21 D22 h => ?_) l1 l2 ((((10 : Int32) * l3) + r17) - (48 : Int32)) D18 h
        · exact ih l1_19 l2_20 l3_21 D22 h
def F_X11_digits_b87 (a1 : Int32)  (l2 : Int32) (l3 : Int32) (D : Dt) : Option (Int32 × Dt) := (vbd (F_X11_fails (1 : Int32) l2 D) (fun D29 => (some (l3, D29))))
set_option maxRecDepth 100000 in
set_option maxHeartbeats 4000000 in
theorem T_X11_digits_b87 {r : Int32} {D' : Dt} {X : Ctx} {l : Launch} {G : Gt} {A : Nat → Prop} {lv : Nat} {a1 : Int32}   (hG : Gok G A) (hlv : 3 ≤ lv)   (C : Cx X cX11_digits RX11 G l A lv 4 (some .int) (some (.int r)) D')  : ∀ (l2 : Int32) (l3 : Int32) (D : Dt), F_X11_digits_b87 a1 l2 l3 D = some (r, D') → J X (Rep G D) 87 [(0, .ref (ad G (11, 0, 0, 0))), (2, .int l2), (3, .int l3)] [] := by
  intro l2 l3 D h
  unfold F_X11_digits_b87 at h
  refine j_aload_n C 0 dX11_digits_87 rfl rfl ?_
  refine j_iconst C (1 : Int32) (by decide) dX11_digits_88 ?_
  refine j_iload_n C 1 dX11_digits_89 rfl rfl ?_
  obtain ⟨D29, h28, h⟩ := vbd_x h
  refine j_callV C [.int (1 : Int32), .int l2] [] cl_X11_204 (M_X11_fails (lv := lv - 1) hG (by omega) h28) (by omega) dX11_digits_90 (by decide) ⟨rfl, rfl⟩ rfl rfl (Nat.le_of_ble_eq_true rfl) ?_
  refine j_st (st' := []) rfl ?_
  refine j_iload_n C 2 dX11_digits_93 rfl rfl ?_
  obtain ⟨rfl, rfl⟩ := pr_x h
  exact j_iret C dX11_digits_94
def F_X11_digits (a1 : Int32) (D : Dt) : Option (Int32 × Dt) := (cbd (F_X11_isDigit  D) (fun r2 D3 => (if r2 = 0 then (vbd (F_X11_fails (0 : Int32) (D3.1 (11, 0, 0, 0) 20) D3) (fun D32 => (some ((0 : Int32), D32)))) else (bnd (D3.1 (11, 0, 0, 0) 20) (fun v5 => (F_X11_digits_b25 a1 (fun l1_23 l2_24 l3_25 D26 => (if (5 : Int32) < ((D26.1 (11, 0, 0, 0) 20) - l2_24) then (F_X11_digits_b87 a1 l2_24 l3_25 D26) else (if l3_25 ≤ l1_23 then (some (l3_25, D26)) else (F_X11_digits_b87 a1 l2_24 l3_25 D26)))) 2000 a1 v5 (0 : Int32) D3))))))
set_option maxRecDepth 100000 in
set_option maxHeartbeats 4000000 in
theorem M_X11_digits {l : Launch} {G : Gt} {A : Nat → Prop} {lv : Nat} {a1 : Int32} {D : Dt} {r : Int32} {D' : Dt} (hG : Gok G A) (hlv : 3 ≤ lv)  (h : F_X11_digits a1 D = some (r, D')) : MD l G A lv yX11_digits cX11_digits 4 (some .int) [.ref (ad G (11, 0, 0, 0)), .int a1] D (some (.int r)) D' := by
  unfold F_X11_digits at h
  refine md_start RX11 hG (by decide +kernel) rfl (Nat.le_of_ble_eq_true rfl) (L := [(0, .ref (ad G (11, 0, 0, 0))), (1, .int a1)]) rfl (fun X C => ?_)
  refine j_aload_n C 0 dX11_digits_0 rfl rfl ?_
  obtain ⟨r2, D3, h1, h⟩ := cbd_x h
  refine j_callV C [] [] cl_X11_208 (M_X11_isDigit (lv := lv - 1) hG (by omega) h1) (by omega) dX11_digits_1 (by decide) ⟨rfl, rfl⟩ rfl rfl (Nat.le_of_ble_eq_true rfl) ?_
  refine j_st (st' := [.int r2]) rfl ?_
  refine j_if_ne C 18 dX11_digits_4 (by decide) (fun c4 => ?_) (fun c4 => ?_)
  · have h := ite_f c4 h
    refine j_aload_n C 0 dX11_digits_18 rfl rfl ?_
    refine j_getI C fl_X11_168 dX11_digits_19 (by decide) ⟨rfl, rfl⟩ rfl ?_
    obtain ⟨v5, ev5, h⟩ := bnd_x h
    refine j_istore_n C [(2, .int v5), (0, .ref (ad G (11, 0, 0, 0))), (1, .int a1)] dX11_digits_22 rfl (Nat.le_of_ble_eq_true rfl) ev5 rfl ?_
    refine j_iconst C (0 : Int32) (by decide) dX11_digits_23 ?_
    refine j_istore_n C [(3, .int (0 : Int32)), (2, .int v5), (0, .ref (ad G (11, 0, 0, 0))), (1, .int a1)] dX11_digits_24 rfl (Nat.le_of_ble_eq_true rfl) rfl rfl ?_
    refine j_sub [2, 3, 1, 0] [(0, .ref (ad G (11, 0, 0, 0))), (1, .int a1), (2, .int v5), (3, .int (0 : Int32))] rfl ?_
    refine T_X11_digits_b25 hG hlv  C (fun l1_23 l2_24 l3_25 D26 h => ?_) 2000 a1 v5 (0 : Int32) D3 h
    · refine j_aload_n C 0 dX11_digits_72 rfl rfl ?_
      refine j_getI C fl_X11_168 dX11_digits_73 (by decide) ⟨rfl, rfl⟩ rfl ?_
      refine j_iload_n C 2 dX11_digits_76 rfl rfl ?_
      refine j_isub C dX11_digits_77 ?_
      refine j_iconst C (5 : Int32) (by decide) dX11_digits_78 ?_
      refine j_icmp_gt C 87 dX11_digits_79 (by decide) (fun c27 => ?_) (fun c27 => ?_)
      · have h := ite_t c27 h
        refine j_sub [0, 2, 3] [(0, .ref (ad G (11, 0, 0, 0))), (2, .int l2_24), (3, .int l3_25)] rfl ?_
        refine T_X11_digits_b87 hG hlv  C  l2_24 l3_25 D26 h
      · have h := ite_f c27 h
        refine j_iload_n C 3 dX11_digits_82 rfl rfl ?_
        refine j_iload_n C 1 dX11_digits_83 rfl rfl ?_
        refine j_icmp_le C 93 dX11_digits_84 (by decide) (fun c30 => ?_) (fun c30 => ?_)
        · have h := ite_t c30 h
          refine j_iload_n C 3 dX11_digits_93 rfl rfl ?_
          obtain ⟨rfl, rfl⟩ := pr_x h
          exact j_iret C dX11_digits_94
        · have h := ite_f c30 h
          refine j_sub [0, 2, 3] [(0, .ref (ad G (11, 0, 0, 0))), (2, .int l2_24), (3, .int l3_25)] rfl ?_
          refine T_X11_digits_b87 hG hlv  C  l2_24 l3_25 D26 h
  · have h := ite_t c4 h
    refine j_aload_n C 0 dX11_digits_7 rfl rfl ?_
    refine j_iconst C (0 : Int32) (by decide) dX11_digits_8 ?_
    refine j_aload_n C 0 dX11_digits_9 rfl rfl ?_
    refine j_getI C fl_X11_168 dX11_digits_10 (by decide) ⟨rfl, rfl⟩ rfl ?_
    obtain ⟨D32, h31, h⟩ := vbd_x h
    refine j_callV C [.int (0 : Int32), .int (D3.1 (11, 0, 0, 0) 20)] [] cl_X11_204 (M_X11_fails (lv := lv - 1) hG (by omega) h31) (by omega) dX11_digits_13 (by decide) ⟨rfl, rfl⟩ rfl rfl (Nat.le_of_ble_eq_true rfl) ?_
    refine j_st (st' := []) rfl ?_
    refine j_iconst C (0 : Int32) (by decide) dX11_digits_16 ?_
    obtain ⟨rfl, rfl⟩ := pr_x h
    exact j_iret C dX11_digits_17
def F_X11_value_b37  (k62 : Int32 → Int32 → Dt → Option Dt) : Nat → Int32 → Int32 → Dt → Option Dt
  | 0, _, _, _ => none
  | f + 1, l1, l2, D => (if (D.1 (11, 0, 0, 0) 28) ≤ l2 then (k62 l1 l2 D) else (cbd (F_X11_wordOf l2 D) (fun r10 D11 => (grd (r10 < 20) (cbd (F_X11_stood r10 D11) (fun r14 D15 => (if r14 = 0 then (bnd (l2 + (1 : Int32)) (fun v17 => (F_X11_value_b37 k62 f l1 v17 D15))) else (k62 l1 l2 D15))))))))
set_option maxRecDepth 100000 in
set_option maxHeartbeats 4000000 in
theorem T_X11_value_b37 {D' : Dt} {X : Ctx} {l : Launch} {G : Gt} {A : Nat → Prop} {lv : Nat}   {k62 : Int32 → Int32 → Dt → Option Dt} (hG : Gok G A) (hlv : 9 ≤ lv)   (C : Cx X cX11_value RX11 G l A lv 3 none none D') (hk62 : ∀ (l1 : Int32) (l2 : Int32) (D : Dt), k62 l1 l2 D = some D' → J X (Rep G D) 62 [(0, .ref (ad G (11, 0, 0, 0))), (1, .int l1), (2, .int l2)] []) : ∀ (f : Nat) (l1 : Int32) (l2 : Int32) (D : Dt), F_X11_value_b37 k62 f l1 l2 D = some D' → J X (Rep G D) 37 [(0, .ref (ad G (11, 0, 0, 0))), (1, .int l1), (2, .int l2)] [] := by
  intro f
  induction f with
  | zero =>
    intro l1 l2 D h
    exact nomatch h
  | succ f ih =>
    intro l1 l2 D h
    rw [F_X11_value_b37] at h
    refine j_iload_n C 2 dX11_value_37 rfl rfl ?_
    refine j_aload_n C 0 dX11_value_38 rfl rfl ?_
    refine j_getI C fl_X11_64 dX11_value_39 (by decide) ⟨rfl, rfl⟩ rfl ?_
    refine j_icmp_ge C 62 dX11_value_42 (by decide) (fun c8 => ?_) (fun c8 => ?_)
    · have h := ite_t c8 h
      exact hk62 l1 l2 D h
    · have h := ite_f c8 h
      refine j_aload_n C 0 dX11_value_45 rfl rfl ?_
      refine j_iload_n C 2 dX11_value_46 rfl rfl ?_
      obtain ⟨r10, D11, h9, h⟩ := cbd_x h
      obtain ⟨g12, h⟩ := grd_x h
      refine j_callS C [.int l2] [.ref (ad G (11, 0, 0, 0))] cl_X11_223 (M_X11_wordOf (lv := lv - 1) hG (by omega) h9) (by omega) dX11_value_47 rfl rfl (Nat.le_of_ble_eq_true rfl) ?_
      refine j_st (st' := [.ref (sK G r10), .ref (ad G (11, 0, 0, 0))]) rfl ?_
      obtain ⟨r14, D15, h13, h⟩ := cbd_x h
      refine j_callV C [.ref (sK G r10)] [] cl_X11_191 (M_X11_stood (lv := lv - 1) hG (by omega) h13) (by omega) dX11_value_50 (by decide) ⟨rfl, rfl⟩ rfl rfl (Nat.le_of_ble_eq_true rfl) ?_
      refine j_st (st' := [.int r14]) rfl ?_
      refine j_if_ne C 62 dX11_value_53 (by decide) (fun c16 => ?_) (fun c16 => ?_)
      · have h := ite_f c16 h
        exact hk62 l1 l2 D15 h
      · have h := ite_t c16 h
        obtain ⟨v17, ev17, h⟩ := bnd_x h
        refine j_iinc C 2 [(2, .int v17), (0, .ref (ad G (11, 0, 0, 0))), (1, .int l1)] dX11_value_56 rfl (Nat.le_of_ble_eq_true rfl) (ev17.trans (congrArg (l2 + ·) (by decide))) rfl ?_
        refine j_goto C 37 dX11_value_59 (by decide) ?_
        refine j_sub [1, 2, 0] [(0, .ref (ad G (11, 0, 0, 0))), (1, .int l1), (2, .int v17)] rfl ?_
        exact ih l1 v17 D15 h
def F_X11_value  (D : Dt) : Option Dt := (vbd (F_X11_blanks  D) (fun D2 => (bnd (D2.1 (11, 0, 0, 0) 20) (fun v3 => (cbd (F_X11_isDigit  D2) (fun r5 D6 => (if r5 = 0 then (F_X11_value_b37 (fun l1_18 l2_19 D20 => (if l2_19 = (D20.1 (11, 0, 0, 0) 28) then (vbd (F_X11_fails (0 : Int32) l1_18 D20) (fun D32 => (some D32))) else (vbd (F_X11_isCounted l1_18 D20) (fun D23 => (cbd (F_X11_wordOf l2_19 D23) (fun r25 D26 => (grd (r25 < 20) (bnd (setI D26 (11, 0, 0, 0) 20 ((D23.1 (11, 0, 0, 0) 20) + (sLen r25))) (fun D28 => (vbd (F_X11_entry (1 : Int32) l2_19 D28) (fun D30 => (some D30)))))))))))) 2000 v3 (0 : Int32) D6) else (cbd (F_X11_digits (99999 : Int32) D6) (fun r34 D35 => (vbd (F_X11_isCounted v3 D35) (fun D37 => (vbd (F_X11_entry (0 : Int32) r34 D37) (fun D39 => (some D39))))))))))))))
set_option maxRecDepth 100000 in
set_option maxHeartbeats 4000000 in
theorem M_X11_value {l : Launch} {G : Gt} {A : Nat → Prop} {lv : Nat}  {D : Dt} {D' : Dt} (hG : Gok G A) (hlv : 9 ≤ lv)  (h : F_X11_value  D = some D') : MD l G A lv yX11_value cX11_value 3 none [.ref (ad G (11, 0, 0, 0))] D none D' := by
  unfold F_X11_value at h
  refine md_start RX11 hG (by decide +kernel) rfl (Nat.le_of_ble_eq_true rfl) (L := [(0, .ref (ad G (11, 0, 0, 0)))]) rfl (fun X C => ?_)
  refine j_aload_n C 0 dX11_value_0 rfl rfl ?_
  obtain ⟨D2, h1, h⟩ := vbd_x h
  refine j_callV C [] [] cl_X11_188 (M_X11_blanks (lv := lv - 1) hG (by omega) h1) (by omega) dX11_value_1 (by decide) ⟨rfl, rfl⟩ rfl rfl (Nat.le_of_ble_eq_true rfl) ?_
  refine j_st (st' := []) rfl ?_
  refine j_aload_n C 0 dX11_value_4 rfl rfl ?_
  refine j_getI C fl_X11_168 dX11_value_5 (by decide) ⟨rfl, rfl⟩ rfl ?_
  obtain ⟨v3, ev3, h⟩ := bnd_x h
  refine j_istore_n C [(1, .int v3), (0, .ref (ad G (11, 0, 0, 0)))] dX11_value_8 rfl (Nat.le_of_ble_eq_true rfl) ev3 rfl ?_
  refine j_aload_n C 1 dX11_value_9 rfl rfl ?_
  obtain ⟨r5, D6, h4, h⟩ := cbd_x h
  refine j_callV C [] [] cl_X11_208 (M_X11_isDigit (lv := lv - 1) hG (by omega) h4) (by omega) dX11_value_10 (by decide) ⟨rfl, rfl⟩ rfl rfl (Nat.le_of_ble_eq_true rfl) ?_
  refine j_st (st' := [.int r5]) rfl ?_
  refine j_if_eq C 35 dX11_value_13 (by decide) (fun c7 => ?_) (fun c7 => ?_)
  · have h := ite_t c7 h
    refine j_iconst C (0 : Int32) (by decide) dX11_value_35 ?_
    refine j_istore_n C [(2, .int (0 : Int32)), (1, .int v3), (0, .ref (ad G (11, 0, 0, 0)))] dX11_value_36 rfl (Nat.le_of_ble_eq_true rfl) rfl rfl ?_
    refine j_sub [2, 1, 0] [(0, .ref (ad G (11, 0, 0, 0))), (1, .int v3), (2, .int (0 : Int32))] rfl ?_
    refine T_X11_value_b37 hG hlv  C (fun l1_18 l2_19 D20 h => ?_) 2000 v3 (0 : Int32) D6 h
    · refine j_iload_n C 2 dX11_value_62 rfl rfl ?_
      refine j_aload_n C 0 dX11_value_63 rfl rfl ?_
      refine j_getI C fl_X11_64 dX11_value_64 (by decide) ⟨rfl, rfl⟩ rfl ?_
      refine j_icmp_ne C 77 dX11_value_67 (by decide) (fun c21 => ?_) (fun c21 => ?_)
      · have h := ite_f c21 h
        refine j_aload_n C 0 dX11_value_77 rfl rfl ?_
        refine j_iload_n C 1 dX11_value_78 rfl rfl ?_
        obtain ⟨D23, h22, h⟩ := vbd_x h
        refine j_callV C [.int l1_18] [] cl_X11_217 (M_X11_isCounted (lv := lv - 1) hG (by omega) h22) (by omega) dX11_value_79 (by decide) ⟨rfl, rfl⟩ rfl rfl (Nat.le_of_ble_eq_true rfl) ?_
        refine j_st (st' := []) rfl ?_
        refine j_aload_n C 0 dX11_value_82 rfl rfl ?_
        refine j_dup C rfl dX11_value_83 ?_
        refine j_getI C fl_X11_168 dX11_value_84 (by decide) ⟨rfl, rfl⟩ rfl ?_
        refine j_iload_n C 2 dX11_value_87 rfl rfl ?_
        obtain ⟨r25, D26, h24, h⟩ := cbd_x h
        obtain ⟨g27, h⟩ := grd_x h
        refine j_callS C [.int l2_19] [.int (D23.1 (11, 0, 0, 0) 20), .ref (ad G (11, 0, 0, 0))] cl_X11_223 (M_X11_wordOf (lv := lv - 1) hG (by omega) h24) (by omega) dX11_value_88 rfl rfl (Nat.le_of_ble_eq_true rfl) ?_
        refine j_st (st' := [.ref (sK G r25), .int (D23.1 (11, 0, 0, 0) 20), .ref (ad G (11, 0, 0, 0))]) rfl ?_
        refine j_slen C g27 cw_X11_179 (by omega) (Nat.le_of_ble_eq_true rfl) dX11_value_91 ?_
        refine j_iadd C dX11_value_94 ?_
        obtain ⟨D28, eD28, h⟩ := bnd_x h
        refine j_putI C fl_X11_168 dX11_value_95 (by decide) ⟨rfl, rfl⟩ rfl rfl rfl ?_
        refine j_rep eD28 ?_
        refine j_aload_n C 0 dX11_value_98 rfl rfl ?_
        refine j_iconst C (1 : Int32) (by decide) dX11_value_99 ?_
        refine j_iload_n C 2 dX11_value_100 rfl rfl ?_
        obtain ⟨D30, h29, h⟩ := vbd_x h
        refine j_callV C [.int (1 : Int32), .int l2_19] [] cl_X11_220 (M_X11_entry (lv := lv - 1) hG (by omega) h29) (by omega) dX11_value_101 (by decide) ⟨rfl, rfl⟩ rfl rfl (Nat.le_of_ble_eq_true rfl) ?_
        refine j_st (st' := []) rfl ?_
        obtain rfl := Option.some.inj h
        exact j_vret C dX11_value_104
      · have h := ite_t c21 h
        refine j_aload_n C 0 dX11_value_70 rfl rfl ?_
        refine j_iconst C (0 : Int32) (by decide) dX11_value_71 ?_
        refine j_iload_n C 1 dX11_value_72 rfl rfl ?_
        obtain ⟨D32, h31, h⟩ := vbd_x h
        refine j_callV C [.int (0 : Int32), .int l1_18] [] cl_X11_204 (M_X11_fails (lv := lv - 1) hG (by omega) h31) (by omega) dX11_value_73 (by decide) ⟨rfl, rfl⟩ rfl rfl (Nat.le_of_ble_eq_true rfl) ?_
        refine j_st (st' := []) rfl ?_
        obtain rfl := Option.some.inj h
        exact j_vret C dX11_value_76
  · have h := ite_f c7 h
    refine j_aload_n C 1 dX11_value_16 rfl rfl ?_
    refine j_ldc C (99999 : Int32) kc_X11_212 dX11_value_17 ?_
    obtain ⟨r34, D35, h33, h⟩ := cbd_x h
    refine j_callV C [.int (99999 : Int32)] [] cl_X11_213 (M_X11_digits (lv := lv - 1) hG (by omega) h33) (by omega) dX11_value_19 (by decide) ⟨rfl, rfl⟩ rfl rfl (Nat.le_of_ble_eq_true rfl) ?_
    refine j_st (st' := [.int r34]) rfl ?_
    refine j_istore_n C [(2, .int r34), (1, .int v3), (0, .ref (ad G (11, 0, 0, 0)))] dX11_value_22 rfl (Nat.le_of_ble_eq_true rfl) rfl rfl ?_
    refine j_aload_n C 2 dX11_value_23 rfl rfl ?_
    refine j_iload_n C 1 dX11_value_24 rfl rfl ?_
    obtain ⟨D37, h36, h⟩ := vbd_x h
    refine j_callV C [.int v3] [] cl_X11_217 (M_X11_isCounted (lv := lv - 1) hG (by omega) h36) (by omega) dX11_value_25 (by decide) ⟨rfl, rfl⟩ rfl rfl (Nat.le_of_ble_eq_true rfl) ?_
    refine j_st (st' := []) rfl ?_
    refine j_aload_n C 2 dX11_value_28 rfl rfl ?_
    refine j_iconst C (0 : Int32) (by decide) dX11_value_29 ?_
    refine j_iload_n C 0 dX11_value_30 rfl rfl ?_
    obtain ⟨D39, h38, h⟩ := vbd_x h
    refine j_callV C [.int (0 : Int32), .int r34] [] cl_X11_220 (M_X11_entry (lv := lv - 1) hG (by omega) h38) (by omega) dX11_value_31 (by decide) ⟨rfl, rfl⟩ rfl rfl (Nat.le_of_ble_eq_true rfl) ?_
    refine j_st (st' := []) rfl ?_
    obtain rfl := Option.some.inj h
    exact j_vret C dX11_value_34
def F_X11_term_b72  (k8 : Dt → Option Dt) (s0 : Int32) (D : Dt) : Option Dt := (bnd (setI D (11, 0, 0, 0) 20 ((D.1 (11, 0, 0, 0) 20) + (1 : Int32))) (fun D18 => (vbd (F_X11_value  D18) (fun D20 => (vbd (F_X11_entry s0 (0 : Int32) D20) (fun D22 => (vbd (F_X11_blanks  D22) (fun D24 => (k8  D24)))))))))
set_option maxRecDepth 100000 in
set_option maxHeartbeats 4000000 in
theorem T_X11_term_b72 {D' : Dt} {X : Ctx} {l : Launch} {G : Gt} {A : Nat → Prop} {lv : Nat}   {k8 : Dt → Option Dt} (hG : Gok G A) (hlv : 10 ≤ lv)   (C : Cx X cX11_term RX11 G l A lv 2 none none D') (hk8 : ∀  (D : Dt), k8  D = some D' → J X (Rep G D) 8 [(0, .ref (ad G (11, 0, 0, 0)))] []) : ∀ (s0 : Int32) (D : Dt), F_X11_term_b72 k8 s0 D = some D' → J X (Rep G D) 72 [(0, .ref (ad G (11, 0, 0, 0)))] [.int s0] := by
  intro s0 D h
  unfold F_X11_term_b72 at h
  refine j_istore_n C [(1, .int s0), (0, .ref (ad G (11, 0, 0, 0)))] dX11_term_72 rfl (Nat.le_of_ble_eq_true rfl) rfl rfl ?_
  refine j_aload_n C 1 dX11_term_73 rfl rfl ?_
  refine j_dup C rfl dX11_term_74 ?_
  refine j_getI C fl_X11_168 dX11_term_75 (by decide) ⟨rfl, rfl⟩ rfl ?_
  refine j_iconst C (1 : Int32) (by decide) dX11_term_78 ?_
  refine j_iadd C dX11_term_79 ?_
  obtain ⟨D18, eD18, h⟩ := bnd_x h
  refine j_putI C fl_X11_168 dX11_term_80 (by decide) ⟨rfl, rfl⟩ rfl rfl rfl ?_
  refine j_rep eD18 ?_
  refine j_aload_n C 1 dX11_term_83 rfl rfl ?_
  obtain ⟨D20, h19, h⟩ := vbd_x h
  refine j_callV C [] [] cl_X11_227 (M_X11_value (lv := lv - 1) hG (by omega) h19) (by omega) dX11_term_84 (by decide) ⟨rfl, rfl⟩ rfl rfl (Nat.le_of_ble_eq_true rfl) ?_
  refine j_st (st' := []) rfl ?_
  refine j_aload_n C 1 dX11_term_87 rfl rfl ?_
  refine j_iload_n C 0 dX11_term_88 rfl rfl ?_
  refine j_iconst C (0 : Int32) (by decide) dX11_term_89 ?_
  obtain ⟨D22, h21, h⟩ := vbd_x h
  refine j_callV C [.int s0, .int (0 : Int32)] [] cl_X11_220 (M_X11_entry (lv := lv - 1) hG (by omega) h21) (by omega) dX11_term_90 (by decide) ⟨rfl, rfl⟩ rfl rfl (Nat.le_of_ble_eq_true rfl) ?_
  refine j_st (st' := []) rfl ?_
  refine j_aload_n C 1 dX11_term_93 rfl rfl ?_
  obtain ⟨D24, h23, h⟩ := vbd_x h
  refine j_callV C [] [] cl_X11_188 (M_X11_blanks (lv := lv - 1) hG (by omega) h23) (by omega) dX11_term_94 (by decide) ⟨rfl, rfl⟩ rfl rfl (Nat.le_of_ble_eq_true rfl) ?_
  refine j_st (st' := []) rfl ?_
  refine j_goto C 8 dX11_term_97 (by decide) ?_
  refine j_sub [1] [(0, .ref (ad G (11, 0, 0, 0)))] rfl ?_
  exact hk8  D24 h
def F_X11_term_b42  (k8 : Dt → Option Dt)  (D : Dt) : Option Dt := (cbd (F_X11_sign  D) (fun r11 D12 => (if r11 = (42 : Int32) then (F_X11_term_b72 (fun D27 => (k8  D27)) (13 : Int32) D12) else (cbd (F_X11_sign  D12) (fun r15 D16 => (if r15 = (47 : Int32) then (F_X11_term_b72 (fun D26 => (k8  D26)) (14 : Int32) D16) else (F_X11_term_b72 (fun D25 => (k8  D25)) (15 : Int32) D16)))))))
set_option maxRecDepth 100000 in
set_option maxHeartbeats 4000000 in
theorem T_X11_term_b42 {D' : Dt} {X : Ctx} {l : Launch} {G : Gt} {A : Nat → Prop} {lv : Nat}   {k8 : Dt → Option Dt} (hG : Gok G A) (hlv : 10 ≤ lv)   (C : Cx X cX11_term RX11 G l A lv 2 none none D') (hk8 : ∀  (D : Dt), k8  D = some D' → J X (Rep G D) 8 [(0, .ref (ad G (11, 0, 0, 0)))] []) : ∀  (D : Dt), F_X11_term_b42 k8  D = some D' → J X (Rep G D) 42 [(0, .ref (ad G (11, 0, 0, 0)))] [] := by
  intro D h
  unfold F_X11_term_b42 at h
  refine j_aload_n C 0 dX11_term_42 rfl rfl ?_
  obtain ⟨r11, D12, h10, h⟩ := cbd_x h
  refine j_callV C [] [] cl_X11_171 (M_X11_sign (lv := lv - 1) hG (by omega) h10) (by omega) dX11_term_43 (by decide) ⟨rfl, rfl⟩ rfl rfl (Nat.le_of_ble_eq_true rfl) ?_
  refine j_st (st' := [.int r11]) rfl ?_
  refine j_bipush C (42 : Int32) (by decide) dX11_term_46 ?_
  refine j_icmp_ne C 56 dX11_term_48 (by decide) (fun c13 => ?_) (fun c13 => ?_)
  · have h := ite_f c13 h
    refine j_aload_n C 0 dX11_term_56 rfl rfl ?_
    obtain ⟨r15, D16, h14, h⟩ := cbd_x h
    refine j_callV C [] [] cl_X11_171 (M_X11_sign (lv := lv - 1) hG (by omega) h14) (by omega) dX11_term_57 (by decide) ⟨rfl, rfl⟩ rfl rfl (Nat.le_of_ble_eq_true rfl) ?_
    refine j_st (st' := [.int r15]) rfl ?_
    refine j_bipush C (47 : Int32) (by decide) dX11_term_60 ?_
    refine j_icmp_ne C 70 dX11_term_62 (by decide) (fun c17 => ?_) (fun c17 => ?_)
    · have h := ite_f c17 h
      refine j_bipush C (15 : Int32) (by decide) dX11_term_70 ?_
      refine T_X11_term_b72 hG hlv  C (fun D25 h => ?_) (15 : Int32) D16 h
      · exact hk8  D25 h
    · have h := ite_t c17 h
      refine j_bipush C (14 : Int32) (by decide) dX11_term_65 ?_
      refine j_goto C 72 dX11_term_67 (by decide) ?_
      refine T_X11_term_b72 hG hlv  C (fun D26 h => ?_) (14 : Int32) D16 h
      · exact hk8  D26 h
  · have h := ite_t c13 h
    refine j_bipush C (13 : Int32) (by decide) dX11_term_51 ?_
    refine j_goto C 72 dX11_term_53 (by decide) ?_
    refine T_X11_term_b72 hG hlv  C (fun D27 h => ?_) (13 : Int32) D12 h
    · exact hk8  D27 h
def F_X11_term_b8   : Nat → Dt → Option Dt
  | 0, _ => none
  | f + 1, D => (if (D.1 (11, 0, 0, 0) 21) = 0 then (cbd (F_X11_sign  D) (fun r7 D8 => (if r7 = (42 : Int32) then (F_X11_term_b42 (fun D28 => (F_X11_term_b8  f  D28))  D8) else (cbd (F_X11_sign  D8) (fun r30 D31 => (if r30 = (47 : Int32) then (F_X11_term_b42 (fun D33 => (F_X11_term_b8  f  D33))  D31) else (cbd (F_X11_sign  D31) (fun r35 D36 => (if r35 = (37 : Int32) then (F_X11_term_b42 (fun D38 => (F_X11_term_b8  f  D38))  D36) else (some D36)))))))))) else (some D))
set_option maxRecDepth 100000 in
set_option maxHeartbeats 4000000 in
theorem T_X11_term_b8 {D' : Dt} {X : Ctx} {l : Launch} {G : Gt} {A : Nat → Prop} {lv : Nat}    (hG : Gok G A) (hlv : 10 ≤ lv)   (C : Cx X cX11_term RX11 G l A lv 2 none none D')  : ∀ (f : Nat)  (D : Dt), F_X11_term_b8  f  D = some D' → J X (Rep G D) 8 [(0, .ref (ad G (11, 0, 0, 0)))] [] := by
  intro f
  induction f with
  | zero =>
    intro D h
    exact nomatch h
  | succ f ih =>
    intro D h
    rw [F_X11_term_b8] at h
    refine j_aload_n C 0 dX11_term_8 rfl rfl ?_
    refine j_getI C fl_X11_165 dX11_term_9 (by decide) ⟨rfl, rfl⟩ rfl ?_
    refine j_if_ne C 100 dX11_term_12 (by decide) (fun c5 => ?_) (fun c5 => ?_)
    · have h := ite_f c5 h
      obtain rfl := Option.some.inj h
      exact j_vret C dX11_term_100
    · have h := ite_t c5 h
      refine j_aload_n C 0 dX11_term_15 rfl rfl ?_
      obtain ⟨r7, D8, h6, h⟩ := cbd_x h
      refine j_callV C [] [] cl_X11_171 (M_X11_sign (lv := lv - 1) hG (by omega) h6) (by omega) dX11_term_16 (by decide) ⟨rfl, rfl⟩ rfl rfl (Nat.le_of_ble_eq_true rfl) ?_
      refine j_st (st' := [.int r7]) rfl ?_
      refine j_bipush C (42 : Int32) (by decide) dX11_term_19 ?_
      refine j_icmp_eq C 42 dX11_term_21 (by decide) (fun c9 => ?_) (fun c9 => ?_)
      · have h := ite_t c9 h
        refine T_X11_term_b42 hG hlv  C (fun D28 h => ?_)  D8 h
        · exact ih  D28 h
      · have h := ite_f c9 h
        refine j_aload_n C 0 dX11_term_24 rfl rfl ?_
        obtain ⟨r30, D31, h29, h⟩ := cbd_x h
        refine j_callV C [] [] cl_X11_171 (M_X11_sign (lv := lv - 1) hG (by omega) h29) (by omega) dX11_term_25 (by decide) ⟨rfl, rfl⟩ rfl rfl (Nat.le_of_ble_eq_true rfl) ?_
        refine j_st (st' := [.int r30]) rfl ?_
        refine j_bipush C (47 : Int32) (by decide) dX11_term_28 ?_
        refine j_icmp_eq C 42 dX11_term_30 (by decide) (fun c32 => ?_) (fun c32 => ?_)
        · have h := ite_t c32 h
          refine T_X11_term_b42 hG hlv  C (fun D33 h => ?_)  D31 h
          · exact ih  D33 h
        · have h := ite_f c32 h
          refine j_aload_n C 0 dX11_term_33 rfl rfl ?_
          obtain ⟨r35, D36, h34, h⟩ := cbd_x h
          refine j_callV C [] [] cl_X11_171 (M_X11_sign (lv := lv - 1) hG (by omega) h34) (by omega) dX11_term_34 (by decide) ⟨rfl, rfl⟩ rfl rfl (Nat.le_of_ble_eq_true rfl) ?_
          refine j_st (st' := [.int r35]) rfl ?_
          refine j_bipush C (37 : Int32) (by decide) dX11_term_37 ?_
          refine j_icmp_ne C 100 dX11_term_39 (by decide) (fun c37 => ?_) (fun c37 => ?_)
          · have h := ite_f c37 h
            obtain rfl := Option.some.inj h
            exact j_vret C dX11_term_100
          · have h := ite_t c37 h
            refine T_X11_term_b42 hG hlv  C (fun D38 h => ?_)  D36 h
            · exact ih  D38 h
def F_X11_term  (D : Dt) : Option Dt := (vbd (F_X11_value  D) (fun D2 => (vbd (F_X11_blanks  D2) (fun D4 => (F_X11_term_b8  2000  D4)))))
set_option maxRecDepth 100000 in
set_option maxHeartbeats 4000000 in
theorem M_X11_term {l : Launch} {G : Gt} {A : Nat → Prop} {lv : Nat}  {D : Dt} {D' : Dt} (hG : Gok G A) (hlv : 10 ≤ lv)  (h : F_X11_term  D = some D') : MD l G A lv yX11_term cX11_term 2 none [.ref (ad G (11, 0, 0, 0))] D none D' := by
  unfold F_X11_term at h
  refine md_start RX11 hG (by decide +kernel) rfl (Nat.le_of_ble_eq_true rfl) (L := [(0, .ref (ad G (11, 0, 0, 0)))]) rfl (fun X C => ?_)
  refine j_aload_n C 0 dX11_term_0 rfl rfl ?_
  obtain ⟨D2, h1, h⟩ := vbd_x h
  refine j_callV C [] [] cl_X11_227 (M_X11_value (lv := lv - 1) hG (by omega) h1) (by omega) dX11_term_1 (by decide) ⟨rfl, rfl⟩ rfl rfl (Nat.le_of_ble_eq_true rfl) ?_
  refine j_st (st' := []) rfl ?_
  refine j_aload_n C 0 dX11_term_4 rfl rfl ?_
  obtain ⟨D4, h3, h⟩ := vbd_x h
  refine j_callV C [] [] cl_X11_188 (M_X11_blanks (lv := lv - 1) hG (by omega) h3) (by omega) dX11_term_5 (by decide) ⟨rfl, rfl⟩ rfl rfl (Nat.le_of_ble_eq_true rfl) ?_
  refine j_st (st' := []) rfl ?_
  refine T_X11_term_b8 hG hlv  C  2000  D4 h
def F_X11_sum_b43  (k4 : Dt → Option Dt) (s0 : Int32) (D : Dt) : Option Dt := (bnd (setI D (11, 0, 0, 0) 20 ((D.1 (11, 0, 0, 0) 20) + (1 : Int32))) (fun D12 => (vbd (F_X11_term  D12) (fun D14 => (vbd (F_X11_entry s0 (0 : Int32) D14) (fun D16 => (k4  D16)))))))
set_option maxRecDepth 100000 in
set_option maxHeartbeats 4000000 in
theorem T_X11_sum_b43 {D' : Dt} {X : Ctx} {l : Launch} {G : Gt} {A : Nat → Prop} {lv : Nat}   {k4 : Dt → Option Dt} (hG : Gok G A) (hlv : 11 ≤ lv)   (C : Cx X cX11_sum RX11 G l A lv 2 none none D') (hk4 : ∀  (D : Dt), k4  D = some D' → J X (Rep G D) 4 [(0, .ref (ad G (11, 0, 0, 0)))] []) : ∀ (s0 : Int32) (D : Dt), F_X11_sum_b43 k4 s0 D = some D' → J X (Rep G D) 43 [(0, .ref (ad G (11, 0, 0, 0)))] [.int s0] := by
  intro s0 D h
  unfold F_X11_sum_b43 at h
  refine j_istore_n C [(1, .int s0), (0, .ref (ad G (11, 0, 0, 0)))] dX11_sum_43 rfl (Nat.le_of_ble_eq_true rfl) rfl rfl ?_
  refine j_aload_n C 1 dX11_sum_44 rfl rfl ?_
  refine j_dup C rfl dX11_sum_45 ?_
  refine j_getI C fl_X11_168 dX11_sum_46 (by decide) ⟨rfl, rfl⟩ rfl ?_
  refine j_iconst C (1 : Int32) (by decide) dX11_sum_49 ?_
  refine j_iadd C dX11_sum_50 ?_
  obtain ⟨D12, eD12, h⟩ := bnd_x h
  refine j_putI C fl_X11_168 dX11_sum_51 (by decide) ⟨rfl, rfl⟩ rfl rfl rfl ?_
  refine j_rep eD12 ?_
  refine j_aload_n C 1 dX11_sum_54 rfl rfl ?_
  obtain ⟨D14, h13, h⟩ := vbd_x h
  refine j_callV C [] [] cl_X11_230 (M_X11_term (lv := lv - 1) hG (by omega) h13) (by omega) dX11_sum_55 (by decide) ⟨rfl, rfl⟩ rfl rfl (Nat.le_of_ble_eq_true rfl) ?_
  refine j_st (st' := []) rfl ?_
  refine j_aload_n C 1 dX11_sum_58 rfl rfl ?_
  refine j_iload_n C 0 dX11_sum_59 rfl rfl ?_
  refine j_iconst C (0 : Int32) (by decide) dX11_sum_60 ?_
  obtain ⟨D16, h15, h⟩ := vbd_x h
  refine j_callV C [.int s0, .int (0 : Int32)] [] cl_X11_220 (M_X11_entry (lv := lv - 1) hG (by omega) h15) (by omega) dX11_sum_61 (by decide) ⟨rfl, rfl⟩ rfl rfl (Nat.le_of_ble_eq_true rfl) ?_
  refine j_st (st' := []) rfl ?_
  refine j_goto C 4 dX11_sum_64 (by decide) ?_
  refine j_sub [1] [(0, .ref (ad G (11, 0, 0, 0)))] rfl ?_
  exact hk4  D16 h
def F_X11_sum_b29  (k4 : Dt → Option Dt)  (D : Dt) : Option Dt := (cbd (F_X11_sign  D) (fun r9 D10 => (if r9 = (43 : Int32) then (F_X11_sum_b43 (fun D18 => (k4  D18)) (2 : Int32) D10) else (F_X11_sum_b43 (fun D17 => (k4  D17)) (3 : Int32) D10))))
set_option maxRecDepth 100000 in
set_option maxHeartbeats 4000000 in
theorem T_X11_sum_b29 {D' : Dt} {X : Ctx} {l : Launch} {G : Gt} {A : Nat → Prop} {lv : Nat}   {k4 : Dt → Option Dt} (hG : Gok G A) (hlv : 11 ≤ lv)   (C : Cx X cX11_sum RX11 G l A lv 2 none none D') (hk4 : ∀  (D : Dt), k4  D = some D' → J X (Rep G D) 4 [(0, .ref (ad G (11, 0, 0, 0)))] []) : ∀  (D : Dt), F_X11_sum_b29 k4  D = some D' → J X (Rep G D) 29 [(0, .ref (ad G (11, 0, 0, 0)))] [] := by
  intro D h
  unfold F_X11_sum_b29 at h
  refine j_aload_n C 0 dX11_sum_29 rfl rfl ?_
  obtain ⟨r9, D10, h8, h⟩ := cbd_x h
  refine j_callV C [] [] cl_X11_171 (M_X11_sign (lv := lv - 1) hG (by omega) h8) (by omega) dX11_sum_30 (by decide) ⟨rfl, rfl⟩ rfl rfl (Nat.le_of_ble_eq_true rfl) ?_
  refine j_st (st' := [.int r9]) rfl ?_
  refine j_bipush C (43 : Int32) (by decide) dX11_sum_33 ?_
  refine j_icmp_ne C 42 dX11_sum_35 (by decide) (fun c11 => ?_) (fun c11 => ?_)
  · have h := ite_f c11 h
    refine j_iconst C (3 : Int32) (by decide) dX11_sum_42 ?_
    refine T_X11_sum_b43 hG hlv  C (fun D17 h => ?_) (3 : Int32) D10 h
    · exact hk4  D17 h
  · have h := ite_t c11 h
    refine j_iconst C (2 : Int32) (by decide) dX11_sum_38 ?_
    refine j_goto C 43 dX11_sum_39 (by decide) ?_
    refine T_X11_sum_b43 hG hlv  C (fun D18 h => ?_) (2 : Int32) D10 h
    · exact hk4  D18 h
def F_X11_sum_b4   : Nat → Dt → Option Dt
  | 0, _ => none
  | f + 1, D => (if (D.1 (11, 0, 0, 0) 21) = 0 then (cbd (F_X11_sign  D) (fun r5 D6 => (if r5 = (43 : Int32) then (F_X11_sum_b29 (fun D19 => (F_X11_sum_b4  f  D19))  D6) else (cbd (F_X11_sign  D6) (fun r21 D22 => (if r21 = (45 : Int32) then (F_X11_sum_b29 (fun D24 => (F_X11_sum_b4  f  D24))  D22) else (some D22))))))) else (some D))
set_option maxRecDepth 100000 in
set_option maxHeartbeats 4000000 in
theorem T_X11_sum_b4 {D' : Dt} {X : Ctx} {l : Launch} {G : Gt} {A : Nat → Prop} {lv : Nat}    (hG : Gok G A) (hlv : 11 ≤ lv)   (C : Cx X cX11_sum RX11 G l A lv 2 none none D')  : ∀ (f : Nat)  (D : Dt), F_X11_sum_b4  f  D = some D' → J X (Rep G D) 4 [(0, .ref (ad G (11, 0, 0, 0)))] [] := by
  intro f
  induction f with
  | zero =>
    intro D h
    exact nomatch h
  | succ f ih =>
    intro D h
    rw [F_X11_sum_b4] at h
    refine j_aload_n C 0 dX11_sum_4 rfl rfl ?_
    refine j_getI C fl_X11_165 dX11_sum_5 (by decide) ⟨rfl, rfl⟩ rfl ?_
    refine j_if_ne C 67 dX11_sum_8 (by decide) (fun c3 => ?_) (fun c3 => ?_)
    · have h := ite_f c3 h
      obtain rfl := Option.some.inj h
      exact j_vret C dX11_sum_67
    · have h := ite_t c3 h
      refine j_aload_n C 0 dX11_sum_11 rfl rfl ?_
      obtain ⟨r5, D6, h4, h⟩ := cbd_x h
      refine j_callV C [] [] cl_X11_171 (M_X11_sign (lv := lv - 1) hG (by omega) h4) (by omega) dX11_sum_12 (by decide) ⟨rfl, rfl⟩ rfl rfl (Nat.le_of_ble_eq_true rfl) ?_
      refine j_st (st' := [.int r5]) rfl ?_
      refine j_bipush C (43 : Int32) (by decide) dX11_sum_15 ?_
      refine j_icmp_eq C 29 dX11_sum_17 (by decide) (fun c7 => ?_) (fun c7 => ?_)
      · have h := ite_t c7 h
        refine T_X11_sum_b29 hG hlv  C (fun D19 h => ?_)  D6 h
        · exact ih  D19 h
      · have h := ite_f c7 h
        refine j_aload_n C 0 dX11_sum_20 rfl rfl ?_
        obtain ⟨r21, D22, h20, h⟩ := cbd_x h
        refine j_callV C [] [] cl_X11_171 (M_X11_sign (lv := lv - 1) hG (by omega) h20) (by omega) dX11_sum_21 (by decide) ⟨rfl, rfl⟩ rfl rfl (Nat.le_of_ble_eq_true rfl) ?_
        refine j_st (st' := [.int r21]) rfl ?_
        refine j_bipush C (45 : Int32) (by decide) dX11_sum_24 ?_
        refine j_icmp_ne C 67 dX11_sum_26 (by decide) (fun c23 => ?_) (fun c23 => ?_)
        · have h := ite_f c23 h
          obtain rfl := Option.some.inj h
          exact j_vret C dX11_sum_67
        · have h := ite_t c23 h
          refine T_X11_sum_b29 hG hlv  C (fun D24 h => ?_)  D22 h
          · exact ih  D24 h
def F_X11_sum  (D : Dt) : Option Dt := (vbd (F_X11_term  D) (fun D2 => (F_X11_sum_b4  2000  D2)))
set_option maxRecDepth 100000 in
set_option maxHeartbeats 4000000 in
theorem M_X11_sum {l : Launch} {G : Gt} {A : Nat → Prop} {lv : Nat}  {D : Dt} {D' : Dt} (hG : Gok G A) (hlv : 11 ≤ lv)  (h : F_X11_sum  D = some D') : MD l G A lv yX11_sum cX11_sum 2 none [.ref (ad G (11, 0, 0, 0))] D none D' := by
  unfold F_X11_sum at h
  refine md_start RX11 hG (by decide +kernel) rfl (Nat.le_of_ble_eq_true rfl) (L := [(0, .ref (ad G (11, 0, 0, 0)))]) rfl (fun X C => ?_)
  refine j_aload_n C 0 dX11_sum_0 rfl rfl ?_
  obtain ⟨D2, h1, h⟩ := vbd_x h
  refine j_callV C [] [] cl_X11_230 (M_X11_term (lv := lv - 1) hG (by omega) h1) (by omega) dX11_sum_1 (by decide) ⟨rfl, rfl⟩ rfl rfl (Nat.le_of_ble_eq_true rfl) ?_
  refine j_st (st' := []) rfl ?_
  refine T_X11_sum_b4 hG hlv  C  2000  D2 h
def F_X11_compared_b139   (s1 : Int32) (D : Dt) : Option Dt := (vbd (F_X11_entry s1 (0 : Int32) D) (fun D19 => (some D19)))
set_option maxRecDepth 100000 in
set_option maxHeartbeats 4000000 in
theorem T_X11_compared_b139 {D' : Dt} {X : Ctx} {l : Launch} {G : Gt} {A : Nat → Prop} {lv : Nat}    (hG : Gok G A) (hlv : 12 ≤ lv)   (C : Cx X cX11_compared RX11 G l A lv 3 none none D')  : ∀ (s1 : Int32) (D : Dt), F_X11_compared_b139  s1 D = some D' → J X (Rep G D) 139 [] [.int s1, .ref (ad G (11, 0, 0, 0))] := by
  intro s1 D h
  unfold F_X11_compared_b139 at h
  refine j_iconst C (0 : Int32) (by decide) dX11_compared_139 ?_
  obtain ⟨D19, h18, h⟩ := vbd_x h
  refine j_callV C [.int s1, .int (0 : Int32)] [] cl_X11_220 (M_X11_entry (lv := lv - 1) hG (by omega) h18) (by omega) dX11_compared_140 (by decide) ⟨rfl, rfl⟩ rfl rfl (Nat.le_of_ble_eq_true rfl) ?_
  refine j_st (st' := []) rfl ?_
  obtain rfl := Option.some.inj h
  exact j_vret C dX11_compared_143
def F_X11_compared_b90   (l1 : Int32) (l2 : Int32) (s1 : Int32) (s2 : Int32) (D : Dt) : Option Dt := (bnd (setI D (11, 0, 0, 0) 20 (s1 + s2)) (fun D12 => (vbd (F_X11_sum  D12) (fun D14 => (if l1 = (61 : Int32) then (F_X11_compared_b139  (6 : Int32) D14) else (if l1 = (60 : Int32) then (if l2 = 0 then (F_X11_compared_b139  (4 : Int32) D14) else (F_X11_compared_b139  (5 : Int32) D14)) else (if l2 = 0 then (F_X11_compared_b139  (8 : Int32) D14) else (F_X11_compared_b139  (7 : Int32) D14))))))))
set_option maxRecDepth 100000 in
set_option maxHeartbeats 4000000 in
theorem T_X11_compared_b90 {D' : Dt} {X : Ctx} {l : Launch} {G : Gt} {A : Nat → Prop} {lv : Nat}    (hG : Gok G A) (hlv : 12 ≤ lv)   (C : Cx X cX11_compared RX11 G l A lv 3 none none D')  : ∀ (l1 : Int32) (l2 : Int32) (s1 : Int32) (s2 : Int32) (D : Dt), F_X11_compared_b90  l1 l2 s1 s2 D = some D' → J X (Rep G D) 90 [(0, .ref (ad G (11, 0, 0, 0))), (1, .int l1), (2, .int l2)] [.int s2, .int s1, .ref (ad G (11, 0, 0, 0))] := by
  intro l1 l2 s1 s2 D h
  unfold F_X11_compared_b90 at h
  refine j_iadd C dX11_compared_90 ?_
  obtain ⟨D12, eD12, h⟩ := bnd_x h
  refine j_putI C fl_X11_168 dX11_compared_91 (by decide) ⟨rfl, rfl⟩ rfl rfl rfl ?_
  refine j_rep eD12 ?_
  refine j_aload_n C 0 dX11_compared_94 rfl rfl ?_
  obtain ⟨D14, h13, h⟩ := vbd_x h
  refine j_callV C [] [] cl_X11_233 (M_X11_sum (lv := lv - 1) hG (by omega) h13) (by omega) dX11_compared_95 (by decide) ⟨rfl, rfl⟩ rfl rfl (Nat.le_of_ble_eq_true rfl) ?_
  refine j_st (st' := []) rfl ?_
  refine j_aload_n C 0 dX11_compared_98 rfl rfl ?_
  refine j_iload_n C 1 dX11_compared_99 rfl rfl ?_
  refine j_bipush C (61 : Int32) (by decide) dX11_compared_100 ?_
  refine j_icmp_ne C 110 dX11_compared_102 (by decide) (fun c15 => ?_) (fun c15 => ?_)
  · have h := ite_f c15 h
    refine j_iload_n C 1 dX11_compared_110 rfl rfl ?_
    refine j_bipush C (60 : Int32) (by decide) dX11_compared_111 ?_
    refine j_icmp_ne C 128 dX11_compared_113 (by decide) (fun c16 => ?_) (fun c16 => ?_)
    · have h := ite_f c16 h
      refine j_iload_n C 2 dX11_compared_128 rfl rfl ?_
      refine j_if_eq C 137 dX11_compared_129 (by decide) (fun c17 => ?_) (fun c17 => ?_)
      · have h := ite_t c17 h
        refine j_bipush C (8 : Int32) (by decide) dX11_compared_137 ?_
        refine j_sub [] [] rfl ?_
        refine T_X11_compared_b139 hG hlv  C  (8 : Int32) D14 h
      · have h := ite_f c17 h
        refine j_bipush C (7 : Int32) (by decide) dX11_compared_132 ?_
        refine j_goto C 139 dX11_compared_134 (by decide) ?_
        refine j_sub [] [] rfl ?_
        refine T_X11_compared_b139 hG hlv  C  (7 : Int32) D14 h
    · have h := ite_t c16 h
      refine j_iload_n C 2 dX11_compared_116 rfl rfl ?_
      refine j_if_eq C 124 dX11_compared_117 (by decide) (fun c20 => ?_) (fun c20 => ?_)
      · have h := ite_t c20 h
        refine j_iconst C (4 : Int32) (by decide) dX11_compared_124 ?_
        refine j_goto C 139 dX11_compared_125 (by decide) ?_
        refine j_sub [] [] rfl ?_
        refine T_X11_compared_b139 hG hlv  C  (4 : Int32) D14 h
      · have h := ite_f c20 h
        refine j_iconst C (5 : Int32) (by decide) dX11_compared_120 ?_
        refine j_goto C 139 dX11_compared_121 (by decide) ?_
        refine j_sub [] [] rfl ?_
        refine T_X11_compared_b139 hG hlv  C  (5 : Int32) D14 h
  · have h := ite_t c15 h
    refine j_bipush C (6 : Int32) (by decide) dX11_compared_105 ?_
    refine j_goto C 139 dX11_compared_107 (by decide) ?_
    refine j_sub [] [] rfl ?_
    refine T_X11_compared_b139 hG hlv  C  (6 : Int32) D14 h
def F_X11_compared_b75   (l1 : Int32) (s0 : Int32) (D : Dt) : Option Dt := (if s0 = 0 then (F_X11_compared_b90  l1 s0 (D.1 (11, 0, 0, 0) 20) (0 : Int32) D) else (F_X11_compared_b90  l1 s0 (D.1 (11, 0, 0, 0) 20) (1 : Int32) D))
set_option maxRecDepth 100000 in
set_option maxHeartbeats 4000000 in
theorem T_X11_compared_b75 {D' : Dt} {X : Ctx} {l : Launch} {G : Gt} {A : Nat → Prop} {lv : Nat}    (hG : Gok G A) (hlv : 12 ≤ lv)   (C : Cx X cX11_compared RX11 G l A lv 3 none none D')  : ∀ (l1 : Int32) (s0 : Int32) (D : Dt), F_X11_compared_b75  l1 s0 D = some D' → J X (Rep G D) 75 [(0, .ref (ad G (11, 0, 0, 0))), (1, .int l1)] [.int s0] := by
  intro l1 s0 D h
  unfold F_X11_compared_b75 at h
  refine j_istore_n C [(2, .int s0), (0, .ref (ad G (11, 0, 0, 0))), (1, .int l1)] dX11_compared_75 rfl (Nat.le_of_ble_eq_true rfl) rfl rfl ?_
  refine j_aload_n C 1 dX11_compared_76 rfl rfl ?_
  refine j_dup C rfl dX11_compared_77 ?_
  refine j_getI C fl_X11_168 dX11_compared_78 (by decide) ⟨rfl, rfl⟩ rfl ?_
  refine j_iload_n C 0 dX11_compared_81 rfl rfl ?_
  refine j_if_eq C 89 dX11_compared_82 (by decide) (fun c11 => ?_) (fun c11 => ?_)
  · have h := ite_t c11 h
    refine j_iconst C (0 : Int32) (by decide) dX11_compared_89 ?_
    refine j_sub [1, 2, 0] [(0, .ref (ad G (11, 0, 0, 0))), (1, .int l1), (2, .int s0)] rfl ?_
    refine T_X11_compared_b90 hG hlv  C  l1 s0 (D.1 (11, 0, 0, 0) 20) (0 : Int32) D h
  · have h := ite_f c11 h
    refine j_iconst C (1 : Int32) (by decide) dX11_compared_85 ?_
    refine j_goto C 90 dX11_compared_86 (by decide) ?_
    refine j_sub [1, 2, 0] [(0, .ref (ad G (11, 0, 0, 0))), (1, .int l1), (2, .int s0)] rfl ?_
    refine T_X11_compared_b90 hG hlv  C  l1 s0 (D.1 (11, 0, 0, 0) 20) (1 : Int32) D h
def F_X11_compared_b74   (l1 : Int32) (D : Dt) : Option Dt := (F_X11_compared_b75  l1 (0 : Int32) D)
set_option maxRecDepth 100000 in
set_option maxHeartbeats 4000000 in
theorem T_X11_compared_b74 {D' : Dt} {X : Ctx} {l : Launch} {G : Gt} {A : Nat → Prop} {lv : Nat}    (hG : Gok G A) (hlv : 12 ≤ lv)   (C : Cx X cX11_compared RX11 G l A lv 3 none none D')  : ∀ (l1 : Int32) (D : Dt), F_X11_compared_b74  l1 D = some D' → J X (Rep G D) 74 [(0, .ref (ad G (11, 0, 0, 0))), (1, .int l1)] [] := by
  intro l1 D h
  unfold F_X11_compared_b74 at h
  refine j_iconst C (0 : Int32) (by decide) dX11_compared_74 ?_
  refine T_X11_compared_b75 hG hlv  C  l1 (0 : Int32) D h
def F_X11_compared_b37   (l1 : Int32) (D : Dt) : Option Dt := (vbd (F_X11_isCounted (D.1 (11, 0, 0, 0) 20) D) (fun D8 => (bnd (setI D8 (11, 0, 0, 0) 20 ((D8.1 (11, 0, 0, 0) 20) + (1 : Int32))) (fun D9 => (if l1 = (61 : Int32) then (F_X11_compared_b74  l1 D9) else (cbd (F_X11_sign  D9) (fun r22 D23 => (if r22 = (61 : Int32) then (F_X11_compared_b75  l1 (1 : Int32) D23) else (F_X11_compared_b74  l1 D23)))))))))
set_option maxRecDepth 100000 in
set_option maxHeartbeats 4000000 in
theorem T_X11_compared_b37 {D' : Dt} {X : Ctx} {l : Launch} {G : Gt} {A : Nat → Prop} {lv : Nat}    (hG : Gok G A) (hlv : 12 ≤ lv)   (C : Cx X cX11_compared RX11 G l A lv 3 none none D')  : ∀ (l1 : Int32) (D : Dt), F_X11_compared_b37  l1 D = some D' → J X (Rep G D) 37 [(0, .ref (ad G (11, 0, 0, 0))), (1, .int l1)] [] := by
  intro l1 D h
  unfold F_X11_compared_b37 at h
  refine j_aload_n C 0 dX11_compared_37 rfl rfl ?_
  refine j_aload_n C 0 dX11_compared_38 rfl rfl ?_
  refine j_getI C fl_X11_168 dX11_compared_39 (by decide) ⟨rfl, rfl⟩ rfl ?_
  obtain ⟨D8, h7, h⟩ := vbd_x h
  refine j_callV C [.int (D.1 (11, 0, 0, 0) 20)] [] cl_X11_217 (M_X11_isCounted (lv := lv - 1) hG (by omega) h7) (by omega) dX11_compared_42 (by decide) ⟨rfl, rfl⟩ rfl rfl (Nat.le_of_ble_eq_true rfl) ?_
  refine j_st (st' := []) rfl ?_
  refine j_aload_n C 0 dX11_compared_45 rfl rfl ?_
  refine j_dup C rfl dX11_compared_46 ?_
  refine j_getI C fl_X11_168 dX11_compared_47 (by decide) ⟨rfl, rfl⟩ rfl ?_
  refine j_iconst C (1 : Int32) (by decide) dX11_compared_50 ?_
  refine j_iadd C dX11_compared_51 ?_
  obtain ⟨D9, eD9, h⟩ := bnd_x h
  refine j_putI C fl_X11_168 dX11_compared_52 (by decide) ⟨rfl, rfl⟩ rfl rfl rfl ?_
  refine j_rep eD9 ?_
  refine j_iload_n C 1 dX11_compared_55 rfl rfl ?_
  refine j_bipush C (61 : Int32) (by decide) dX11_compared_56 ?_
  refine j_icmp_eq C 74 dX11_compared_58 (by decide) (fun c10 => ?_) (fun c10 => ?_)
  · have h := ite_t c10 h
    refine T_X11_compared_b74 hG hlv  C  l1 D9 h
  · have h := ite_f c10 h
    refine j_aload_n C 0 dX11_compared_61 rfl rfl ?_
    obtain ⟨r22, D23, h21, h⟩ := cbd_x h
    refine j_callV C [] [] cl_X11_171 (M_X11_sign (lv := lv - 1) hG (by omega) h21) (by omega) dX11_compared_62 (by decide) ⟨rfl, rfl⟩ rfl rfl (Nat.le_of_ble_eq_true rfl) ?_
    refine j_st (st' := [.int r22]) rfl ?_
    refine j_bipush C (61 : Int32) (by decide) dX11_compared_65 ?_
    refine j_icmp_ne C 74 dX11_compared_67 (by decide) (fun c24 => ?_) (fun c24 => ?_)
    · have h := ite_f c24 h
      refine T_X11_compared_b74 hG hlv  C  l1 D23 h
    · have h := ite_t c24 h
      refine j_iconst C (1 : Int32) (by decide) dX11_compared_70 ?_
      refine j_goto C 75 dX11_compared_71 (by decide) ?_
      refine T_X11_compared_b75 hG hlv  C  l1 (1 : Int32) D23 h
def F_X11_compared  (D : Dt) : Option Dt := (vbd (F_X11_sum  D) (fun D2 => (cbd (F_X11_sign  D2) (fun r4 D5 => (if r4 = (60 : Int32) then (F_X11_compared_b37  r4 D5) else (if r4 = (61 : Int32) then (F_X11_compared_b37  r4 D5) else (if r4 = (62 : Int32) then (F_X11_compared_b37  r4 D5) else (vbd (F_X11_fails (0 : Int32) (D5.1 (11, 0, 0, 0) 20) D5) (fun D28 => (some D28))))))))))
set_option maxRecDepth 100000 in
set_option maxHeartbeats 4000000 in
theorem M_X11_compared {l : Launch} {G : Gt} {A : Nat → Prop} {lv : Nat}  {D : Dt} {D' : Dt} (hG : Gok G A) (hlv : 12 ≤ lv)  (h : F_X11_compared  D = some D') : MD l G A lv yX11_compared cX11_compared 3 none [.ref (ad G (11, 0, 0, 0))] D none D' := by
  unfold F_X11_compared at h
  refine md_start RX11 hG (by decide +kernel) rfl (Nat.le_of_ble_eq_true rfl) (L := [(0, .ref (ad G (11, 0, 0, 0)))]) rfl (fun X C => ?_)
  refine j_aload_n C 0 dX11_compared_0 rfl rfl ?_
  obtain ⟨D2, h1, h⟩ := vbd_x h
  refine j_callV C [] [] cl_X11_233 (M_X11_sum (lv := lv - 1) hG (by omega) h1) (by omega) dX11_compared_1 (by decide) ⟨rfl, rfl⟩ rfl rfl (Nat.le_of_ble_eq_true rfl) ?_
  refine j_st (st' := []) rfl ?_
  refine j_aload_n C 0 dX11_compared_4 rfl rfl ?_
  obtain ⟨r4, D5, h3, h⟩ := cbd_x h
  refine j_callV C [] [] cl_X11_171 (M_X11_sign (lv := lv - 1) hG (by omega) h3) (by omega) dX11_compared_5 (by decide) ⟨rfl, rfl⟩ rfl rfl (Nat.le_of_ble_eq_true rfl) ?_
  refine j_st (st' := [.int r4]) rfl ?_
  refine j_istore_n C [(1, .int r4), (0, .ref (ad G (11, 0, 0, 0)))] dX11_compared_8 rfl (Nat.le_of_ble_eq_true rfl) rfl rfl ?_
  refine j_iload_n C 0 dX11_compared_9 rfl rfl ?_
  refine j_bipush C (60 : Int32) (by decide) dX11_compared_10 ?_
  refine j_icmp_eq C 37 dX11_compared_12 (by decide) (fun c6 => ?_) (fun c6 => ?_)
  · have h := ite_t c6 h
    refine j_sub [1, 0] [(0, .ref (ad G (11, 0, 0, 0))), (1, .int r4)] rfl ?_
    refine T_X11_compared_b37 hG hlv  C  r4 D5 h
  · have h := ite_f c6 h
    refine j_iload_n C 0 dX11_compared_15 rfl rfl ?_
    refine j_bipush C (61 : Int32) (by decide) dX11_compared_16 ?_
    refine j_icmp_eq C 37 dX11_compared_18 (by decide) (fun c25 => ?_) (fun c25 => ?_)
    · have h := ite_t c25 h
      refine j_sub [1, 0] [(0, .ref (ad G (11, 0, 0, 0))), (1, .int r4)] rfl ?_
      refine T_X11_compared_b37 hG hlv  C  r4 D5 h
    · have h := ite_f c25 h
      refine j_iload_n C 0 dX11_compared_21 rfl rfl ?_
      refine j_bipush C (62 : Int32) (by decide) dX11_compared_22 ?_
      refine j_icmp_eq C 37 dX11_compared_24 (by decide) (fun c26 => ?_) (fun c26 => ?_)
      · have h := ite_t c26 h
        refine j_sub [1, 0] [(0, .ref (ad G (11, 0, 0, 0))), (1, .int r4)] rfl ?_
        refine T_X11_compared_b37 hG hlv  C  r4 D5 h
      · have h := ite_f c26 h
        refine j_aload_n C 1 dX11_compared_27 rfl rfl ?_
        refine j_iconst C (0 : Int32) (by decide) dX11_compared_28 ?_
        refine j_aload_n C 1 dX11_compared_29 rfl rfl ?_
        refine j_getI C fl_X11_168 dX11_compared_30 (by decide) ⟨rfl, rfl⟩ rfl ?_
        obtain ⟨D28, h27, h⟩ := vbd_x h
        refine j_callV C [.int (0 : Int32), .int (D5.1 (11, 0, 0, 0) 20)] [] cl_X11_204 (M_X11_fails (lv := lv - 1) hG (by omega) h27) (by omega) dX11_compared_33 (by decide) ⟨rfl, rfl⟩ rfl rfl (Nat.le_of_ble_eq_true rfl) ?_
        refine j_st (st' := []) rfl ?_
        obtain rfl := Option.some.inj h
        exact j_vret C dX11_compared_36
def F_X11_top  (D : Dt) : Option (Int32 × Dt) := (if (D.1 (11, 0, 0, 0) 27) = 0 then (some ((-1 : Int32), D)) else (grd (inB ((D.1 (11, 0, 0, 0) 27) - (1 : Int32)) 402 = true) (some ((D.1 (11, 0, 37, 0) (((D.1 (11, 0, 0, 0) 27) - (1 : Int32)).toNatClampNeg)), D))))
set_option maxRecDepth 100000 in
set_option maxHeartbeats 4000000 in
theorem M_X11_top {l : Launch} {G : Gt} {A : Nat → Prop} {lv : Nat}  {D : Dt} {r : Int32} {D' : Dt} (hG : Gok G A) (hlv : 1 ≤ lv)  (h : F_X11_top  D = some (r, D')) : MD l G A lv yX11_top cX11_top 1 (some .int) [.ref (ad G (11, 0, 0, 0))] D (some (.int r)) D' := by
  unfold F_X11_top at h
  refine md_start RX11 hG (by decide +kernel) rfl (Nat.le_of_ble_eq_true rfl) (L := [(0, .ref (ad G (11, 0, 0, 0)))]) rfl (fun X C => ?_)
  refine j_aload_n C 0 dX11_top_0 rfl rfl ?_
  refine j_getI C fl_X11_236 dX11_top_1 (by decide) ⟨rfl, rfl⟩ rfl ?_
  refine j_if_ne C 11 dX11_top_4 (by decide) (fun c1 => ?_) (fun c1 => ?_)
  · have h := ite_f c1 h
    refine j_aload_n C 0 dX11_top_11 rfl rfl ?_
    refine j_getS C (11, 0, 37, 0) fl_X11_90 dX11_top_12 (by decide) ⟨rfl, rfl⟩ rfl rfl ?_
    refine j_aload_n C 0 dX11_top_15 rfl rfl ?_
    refine j_getI C fl_X11_236 dX11_top_16 (by decide) ⟨rfl, rfl⟩ rfl ?_
    refine j_iconst C (1 : Int32) (by decide) dX11_top_19 ?_
    refine j_isub C dX11_top_20 ?_
    obtain ⟨g2, h⟩ := grd_x h
    refine j_ialdK C 402 (((D.1 (11, 0, 0, 0) 27) - (1 : Int32)).toNatClampNeg) dX11_top_21 (V_f 36 (by decide) (by decide)) rfl g2 rfl ?_
    obtain ⟨rfl, rfl⟩ := pr_x h
    exact j_iret C dX11_top_22
  · have h := ite_t c1 h
    refine j_iconst C (-1 : Int32) (by decide) dX11_top_7 ?_
    refine j_goto C 22 dX11_top_8 (by decide) ?_
    obtain ⟨rfl, rfl⟩ := pr_x h
    exact j_iret C dX11_top_22
def F_X11_opens_b40 (a1 : Int32)  (l1 : Int32) (D : Dt) : Option Dt := (grd (inB (D.1 (11, 0, 0, 0) 27) 402 = true) (bnd (setI D (11, 0, 37, 0) ((D.1 (11, 0, 0, 0) 27).toNatClampNeg) l1) (fun D5 => (bnd (setI D5 (11, 0, 0, 0) 27 ((D5.1 (11, 0, 0, 0) 27) + (1 : Int32))) (fun D6 => (some D6))))))
set_option maxRecDepth 100000 in
set_option maxHeartbeats 4000000 in
theorem T_X11_opens_b40 {D' : Dt} {X : Ctx} {l : Launch} {G : Gt} {A : Nat → Prop} {lv : Nat} {a1 : Int32}   (hG : Gok G A) (hlv : 2 ≤ lv)   (C : Cx X cX11_opens RX11 G l A lv 2 none none D')  : ∀ (l1 : Int32) (D : Dt), F_X11_opens_b40 a1 l1 D = some D' → J X (Rep G D) 40 [(0, .ref (ad G (11, 0, 0, 0))), (1, .int l1)] [] := by
  intro l1 D h
  unfold F_X11_opens_b40 at h
  refine j_aload_n C 0 dX11_opens_40 rfl rfl ?_
  refine j_getS C (11, 0, 37, 0) fl_X11_90 dX11_opens_41 (by decide) ⟨rfl, rfl⟩ rfl rfl ?_
  refine j_aload_n C 0 dX11_opens_44 rfl rfl ?_
  refine j_getI C fl_X11_236 dX11_opens_45 (by decide) ⟨rfl, rfl⟩ rfl ?_
  refine j_iload_n C 1 dX11_opens_48 rfl rfl ?_
  obtain ⟨g4, h⟩ := grd_x h
  obtain ⟨D5, eD5, h⟩ := bnd_x h
  refine j_iastK C 402 ((D.1 (11, 0, 0, 0) 27).toNatClampNeg) dX11_opens_49 (V_f 36 (by decide) (by decide)) rfl g4 rfl ?_
  refine j_rep eD5 ?_
  refine j_aload_n C 0 dX11_opens_50 rfl rfl ?_
  refine j_dup C rfl dX11_opens_51 ?_
  refine j_getI C fl_X11_236 dX11_opens_52 (by decide) ⟨rfl, rfl⟩ rfl ?_
  refine j_iconst C (1 : Int32) (by decide) dX11_opens_55 ?_
  refine j_iadd C dX11_opens_56 ?_
  obtain ⟨D6, eD6, h⟩ := bnd_x h
  refine j_putI C fl_X11_236 dX11_opens_57 (by decide) ⟨rfl, rfl⟩ rfl rfl rfl ?_
  refine j_rep eD6 ?_
  obtain rfl := Option.some.inj h
  exact j_vret C dX11_opens_60
def F_X11_opens_b30 (a1 : Int32)  (l1 : Int32) (D : Dt) : Option Dt := (bnd (setI D (11, 0, 0, 0) 25 ((D.1 (11, 0, 0, 0) 25) + (1 : Int32))) (fun D3 => (F_X11_opens_b40 a1 l1 D3)))
set_option maxRecDepth 100000 in
set_option maxHeartbeats 4000000 in
theorem T_X11_opens_b30 {D' : Dt} {X : Ctx} {l : Launch} {G : Gt} {A : Nat → Prop} {lv : Nat} {a1 : Int32}   (hG : Gok G A) (hlv : 2 ≤ lv)   (C : Cx X cX11_opens RX11 G l A lv 2 none none D')  : ∀ (l1 : Int32) (D : Dt), F_X11_opens_b30 a1 l1 D = some D' → J X (Rep G D) 30 [(0, .ref (ad G (11, 0, 0, 0))), (1, .int l1)] [] := by
  intro l1 D h
  unfold F_X11_opens_b30 at h
  refine j_aload_n C 0 dX11_opens_30 rfl rfl ?_
  refine j_dup C rfl dX11_opens_31 ?_
  refine j_getI C fl_X11_239 dX11_opens_32 (by decide) ⟨rfl, rfl⟩ rfl ?_
  refine j_iconst C (1 : Int32) (by decide) dX11_opens_35 ?_
  refine j_iadd C dX11_opens_36 ?_
  obtain ⟨D3, eD3, h⟩ := bnd_x h
  refine j_putI C fl_X11_239 dX11_opens_37 (by decide) ⟨rfl, rfl⟩ rfl rfl rfl ?_
  refine j_rep eD3 ?_
  refine T_X11_opens_b40 hG hlv  C  l1 D3 h
def F_X11_opens_b12 (a1 : Int32)  (l1 : Int32) (D : Dt) : Option Dt := (if (D.1 (11, 0, 0, 0) 25) = (10 : Int32) then (vbd (F_X11_fails (2 : Int32) (D.1 (11, 0, 0, 0) 20) D) (fun D8 => (F_X11_opens_b30 a1 l1 D8))) else (F_X11_opens_b30 a1 l1 D))
set_option maxRecDepth 100000 in
set_option maxHeartbeats 4000000 in
theorem T_X11_opens_b12 {D' : Dt} {X : Ctx} {l : Launch} {G : Gt} {A : Nat → Prop} {lv : Nat} {a1 : Int32}   (hG : Gok G A) (hlv : 2 ≤ lv)   (C : Cx X cX11_opens RX11 G l A lv 2 none none D')  : ∀ (l1 : Int32) (D : Dt), F_X11_opens_b12 a1 l1 D = some D' → J X (Rep G D) 12 [(0, .ref (ad G (11, 0, 0, 0))), (1, .int l1)] [] := by
  intro l1 D h
  unfold F_X11_opens_b12 at h
  refine j_aload_n C 0 dX11_opens_12 rfl rfl ?_
  refine j_getI C fl_X11_239 dX11_opens_13 (by decide) ⟨rfl, rfl⟩ rfl ?_
  refine j_bipush C (10 : Int32) (by decide) dX11_opens_16 ?_
  refine j_icmp_ne C 30 dX11_opens_18 (by decide) (fun c2 => ?_) (fun c2 => ?_)
  · have h := ite_f c2 h
    refine T_X11_opens_b30 hG hlv  C  l1 D h
  · have h := ite_t c2 h
    refine j_aload_n C 0 dX11_opens_21 rfl rfl ?_
    refine j_iconst C (2 : Int32) (by decide) dX11_opens_22 ?_
    refine j_aload_n C 0 dX11_opens_23 rfl rfl ?_
    refine j_getI C fl_X11_168 dX11_opens_24 (by decide) ⟨rfl, rfl⟩ rfl ?_
    obtain ⟨D8, h7, h⟩ := vbd_x h
    refine j_callV C [.int (2 : Int32), .int (D.1 (11, 0, 0, 0) 20)] [] cl_X11_204 (M_X11_fails (lv := lv - 1) hG (by omega) h7) (by omega) dX11_opens_27 (by decide) ⟨rfl, rfl⟩ rfl rfl (Nat.le_of_ble_eq_true rfl) ?_
    refine j_st (st' := []) rfl ?_
    refine T_X11_opens_b30 hG hlv  C  l1 D8 h
def F_X11_opens (a1 : Int32) (D : Dt) : Option Dt := (if a1 = (9 : Int32) then (F_X11_opens_b12 a1 a1 D) else (if a1 = (12 : Int32) then (F_X11_opens_b12 a1 a1 D) else (F_X11_opens_b40 a1 a1 D)))
set_option maxRecDepth 100000 in
set_option maxHeartbeats 4000000 in
theorem M_X11_opens {l : Launch} {G : Gt} {A : Nat → Prop} {lv : Nat} {a1 : Int32} {D : Dt} {D' : Dt} (hG : Gok G A) (hlv : 2 ≤ lv)  (h : F_X11_opens a1 D = some D') : MD l G A lv yX11_opens cX11_opens 2 none [.ref (ad G (11, 0, 0, 0)), .int a1] D none D' := by
  unfold F_X11_opens at h
  refine md_start RX11 hG (by decide +kernel) rfl (Nat.le_of_ble_eq_true rfl) (L := [(0, .ref (ad G (11, 0, 0, 0))), (1, .int a1)]) rfl (fun X C => ?_)
  refine j_iload_n C 1 dX11_opens_0 rfl rfl ?_
  refine j_bipush C (9 : Int32) (by decide) dX11_opens_1 ?_
  refine j_icmp_eq C 12 dX11_opens_3 (by decide) (fun c1 => ?_) (fun c1 => ?_)
  · have h := ite_t c1 h
    refine T_X11_opens_b12 hG hlv  C  a1 D h
  · have h := ite_f c1 h
    refine j_iload_n C 1 dX11_opens_6 rfl rfl ?_
    refine j_bipush C (12 : Int32) (by decide) dX11_opens_7 ?_
    refine j_icmp_ne C 40 dX11_opens_9 (by decide) (fun c9 => ?_) (fun c9 => ?_)
    · have h := ite_f c9 h
      refine T_X11_opens_b40 hG hlv  C  a1 D h
    · have h := ite_t c9 h
      refine T_X11_opens_b12 hG hlv  C  a1 D h
def F_X11_answers_b47 (a1 : Int32) (k0 : Int32 → Dt → Option Dt) (l1 : Int32) (s1 : Int32) (s2 : Int32) (D : Dt) : Option Dt := (bnd (setI D (11, 0, 0, 0) 25 (s1 - s2)) (fun D10 => (k0 l1 D10)))
set_option maxRecDepth 100000 in
set_option maxHeartbeats 4000000 in
theorem T_X11_answers_b47 {D' : Dt} {X : Ctx} {l : Launch} {G : Gt} {A : Nat → Prop} {lv : Nat} {a1 : Int32}  {k0 : Int32 → Dt → Option Dt} (hG : Gok G A) (hlv : 2 ≤ lv)   (C : Cx X cX11_answers RX11 G l A lv 2 none none D') (hk0 : ∀ (l1 : Int32) (D : Dt), k0 l1 D = some D' → J X (Rep G D) 0 [(0, .ref (ad G (11, 0, 0, 0))), (1, .int l1)] []) : ∀ (l1 : Int32) (s1 : Int32) (s2 : Int32) (D : Dt), F_X11_answers_b47 a1 k0 l1 s1 s2 D = some D' → J X (Rep G D) 47 [(0, .ref (ad G (11, 0, 0, 0))), (1, .int l1)] [.int s2, .int s1, .ref (ad G (11, 0, 0, 0))] := by
  intro l1 s1 s2 D h
  unfold F_X11_answers_b47 at h
  refine j_isub C dX11_answers_47 ?_
  obtain ⟨D10, eD10, h⟩ := bnd_x h
  refine j_putI C fl_X11_239 dX11_answers_48 (by decide) ⟨rfl, rfl⟩ rfl rfl rfl ?_
  refine j_rep eD10 ?_
  refine j_goto C 0 dX11_answers_51 (by decide) ?_
  exact hk0 l1 D10 h
def F_X11_answers_b0 (a1 : Int32)  : Nat → Int32 → Dt → Option Dt
  | 0, _, _ => none
  | f + 1, l1, D => (cbd (F_X11_top  D) (fun r2 D3 => (if r2 = l1 then (if (D3.1 (11, 0, 0, 0) 21) = 0 then (vbd (F_X11_entry l1 (0 : Int32) D3) (fun D7 => (bnd (setI D7 (11, 0, 0, 0) 27 ((D7.1 (11, 0, 0, 0) 27) - (1 : Int32))) (fun D8 => (if l1 = (9 : Int32) then (F_X11_answers_b47 a1 (fun l1_13 D14 => (F_X11_answers_b0 a1 f l1_13 D14)) l1 (D8.1 (11, 0, 0, 0) 25) (1 : Int32) D8) else (F_X11_answers_b47 a1 (fun l1_11 D12 => (F_X11_answers_b0 a1 f l1_11 D12)) l1 (D8.1 (11, 0, 0, 0) 25) (0 : Int32) D8)))))) else (some D3)) else (some D3))))
set_option maxRecDepth 100000 in
set_option maxHeartbeats 4000000 in
theorem T_X11_answers_b0 {D' : Dt} {X : Ctx} {l : Launch} {G : Gt} {A : Nat → Prop} {lv : Nat} {a1 : Int32}   (hG : Gok G A) (hlv : 2 ≤ lv)   (C : Cx X cX11_answers RX11 G l A lv 2 none none D')  : ∀ (f : Nat) (l1 : Int32) (D : Dt), F_X11_answers_b0 a1 f l1 D = some D' → J X (Rep G D) 0 [(0, .ref (ad G (11, 0, 0, 0))), (1, .int l1)] [] := by
  intro f
  induction f with
  | zero =>
    intro l1 D h
    exact nomatch h
  | succ f ih =>
    intro l1 D h
    rw [F_X11_answers_b0] at h
    refine j_aload_n C 0 dX11_answers_0 rfl rfl ?_
    obtain ⟨r2, D3, h1, h⟩ := cbd_x h
    refine j_callV C [] [] cl_X11_242 (M_X11_top (lv := lv - 1) hG (by omega) h1) (by omega) dX11_answers_1 (by decide) ⟨rfl, rfl⟩ rfl rfl (Nat.le_of_ble_eq_true rfl) ?_
    refine j_st (st' := [.int r2]) rfl ?_
    refine j_iload_n C 1 dX11_answers_4 rfl rfl ?_
    refine j_icmp_ne C 54 dX11_answers_5 (by decide) (fun c4 => ?_) (fun c4 => ?_)
    · have h := ite_f c4 h
      obtain rfl := Option.some.inj h
      exact j_vret C dX11_answers_54
    · have h := ite_t c4 h
      refine j_aload_n C 0 dX11_answers_8 rfl rfl ?_
      refine j_getI C fl_X11_165 dX11_answers_9 (by decide) ⟨rfl, rfl⟩ rfl ?_
      refine j_if_ne C 54 dX11_answers_12 (by decide) (fun c5 => ?_) (fun c5 => ?_)
      · have h := ite_f c5 h
        obtain rfl := Option.some.inj h
        exact j_vret C dX11_answers_54
      · have h := ite_t c5 h
        refine j_aload_n C 0 dX11_answers_15 rfl rfl ?_
        refine j_iload_n C 1 dX11_answers_16 rfl rfl ?_
        refine j_iconst C (0 : Int32) (by decide) dX11_answers_17 ?_
        obtain ⟨D7, h6, h⟩ := vbd_x h
        refine j_callV C [.int l1, .int (0 : Int32)] [] cl_X11_220 (M_X11_entry (lv := lv - 1) hG (by omega) h6) (by omega) dX11_answers_18 (by decide) ⟨rfl, rfl⟩ rfl rfl (Nat.le_of_ble_eq_true rfl) ?_
        refine j_st (st' := []) rfl ?_
        refine j_aload_n C 0 dX11_answers_21 rfl rfl ?_
        refine j_dup C rfl dX11_answers_22 ?_
        refine j_getI C fl_X11_236 dX11_answers_23 (by decide) ⟨rfl, rfl⟩ rfl ?_
        refine j_iconst C (1 : Int32) (by decide) dX11_answers_26 ?_
        refine j_isub C dX11_answers_27 ?_
        obtain ⟨D8, eD8, h⟩ := bnd_x h
        refine j_putI C fl_X11_236 dX11_answers_28 (by decide) ⟨rfl, rfl⟩ rfl rfl rfl ?_
        refine j_rep eD8 ?_
        refine j_aload_n C 0 dX11_answers_31 rfl rfl ?_
        refine j_dup C rfl dX11_answers_32 ?_
        refine j_getI C fl_X11_239 dX11_answers_33 (by decide) ⟨rfl, rfl⟩ rfl ?_
        refine j_iload_n C 1 dX11_answers_36 rfl rfl ?_
        refine j_bipush C (9 : Int32) (by decide) dX11_answers_37 ?_
        refine j_icmp_ne C 46 dX11_answers_39 (by decide) (fun c9 => ?_) (fun c9 => ?_)
        · have h := ite_f c9 h
          refine j_iconst C (0 : Int32) (by decide) dX11_answers_46 ?_
          refine T_X11_answers_b47 hG hlv  C (fun l1_11 D12 h => ?_) l1 (D8.1 (11, 0, 0, 0) 25) (0 : Int32) D8 h
          · exact ih l1_11 D12 h
        · have h := ite_t c9 h
          refine j_iconst C (1 : Int32) (by decide) dX11_answers_42 ?_
          refine j_goto C 47 dX11_answers_43 (by decide) ?_
          refine T_X11_answers_b47 hG hlv  C (fun l1_13 D14 h => ?_) l1 (D8.1 (11, 0, 0, 0) 25) (1 : Int32) D8 h
          · exact ih l1_13 D14 h
def F_X11_answers (a1 : Int32) (D : Dt) : Option Dt := (F_X11_answers_b0 a1 2000 a1 D)
set_option maxRecDepth 100000 in
set_option maxHeartbeats 4000000 in
theorem M_X11_answers {l : Launch} {G : Gt} {A : Nat → Prop} {lv : Nat} {a1 : Int32} {D : Dt} {D' : Dt} (hG : Gok G A) (hlv : 2 ≤ lv)  (h : F_X11_answers a1 D = some D') : MD l G A lv yX11_answers cX11_answers 2 none [.ref (ad G (11, 0, 0, 0)), .int a1] D none D' := by
  unfold F_X11_answers at h
  refine md_start RX11 hG (by decide +kernel) rfl (Nat.le_of_ble_eq_true rfl) (L := [(0, .ref (ad G (11, 0, 0, 0))), (1, .int a1)]) rfl (fun X C => ?_)
  refine T_X11_answers_b0 hG hlv  C  2000 a1 D h
def F_X11_fact  (D : Dt) : Option (Int32 × Dt) := (vbd (F_X11_blanks  D) (fun D2 => (cbd (F_X11_stood 17 D2) (fun r4 D5 => (if r4 = 0 then (cbd (F_X11_sign  D5) (fun r8 D9 => (if r8 = (91 : Int32) then (vbd (F_X11_opens (12 : Int32) D9) (fun D14 => (bnd (setI D14 (11, 0, 0, 0) 20 ((D14.1 (11, 0, 0, 0) 20) + (1 : Int32))) (fun D15 => (some ((0 : Int32), D15)))))) else (vbd (F_X11_compared  D9) (fun D12 => (some ((1 : Int32), D12))))))) else (vbd (F_X11_opens (9 : Int32) D5) (fun D17 => (bnd (setI D17 (11, 0, 0, 0) 20 ((D17.1 (11, 0, 0, 0) 20) + (3 : Int32))) (fun D18 => (some ((0 : Int32), D18)))))))))))
set_option maxRecDepth 100000 in
set_option maxHeartbeats 4000000 in
theorem M_X11_fact {l : Launch} {G : Gt} {A : Nat → Prop} {lv : Nat}  {D : Dt} {r : Int32} {D' : Dt} (hG : Gok G A) (hlv : 13 ≤ lv)  (h : F_X11_fact  D = some (r, D')) : MD l G A lv yX11_fact cX11_fact 1 (some .boolean) [.ref (ad G (11, 0, 0, 0))] D (some (.int r)) D' := by
  unfold F_X11_fact at h
  refine md_start RX11 hG (by decide +kernel) rfl (Nat.le_of_ble_eq_true rfl) (L := [(0, .ref (ad G (11, 0, 0, 0)))]) rfl (fun X C => ?_)
  refine j_aload_n C 0 dX11_fact_0 rfl rfl ?_
  obtain ⟨D2, h1, h⟩ := vbd_x h
  refine j_callV C [] [] cl_X11_188 (M_X11_blanks (lv := lv - 1) hG (by omega) h1) (by omega) dX11_fact_1 (by decide) ⟨rfl, rfl⟩ rfl rfl (Nat.le_of_ble_eq_true rfl) ?_
  refine j_st (st' := []) rfl ?_
  refine j_aload_n C 0 dX11_fact_4 rfl rfl ?_
  refine j_ldcS C 17 rfl dX11_fact_5 ?_
  obtain ⟨r4, D5, h3, h⟩ := cbd_x h
  refine j_callV C [.ref (sK G 17)] [] cl_X11_191 (M_X11_stood (lv := lv - 1) hG (by omega) h3) (by omega) dX11_fact_7 (by decide) ⟨rfl, rfl⟩ rfl rfl (Nat.le_of_ble_eq_true rfl) ?_
  refine j_st (st' := [.int r4]) rfl ?_
  refine j_if_eq C 31 dX11_fact_10 (by decide) (fun c6 => ?_) (fun c6 => ?_)
  · have h := ite_t c6 h
    refine j_aload_n C 0 dX11_fact_31 rfl rfl ?_
    obtain ⟨r8, D9, h7, h⟩ := cbd_x h
    refine j_callV C [] [] cl_X11_171 (M_X11_sign (lv := lv - 1) hG (by omega) h7) (by omega) dX11_fact_32 (by decide) ⟨rfl, rfl⟩ rfl rfl (Nat.le_of_ble_eq_true rfl) ?_
    refine j_st (st' := [.int r8]) rfl ?_
    refine j_bipush C (91 : Int32) (by decide) dX11_fact_35 ?_
    refine j_icmp_ne C 58 dX11_fact_37 (by decide) (fun c10 => ?_) (fun c10 => ?_)
    · have h := ite_f c10 h
      refine j_aload_n C 0 dX11_fact_58 rfl rfl ?_
      obtain ⟨D12, h11, h⟩ := vbd_x h
      refine j_callV C [] [] cl_X11_250 (M_X11_compared (lv := lv - 1) hG (by omega) h11) (by omega) dX11_fact_59 (by decide) ⟨rfl, rfl⟩ rfl rfl (Nat.le_of_ble_eq_true rfl) ?_
      refine j_st (st' := []) rfl ?_
      refine j_iconst C (1 : Int32) (by decide) dX11_fact_62 ?_
      obtain ⟨rfl, rfl⟩ := pr_x h
      exact j_zret C (Or.inr rfl) dX11_fact_63
    · have h := ite_t c10 h
      refine j_aload_n C 0 dX11_fact_40 rfl rfl ?_
      refine j_bipush C (12 : Int32) (by decide) dX11_fact_41 ?_
      obtain ⟨D14, h13, h⟩ := vbd_x h
      refine j_callV C [.int (12 : Int32)] [] cl_X11_247 (M_X11_opens (lv := lv - 1) hG (by omega) h13) (by omega) dX11_fact_43 (by decide) ⟨rfl, rfl⟩ rfl rfl (Nat.le_of_ble_eq_true rfl) ?_
      refine j_st (st' := []) rfl ?_
      refine j_aload_n C 0 dX11_fact_46 rfl rfl ?_
      refine j_dup C rfl dX11_fact_47 ?_
      refine j_getI C fl_X11_168 dX11_fact_48 (by decide) ⟨rfl, rfl⟩ rfl ?_
      refine j_iconst C (1 : Int32) (by decide) dX11_fact_51 ?_
      refine j_iadd C dX11_fact_52 ?_
      obtain ⟨D15, eD15, h⟩ := bnd_x h
      refine j_putI C fl_X11_168 dX11_fact_53 (by decide) ⟨rfl, rfl⟩ rfl rfl rfl ?_
      refine j_rep eD15 ?_
      refine j_iconst C (0 : Int32) (by decide) dX11_fact_56 ?_
      obtain ⟨rfl, rfl⟩ := pr_x h
      exact j_zret C (Or.inl rfl) dX11_fact_57
  · have h := ite_f c6 h
    refine j_aload_n C 0 dX11_fact_13 rfl rfl ?_
    refine j_bipush C (9 : Int32) (by decide) dX11_fact_14 ?_
    obtain ⟨D17, h16, h⟩ := vbd_x h
    refine j_callV C [.int (9 : Int32)] [] cl_X11_247 (M_X11_opens (lv := lv - 1) hG (by omega) h16) (by omega) dX11_fact_16 (by decide) ⟨rfl, rfl⟩ rfl rfl (Nat.le_of_ble_eq_true rfl) ?_
    refine j_st (st' := []) rfl ?_
    refine j_aload_n C 0 dX11_fact_19 rfl rfl ?_
    refine j_dup C rfl dX11_fact_20 ?_
    refine j_getI C fl_X11_168 dX11_fact_21 (by decide) ⟨rfl, rfl⟩ rfl ?_
    refine j_iconst C (3 : Int32) (by decide) dX11_fact_24 ?_
    refine j_iadd C dX11_fact_25 ?_
    obtain ⟨D18, eD18, h⟩ := bnd_x h
    refine j_putI C fl_X11_168 dX11_fact_26 (by decide) ⟨rfl, rfl⟩ rfl rfl rfl ?_
    refine j_rep eD18 ?_
    refine j_iconst C (0 : Int32) (by decide) dX11_fact_29 ?_
    obtain ⟨rfl, rfl⟩ := pr_x h
    exact j_zret C (Or.inl rfl) dX11_fact_30
def F_X11_test_b199  (k9 : Int32 → Int32 → Dt → Option Dt) (l1 : Int32) (l2 : Int32) (D : Dt) : Option Dt := (k9 l1 l2 D)
set_option maxRecDepth 100000 in
set_option maxHeartbeats 4000000 in
theorem T_X11_test_b199 {D' : Dt} {X : Ctx} {l : Launch} {G : Gt} {A : Nat → Prop} {lv : Nat}   {k9 : Int32 → Int32 → Dt → Option Dt} (hG : Gok G A) (hlv : 14 ≤ lv)   (C : Cx X cX11_test RX11 G l A lv 5 none none D') (hk9 : ∀ (l1 : Int32) (l2 : Int32) (D : Dt), k9 l1 l2 D = some D' → J X (Rep G D) 9 [(0, .ref (ad G (11, 0, 0, 0))), (1, .int l1), (2, .int l2)] []) : ∀ (l1 : Int32) (l2 : Int32) (D : Dt), F_X11_test_b199 k9 l1 l2 D = some D' → J X (Rep G D) 199 [(0, .ref (ad G (11, 0, 0, 0))), (1, .int l1), (2, .int l2)] [] := by
  intro l1 l2 D h
  unfold F_X11_test_b199 at h
  refine j_goto C 9 dX11_test_199 (by decide) ?_
  exact hk9 l1 l2 D h
def F_X11_test_b122  (k9 : Int32 → Int32 → Dt → Option Dt) (l2 : Int32) (s1 : Int32) (s2 : Int32) (D : Dt) : Option Dt := (bnd (setI D (11, 0, 0, 0) 20 (s1 + s2)) (fun D23 => (F_X11_test_b199 (fun l1_24 l2_25 D26 => (k9 l1_24 l2_25 D26)) (1 : Int32) l2 D23)))
set_option maxRecDepth 100000 in
set_option maxHeartbeats 4000000 in
theorem T_X11_test_b122 {D' : Dt} {X : Ctx} {l : Launch} {G : Gt} {A : Nat → Prop} {lv : Nat}   {k9 : Int32 → Int32 → Dt → Option Dt} (hG : Gok G A) (hlv : 14 ≤ lv)   (C : Cx X cX11_test RX11 G l A lv 5 none none D') (hk9 : ∀ (l1 : Int32) (l2 : Int32) (D : Dt), k9 l1 l2 D = some D' → J X (Rep G D) 9 [(0, .ref (ad G (11, 0, 0, 0))), (1, .int l1), (2, .int l2)] []) : ∀ (l2 : Int32) (s1 : Int32) (s2 : Int32) (D : Dt), F_X11_test_b122 k9 l2 s1 s2 D = some D' → J X (Rep G D) 122 [(0, .ref (ad G (11, 0, 0, 0))), (2, .int l2)] [.int s2, .int s1, .ref (ad G (11, 0, 0, 0))] := by
  intro l2 s1 s2 D h
  unfold F_X11_test_b122 at h
  refine j_iadd C dX11_test_122 ?_
  obtain ⟨D23, eD23, h⟩ := bnd_x h
  refine j_putI C fl_X11_168 dX11_test_123 (by decide) ⟨rfl, rfl⟩ rfl rfl rfl ?_
  refine j_rep eD23 ?_
  refine j_iconst C (1 : Int32) (by decide) dX11_test_126 ?_
  refine j_istore_n C [(1, .int (1 : Int32)), (0, .ref (ad G (11, 0, 0, 0))), (2, .int l2)] dX11_test_127 rfl (Nat.le_of_ble_eq_true rfl) rfl rfl ?_
  refine j_goto C 199 dX11_test_128 (by decide) ?_
  refine j_sub [1, 0, 2] [(0, .ref (ad G (11, 0, 0, 0))), (1, .int (1 : Int32)), (2, .int l2)] rfl ?_
  refine T_X11_test_b199 hG hlv  C (fun l1_24 l2_25 D26 h => ?_) (1 : Int32) l2 D23 h
  · exact hk9 l1_24 l2_25 D26 h
def F_X11_test_b105  (k9 : Int32 → Int32 → Dt → Option Dt) (l2 : Int32) (l3 : Int32) (s1 : Int32) (D : Dt) : Option Dt := (vbd (F_X11_opens s1 D) (fun D21 => (if l3 = 0 then (F_X11_test_b122 (fun l1_27 l2_28 D29 => (k9 l1_27 l2_28 D29)) l2 (D21.1 (11, 0, 0, 0) 20) (2 : Int32) D21) else (F_X11_test_b122 (fun l1_30 l2_31 D32 => (k9 l1_30 l2_31 D32)) l2 (D21.1 (11, 0, 0, 0) 20) (3 : Int32) D21))))
set_option maxRecDepth 100000 in
set_option maxHeartbeats 4000000 in
theorem T_X11_test_b105 {D' : Dt} {X : Ctx} {l : Launch} {G : Gt} {A : Nat → Prop} {lv : Nat}   {k9 : Int32 → Int32 → Dt → Option Dt} (hG : Gok G A) (hlv : 14 ≤ lv)   (C : Cx X cX11_test RX11 G l A lv 5 none none D') (hk9 : ∀ (l1 : Int32) (l2 : Int32) (D : Dt), k9 l1 l2 D = some D' → J X (Rep G D) 9 [(0, .ref (ad G (11, 0, 0, 0))), (1, .int l1), (2, .int l2)] []) : ∀ (l2 : Int32) (l3 : Int32) (s1 : Int32) (D : Dt), F_X11_test_b105 k9 l2 l3 s1 D = some D' → J X (Rep G D) 105 [(0, .ref (ad G (11, 0, 0, 0))), (2, .int l2), (3, .int l3)] [.int s1, .ref (ad G (11, 0, 0, 0))] := by
  intro l2 l3 s1 D h
  unfold F_X11_test_b105 at h
  obtain ⟨D21, h20, h⟩ := vbd_x h
  refine j_callV C [.int s1] [] cl_X11_247 (M_X11_opens (lv := lv - 1) hG (by omega) h20) (by omega) dX11_test_105 (by decide) ⟨rfl, rfl⟩ rfl rfl (Nat.le_of_ble_eq_true rfl) ?_
  refine j_st (st' := []) rfl ?_
  refine j_aload_n C 0 dX11_test_108 rfl rfl ?_
  refine j_dup C rfl dX11_test_109 ?_
  refine j_getI C fl_X11_168 dX11_test_110 (by decide) ⟨rfl, rfl⟩ rfl ?_
  refine j_iload_n C 2 dX11_test_113 rfl rfl ?_
  refine j_if_eq C 121 dX11_test_114 (by decide) (fun c22 => ?_) (fun c22 => ?_)
  · have h := ite_t c22 h
    refine j_iconst C (2 : Int32) (by decide) dX11_test_121 ?_
    refine j_sub [0, 1] [(0, .ref (ad G (11, 0, 0, 0))), (2, .int l2)] rfl ?_
    refine T_X11_test_b122 hG hlv  C (fun l1_27 l2_28 D29 h => ?_) l2 (D21.1 (11, 0, 0, 0) 20) (2 : Int32) D21 h
    · exact hk9 l1_27 l2_28 D29 h
  · have h := ite_f c22 h
    refine j_iconst C (3 : Int32) (by decide) dX11_test_117 ?_
    refine j_goto C 122 dX11_test_118 (by decide) ?_
    refine j_sub [0, 1] [(0, .ref (ad G (11, 0, 0, 0))), (2, .int l2)] rfl ?_
    refine T_X11_test_b122 hG hlv  C (fun l1_30 l2_31 D32 h => ?_) l2 (D21.1 (11, 0, 0, 0) 20) (3 : Int32) D21 h
    · exact hk9 l1_30 l2_31 D32 h
def F_X11_test_b93  (k9 : Int32 → Int32 → Dt → Option Dt) (l2 : Int32) (l3 : Int32) (D : Dt) : Option Dt := (if l3 = 0 then (F_X11_test_b105 (fun l1_33 l2_34 D35 => (k9 l1_33 l2_34 D35)) l2 l3 (11 : Int32) D) else (F_X11_test_b105 (fun l1_36 l2_37 D38 => (k9 l1_36 l2_37 D38)) l2 l3 (10 : Int32) D))
set_option maxRecDepth 100000 in
set_option maxHeartbeats 4000000 in
theorem T_X11_test_b93 {D' : Dt} {X : Ctx} {l : Launch} {G : Gt} {A : Nat → Prop} {lv : Nat}   {k9 : Int32 → Int32 → Dt → Option Dt} (hG : Gok G A) (hlv : 14 ≤ lv)   (C : Cx X cX11_test RX11 G l A lv 5 none none D') (hk9 : ∀ (l1 : Int32) (l2 : Int32) (D : Dt), k9 l1 l2 D = some D' → J X (Rep G D) 9 [(0, .ref (ad G (11, 0, 0, 0))), (1, .int l1), (2, .int l2)] []) : ∀ (l2 : Int32) (l3 : Int32) (D : Dt), F_X11_test_b93 k9 l2 l3 D = some D' → J X (Rep G D) 93 [(0, .ref (ad G (11, 0, 0, 0))), (2, .int l2), (3, .int l3)] [] := by
  intro l2 l3 D h
  unfold F_X11_test_b93 at h
  refine j_aload_n C 0 dX11_test_93 rfl rfl ?_
  refine j_iload_n C 2 dX11_test_94 rfl rfl ?_
  refine j_if_eq C 103 dX11_test_95 (by decide) (fun c19 => ?_) (fun c19 => ?_)
  · have h := ite_t c19 h
    refine j_bipush C (11 : Int32) (by decide) dX11_test_103 ?_
    refine T_X11_test_b105 hG hlv  C (fun l1_33 l2_34 D35 h => ?_) l2 l3 (11 : Int32) D h
    · exact hk9 l1_33 l2_34 D35 h
  · have h := ite_f c19 h
    refine j_bipush C (10 : Int32) (by decide) dX11_test_98 ?_
    refine j_goto C 105 dX11_test_100 (by decide) ?_
    refine T_X11_test_b105 hG hlv  C (fun l1_36 l2_37 D38 h => ?_) l2 l3 (10 : Int32) D h
    · exact hk9 l1_36 l2_37 D38 h
def F_X11_test_b82  (k9 : Int32 → Int32 → Dt → Option Dt) (l2 : Int32) (l3 : Int32) (l4 : Int32) (D : Dt) : Option Dt := (if l4 = 0 then (F_X11_test_b93 (fun l1_39 l2_40 D41 => (k9 l1_39 l2_40 D41)) l2 l3 D) else (vbd (F_X11_answers (11 : Int32) D) (fun D43 => (F_X11_test_b93 (fun l1_44 l2_45 D46 => (k9 l1_44 l2_45 D46)) l2 l3 D43))))
set_option maxRecDepth 100000 in
set_option maxHeartbeats 4000000 in
theorem T_X11_test_b82 {D' : Dt} {X : Ctx} {l : Launch} {G : Gt} {A : Nat → Prop} {lv : Nat}   {k9 : Int32 → Int32 → Dt → Option Dt} (hG : Gok G A) (hlv : 14 ≤ lv)   (C : Cx X cX11_test RX11 G l A lv 5 none none D') (hk9 : ∀ (l1 : Int32) (l2 : Int32) (D : Dt), k9 l1 l2 D = some D' → J X (Rep G D) 9 [(0, .ref (ad G (11, 0, 0, 0))), (1, .int l1), (2, .int l2)] []) : ∀ (l2 : Int32) (l3 : Int32) (l4 : Int32) (D : Dt), F_X11_test_b82 k9 l2 l3 l4 D = some D' → J X (Rep G D) 82 [(0, .ref (ad G (11, 0, 0, 0))), (2, .int l2), (3, .int l3), (4, .int l4)] [] := by
  intro l2 l3 l4 D h
  unfold F_X11_test_b82 at h
  refine j_iload C 3 dX11_test_82 rfl ?_
  refine j_if_eq C 93 dX11_test_84 (by decide) (fun c18 => ?_) (fun c18 => ?_)
  · have h := ite_t c18 h
    refine j_sub [0, 1, 2] [(0, .ref (ad G (11, 0, 0, 0))), (2, .int l2), (3, .int l3)] rfl ?_
    refine T_X11_test_b93 hG hlv  C (fun l1_39 l2_40 D41 h => ?_) l2 l3 D h
    · exact hk9 l1_39 l2_40 D41 h
  · have h := ite_f c18 h
    refine j_aload_n C 0 dX11_test_87 rfl rfl ?_
    refine j_bipush C (11 : Int32) (by decide) dX11_test_88 ?_
    obtain ⟨D43, h42, h⟩ := vbd_x h
    refine j_callV C [.int (11 : Int32)] [] cl_X11_256 (M_X11_answers (lv := lv - 1) hG (by omega) h42) (by omega) dX11_test_90 (by decide) ⟨rfl, rfl⟩ rfl rfl (Nat.le_of_ble_eq_true rfl) ?_
    refine j_st (st' := []) rfl ?_
    refine j_sub [0, 1, 2] [(0, .ref (ad G (11, 0, 0, 0))), (2, .int l2), (3, .int l3)] rfl ?_
    refine T_X11_test_b93 hG hlv  C (fun l1_44 l2_45 D46 h => ?_) l2 l3 D43 h
    · exact hk9 l1_44 l2_45 D46 h
def F_X11_test_b164  (k9 : Int32 → Int32 → Dt → Option Dt) (l1 : Int32) (l2 : Int32) (D : Dt) : Option Dt := (bnd (setI D (11, 0, 0, 0) 20 ((D.1 (11, 0, 0, 0) 20) + (1 : Int32))) (fun D64 => (bnd (setI D64 (11, 0, 0, 0) 27 ((D64.1 (11, 0, 0, 0) 27) - (1 : Int32))) (fun D65 => (bnd (setI D65 (11, 0, 0, 0) 25 ((D65.1 (11, 0, 0, 0) 25) - (1 : Int32))) (fun D66 => (F_X11_test_b199 (fun l1_67 l2_68 D69 => (k9 l1_67 l2_68 D69)) l1 l2 D66)))))))
set_option maxRecDepth 100000 in
set_option maxHeartbeats 4000000 in
theorem T_X11_test_b164 {D' : Dt} {X : Ctx} {l : Launch} {G : Gt} {A : Nat → Prop} {lv : Nat}   {k9 : Int32 → Int32 → Dt → Option Dt} (hG : Gok G A) (hlv : 14 ≤ lv)   (C : Cx X cX11_test RX11 G l A lv 5 none none D') (hk9 : ∀ (l1 : Int32) (l2 : Int32) (D : Dt), k9 l1 l2 D = some D' → J X (Rep G D) 9 [(0, .ref (ad G (11, 0, 0, 0))), (1, .int l1), (2, .int l2)] []) : ∀ (l1 : Int32) (l2 : Int32) (D : Dt), F_X11_test_b164 k9 l1 l2 D = some D' → J X (Rep G D) 164 [(0, .ref (ad G (11, 0, 0, 0))), (1, .int l1), (2, .int l2)] [] := by
  intro l1 l2 D h
  unfold F_X11_test_b164 at h
  refine j_aload_n C 0 dX11_test_164 rfl rfl ?_
  refine j_dup C rfl dX11_test_165 ?_
  refine j_getI C fl_X11_168 dX11_test_166 (by decide) ⟨rfl, rfl⟩ rfl ?_
  refine j_iconst C (1 : Int32) (by decide) dX11_test_169 ?_
  refine j_iadd C dX11_test_170 ?_
  obtain ⟨D64, eD64, h⟩ := bnd_x h
  refine j_putI C fl_X11_168 dX11_test_171 (by decide) ⟨rfl, rfl⟩ rfl rfl rfl ?_
  refine j_rep eD64 ?_
  refine j_aload_n C 0 dX11_test_174 rfl rfl ?_
  refine j_dup C rfl dX11_test_175 ?_
  refine j_getI C fl_X11_236 dX11_test_176 (by decide) ⟨rfl, rfl⟩ rfl ?_
  refine j_iconst C (1 : Int32) (by decide) dX11_test_179 ?_
  refine j_isub C dX11_test_180 ?_
  obtain ⟨D65, eD65, h⟩ := bnd_x h
  refine j_putI C fl_X11_236 dX11_test_181 (by decide) ⟨rfl, rfl⟩ rfl rfl rfl ?_
  refine j_rep eD65 ?_
  refine j_aload_n C 0 dX11_test_184 rfl rfl ?_
  refine j_dup C rfl dX11_test_185 ?_
  refine j_getI C fl_X11_239 dX11_test_186 (by decide) ⟨rfl, rfl⟩ rfl ?_
  refine j_iconst C (1 : Int32) (by decide) dX11_test_189 ?_
  refine j_isub C dX11_test_190 ?_
  obtain ⟨D66, eD66, h⟩ := bnd_x h
  refine j_putI C fl_X11_239 dX11_test_191 (by decide) ⟨rfl, rfl⟩ rfl rfl rfl ?_
  refine j_rep eD66 ?_
  refine j_goto C 199 dX11_test_194 (by decide) ?_
  refine T_X11_test_b199 hG hlv  C (fun l1_67 l2_68 D69 h => ?_) l1 l2 D66 h
  · exact hk9 l1_67 l2_68 D69 h
def F_X11_test_b36  (k9 : Int32 → Int32 → Dt → Option Dt) (l2 : Int32) (s0 : Int32) (D : Dt) : Option Dt := (k9 s0 l2 D)
set_option maxRecDepth 100000 in
set_option maxHeartbeats 4000000 in
theorem T_X11_test_b36 {D' : Dt} {X : Ctx} {l : Launch} {G : Gt} {A : Nat → Prop} {lv : Nat}   {k9 : Int32 → Int32 → Dt → Option Dt} (hG : Gok G A) (hlv : 14 ≤ lv)   (C : Cx X cX11_test RX11 G l A lv 5 none none D') (hk9 : ∀ (l1 : Int32) (l2 : Int32) (D : Dt), k9 l1 l2 D = some D' → J X (Rep G D) 9 [(0, .ref (ad G (11, 0, 0, 0))), (1, .int l1), (2, .int l2)] []) : ∀ (l2 : Int32) (s0 : Int32) (D : Dt), F_X11_test_b36 k9 l2 s0 D = some D' → J X (Rep G D) 36 [(0, .ref (ad G (11, 0, 0, 0))), (2, .int l2)] [.int s0] := by
  intro l2 s0 D h
  unfold F_X11_test_b36 at h
  refine j_istore_n C [(1, .int s0), (0, .ref (ad G (11, 0, 0, 0))), (2, .int l2)] dX11_test_36 rfl (Nat.le_of_ble_eq_true rfl) rfl rfl ?_
  refine j_goto C 9 dX11_test_37 (by decide) ?_
  refine j_sub [1, 0, 2] [(0, .ref (ad G (11, 0, 0, 0))), (1, .int s0), (2, .int l2)] rfl ?_
  exact hk9 s0 l2 D h
def F_X11_test_b9   : Nat → Int32 → Int32 → Dt → Option Dt
  | 0, _, _, _ => none
  | f + 1, l1, l2, D => (if l2 = 0 then (some D) else (if (D.1 (11, 0, 0, 0) 21) = 0 then (if l1 = 0 then (vbd (F_X11_answers (9 : Int32) D) (fun D6 => (vbd (F_X11_blanks  D6) (fun D8 => (cbd (F_X11_stood 18 D8) (fun r10 D11 => (cbd (F_X11_stood 19 D11) (fun r13 D14 => (vbd (F_X11_answers (10 : Int32) D14) (fun D16 => (if r10 = 0 then (if r13 = 0 then (vbd (F_X11_answers (11 : Int32) D16) (fun D52 => (cbd (F_X11_top  D52) (fun r54 D55 => (if r54 = (12 : Int32) then (cbd (F_X11_sign  D55) (fun r61 D62 => (if r61 = (93 : Int32) then (F_X11_test_b164 (fun l1_70 l2_71 D72 => (F_X11_test_b9  f l1_70 l2_71 D72)) l1 l2 D62) else (vbd (F_X11_fails (0 : Int32) (D62.1 (11, 0, 0, 0) 20) D62) (fun D74 => (F_X11_test_b164 (fun l1_75 l2_76 D77 => (F_X11_test_b9  f l1_75 l2_76 D77)) l1 l2 D74)))))) else (F_X11_test_b199 (fun l1_57 l2_58 D59 => (F_X11_test_b9  f l1_57 l2_58 D59)) l1 (0 : Int32) D55)))))) else (F_X11_test_b82 (fun l1_78 l2_79 D80 => (F_X11_test_b9  f l1_78 l2_79 D80)) l2 r10 r13 D16)) else (F_X11_test_b82 (fun l1_47 l2_48 D49 => (F_X11_test_b9  f l1_47 l2_48 D49)) l2 r10 r13 D16)))))))))))) else (cbd (F_X11_fact  D) (fun r82 D83 => (if r82 = 0 then (F_X11_test_b36 (fun l1_88 l2_89 D90 => (F_X11_test_b9  f l1_88 l2_89 D90)) l2 (1 : Int32) D83) else (F_X11_test_b36 (fun l1_85 l2_86 D87 => (F_X11_test_b9  f l1_85 l2_86 D87)) l2 (0 : Int32) D83))))) else (some D)))
set_option maxRecDepth 100000 in
set_option maxHeartbeats 4000000 in
theorem T_X11_test_b9 {D' : Dt} {X : Ctx} {l : Launch} {G : Gt} {A : Nat → Prop} {lv : Nat}    (hG : Gok G A) (hlv : 14 ≤ lv)   (C : Cx X cX11_test RX11 G l A lv 5 none none D')  : ∀ (f : Nat) (l1 : Int32) (l2 : Int32) (D : Dt), F_X11_test_b9  f l1 l2 D = some D' → J X (Rep G D) 9 [(0, .ref (ad G (11, 0, 0, 0))), (1, .int l1), (2, .int l2)] [] := by
  intro f
  induction f with
  | zero =>
    intro l1 l2 D h
    exact nomatch h
  | succ f ih =>
    intro l1 l2 D h
    rw [F_X11_test_b9] at h
    refine j_iload_n C 2 dX11_test_9 rfl rfl ?_
    refine j_if_eq C 202 dX11_test_10 (by decide) (fun c2 => ?_) (fun c2 => ?_)
    · have h := ite_t c2 h
      obtain rfl := Option.some.inj h
      exact j_vret C dX11_test_202
    · have h := ite_f c2 h
      refine j_aload_n C 0 dX11_test_13 rfl rfl ?_
      refine j_getI C fl_X11_165 dX11_test_14 (by decide) ⟨rfl, rfl⟩ rfl ?_
      refine j_if_ne C 202 dX11_test_17 (by decide) (fun c3 => ?_) (fun c3 => ?_)
      · have h := ite_f c3 h
        obtain rfl := Option.some.inj h
        exact j_vret C dX11_test_202
      · have h := ite_t c3 h
        refine j_iload_n C 1 dX11_test_20 rfl rfl ?_
        refine j_if_eq C 40 dX11_test_21 (by decide) (fun c4 => ?_) (fun c4 => ?_)
        · have h := ite_t c4 h
          refine j_aload_n C 0 dX11_test_40 rfl rfl ?_
          refine j_bipush C (9 : Int32) (by decide) dX11_test_41 ?_
          obtain ⟨D6, h5, h⟩ := vbd_x h
          refine j_callV C [.int (9 : Int32)] [] cl_X11_256 (M_X11_answers (lv := lv - 1) hG (by omega) h5) (by omega) dX11_test_43 (by decide) ⟨rfl, rfl⟩ rfl rfl (Nat.le_of_ble_eq_true rfl) ?_
          refine j_st (st' := []) rfl ?_
          refine j_aload_n C 0 dX11_test_46 rfl rfl ?_
          obtain ⟨D8, h7, h⟩ := vbd_x h
          refine j_callV C [] [] cl_X11_188 (M_X11_blanks (lv := lv - 1) hG (by omega) h7) (by omega) dX11_test_47 (by decide) ⟨rfl, rfl⟩ rfl rfl (Nat.le_of_ble_eq_true rfl) ?_
          refine j_st (st' := []) rfl ?_
          refine j_aload_n C 0 dX11_test_50 rfl rfl ?_
          refine j_ldcSw C 18 rfl dX11_test_51 ?_
          obtain ⟨r10, D11, h9, h⟩ := cbd_x h
          refine j_callV C [.ref (sK G 18)] [] cl_X11_191 (M_X11_stood (lv := lv - 1) hG (by omega) h9) (by omega) dX11_test_54 (by decide) ⟨rfl, rfl⟩ rfl rfl (Nat.le_of_ble_eq_true rfl) ?_
          refine j_st (st' := [.int r10]) rfl ?_
          refine j_istore_n C [(3, .int r10), (0, .ref (ad G (11, 0, 0, 0))), (1, .int l1), (2, .int l2)] dX11_test_57 rfl (Nat.le_of_ble_eq_true rfl) rfl rfl ?_
          refine j_aload_n C 1 dX11_test_58 rfl rfl ?_
          refine j_ldcSw C 19 rfl dX11_test_59 ?_
          obtain ⟨r13, D14, h12, h⟩ := cbd_x h
          refine j_callV C [.ref (sK G 19)] [] cl_X11_191 (M_X11_stood (lv := lv - 1) hG (by omega) h12) (by omega) dX11_test_62 (by decide) ⟨rfl, rfl⟩ rfl rfl (Nat.le_of_ble_eq_true rfl) ?_
          refine j_st (st' := [.int r13]) rfl ?_
          refine j_istore C [(4, .int r13), (3, .int r10), (0, .ref (ad G (11, 0, 0, 0))), (1, .int l1), (2, .int l2)] dX11_test_65 (Nat.le_of_ble_eq_true rfl) rfl rfl ?_
          refine j_aload_n C 2 dX11_test_67 rfl rfl ?_
          refine j_bipush C (10 : Int32) (by decide) dX11_test_68 ?_
          obtain ⟨D16, h15, h⟩ := vbd_x h
          refine j_callV C [.int (10 : Int32)] [] cl_X11_256 (M_X11_answers (lv := lv - 1) hG (by omega) h15) (by omega) dX11_test_70 (by decide) ⟨rfl, rfl⟩ rfl rfl (Nat.le_of_ble_eq_true rfl) ?_
          refine j_st (st' := []) rfl ?_
          refine j_iload_n C 1 dX11_test_73 rfl rfl ?_
          refine j_if_ne C 82 dX11_test_74 (by decide) (fun c17 => ?_) (fun c17 => ?_)
          · have h := ite_f c17 h
            refine j_sub [2, 4, 1, 0] [(0, .ref (ad G (11, 0, 0, 0))), (2, .int l2), (3, .int r10), (4, .int r13)] rfl ?_
            refine T_X11_test_b82 hG hlv  C (fun l1_47 l2_48 D49 h => ?_) l2 r10 r13 D16 h
            · exact ih l1_47 l2_48 D49 h
          · have h := ite_t c17 h
            refine j_iload C 0 dX11_test_77 rfl ?_
            refine j_if_eq C 131 dX11_test_79 (by decide) (fun c50 => ?_) (fun c50 => ?_)
            · have h := ite_t c50 h
              refine j_aload_n C 2 dX11_test_131 rfl rfl ?_
              refine j_bipush C (11 : Int32) (by decide) dX11_test_132 ?_
              obtain ⟨D52, h51, h⟩ := vbd_x h
              refine j_callV C [.int (11 : Int32)] [] cl_X11_256 (M_X11_answers (lv := lv - 1) hG (by omega) h51) (by omega) dX11_test_134 (by decide) ⟨rfl, rfl⟩ rfl rfl (Nat.le_of_ble_eq_true rfl) ?_
              refine j_st (st' := []) rfl ?_
              refine j_aload_n C 2 dX11_test_137 rfl rfl ?_
              obtain ⟨r54, D55, h53, h⟩ := cbd_x h
              refine j_callV C [] [] cl_X11_242 (M_X11_top (lv := lv - 1) hG (by omega) h53) (by omega) dX11_test_138 (by decide) ⟨rfl, rfl⟩ rfl rfl (Nat.le_of_ble_eq_true rfl) ?_
              refine j_st (st' := [.int r54]) rfl ?_
              refine j_bipush C (12 : Int32) (by decide) dX11_test_141 ?_
              refine j_icmp_ne C 197 dX11_test_143 (by decide) (fun c56 => ?_) (fun c56 => ?_)
              · have h := ite_f c56 h
                refine j_iconst C (0 : Int32) (by decide) dX11_test_197 ?_
                refine j_istore_n C [(2, .int (0 : Int32)), (4, .int r13), (3, .int r10), (0, .ref (ad G (11, 0, 0, 0))), (1, .int l1)] dX11_test_198 rfl (Nat.le_of_ble_eq_true rfl) rfl rfl ?_
                refine j_sub [3, 4, 0] [(0, .ref (ad G (11, 0, 0, 0))), (1, .int l1), (2, .int (0 : Int32))] rfl ?_
                refine T_X11_test_b199 hG hlv  C (fun l1_57 l2_58 D59 h => ?_) l1 (0 : Int32) D55 h
                · exact ih l1_57 l2_58 D59 h
              · have h := ite_t c56 h
                refine j_aload_n C 2 dX11_test_146 rfl rfl ?_
                obtain ⟨r61, D62, h60, h⟩ := cbd_x h
                refine j_callV C [] [] cl_X11_171 (M_X11_sign (lv := lv - 1) hG (by omega) h60) (by omega) dX11_test_147 (by decide) ⟨rfl, rfl⟩ rfl rfl (Nat.le_of_ble_eq_true rfl) ?_
                refine j_st (st' := [.int r61]) rfl ?_
                refine j_bipush C (93 : Int32) (by decide) dX11_test_150 ?_
                refine j_icmp_eq C 164 dX11_test_152 (by decide) (fun c63 => ?_) (fun c63 => ?_)
                · have h := ite_t c63 h
                  refine j_sub [2, 3, 4] [(0, .ref (ad G (11, 0, 0, 0))), (1, .int l1), (2, .int l2)] rfl ?_
                  refine T_X11_test_b164 hG hlv  C (fun l1_70 l2_71 D72 h => ?_) l1 l2 D62 h
                  · exact ih l1_70 l2_71 D72 h
                · have h := ite_f c63 h
                  refine j_aload_n C 2 dX11_test_155 rfl rfl ?_
                  refine j_iconst C (0 : Int32) (by decide) dX11_test_156 ?_
                  refine j_aload_n C 2 dX11_test_157 rfl rfl ?_
                  refine j_getI C fl_X11_168 dX11_test_158 (by decide) ⟨rfl, rfl⟩ rfl ?_
                  obtain ⟨D74, h73, h⟩ := vbd_x h
                  refine j_callV C [.int (0 : Int32), .int (D62.1 (11, 0, 0, 0) 20)] [] cl_X11_204 (M_X11_fails (lv := lv - 1) hG (by omega) h73) (by omega) dX11_test_161 (by decide) ⟨rfl, rfl⟩ rfl rfl (Nat.le_of_ble_eq_true rfl) ?_
                  refine j_st (st' := []) rfl ?_
                  refine j_sub [2, 3, 4] [(0, .ref (ad G (11, 0, 0, 0))), (1, .int l1), (2, .int l2)] rfl ?_
                  refine T_X11_test_b164 hG hlv  C (fun l1_75 l2_76 D77 h => ?_) l1 l2 D74 h
                  · exact ih l1_75 l2_76 D77 h
            · have h := ite_f c50 h
              refine j_sub [2, 4, 1, 0] [(0, .ref (ad G (11, 0, 0, 0))), (2, .int l2), (3, .int r10), (4, .int r13)] rfl ?_
              refine T_X11_test_b82 hG hlv  C (fun l1_78 l2_79 D80 h => ?_) l2 r10 r13 D16 h
              · exact ih l1_78 l2_79 D80 h
        · have h := ite_f c4 h
          refine j_aload_n C 0 dX11_test_24 rfl rfl ?_
          obtain ⟨r82, D83, h81, h⟩ := cbd_x h
          refine j_callV C [] [] cl_X11_253 (M_X11_fact (lv := lv - 1) hG (by omega) h81) (by omega) dX11_test_25 (by decide) ⟨rfl, rfl⟩ rfl rfl (Nat.le_of_ble_eq_true rfl) ?_
          refine j_st (st' := [.int r82]) rfl ?_
          refine j_if_ne C 35 dX11_test_28 (by decide) (fun c84 => ?_) (fun c84 => ?_)
          · have h := ite_f c84 h
            refine j_iconst C (0 : Int32) (by decide) dX11_test_35 ?_
            refine j_sub [0, 2] [(0, .ref (ad G (11, 0, 0, 0))), (2, .int l2)] rfl ?_
            refine T_X11_test_b36 hG hlv  C (fun l1_85 l2_86 D87 h => ?_) l2 (0 : Int32) D83 h
            · exact ih l1_85 l2_86 D87 h
          · have h := ite_t c84 h
            refine j_iconst C (1 : Int32) (by decide) dX11_test_31 ?_
            refine j_goto C 36 dX11_test_32 (by decide) ?_
            refine j_sub [0, 2] [(0, .ref (ad G (11, 0, 0, 0))), (2, .int l2)] rfl ?_
            refine T_X11_test_b36 hG hlv  C (fun l1_88 l2_89 D90 h => ?_) l2 (1 : Int32) D83 h
            · exact ih l1_88 l2_89 D90 h
def F_X11_test  (D : Dt) : Option Dt := (bnd (setI D (11, 0, 0, 0) 27 (0 : Int32)) (fun D1 => (F_X11_test_b9  2000 (1 : Int32) (1 : Int32) D1)))
set_option maxRecDepth 100000 in
set_option maxHeartbeats 4000000 in
theorem M_X11_test {l : Launch} {G : Gt} {A : Nat → Prop} {lv : Nat}  {D : Dt} {D' : Dt} (hG : Gok G A) (hlv : 14 ≤ lv)  (h : F_X11_test  D = some D') : MD l G A lv yX11_test cX11_test 5 none [.ref (ad G (11, 0, 0, 0))] D none D' := by
  unfold F_X11_test at h
  refine md_start RX11 hG (by decide +kernel) rfl (Nat.le_of_ble_eq_true rfl) (L := [(0, .ref (ad G (11, 0, 0, 0)))]) rfl (fun X C => ?_)
  refine j_aload_n C 0 dX11_test_0 rfl rfl ?_
  refine j_iconst C (0 : Int32) (by decide) dX11_test_1 ?_
  obtain ⟨D1, eD1, h⟩ := bnd_x h
  refine j_putI C fl_X11_236 dX11_test_2 (by decide) ⟨rfl, rfl⟩ rfl rfl rfl ?_
  refine j_rep eD1 ?_
  refine j_iconst C (1 : Int32) (by decide) dX11_test_5 ?_
  refine j_istore_n C [(1, .int (1 : Int32)), (0, .ref (ad G (11, 0, 0, 0)))] dX11_test_6 rfl (Nat.le_of_ble_eq_true rfl) rfl rfl ?_
  refine j_iconst C (1 : Int32) (by decide) dX11_test_7 ?_
  refine j_istore_n C [(2, .int (1 : Int32)), (1, .int (1 : Int32)), (0, .ref (ad G (11, 0, 0, 0)))] dX11_test_8 rfl (Nat.le_of_ble_eq_true rfl) rfl rfl ?_
  refine j_sub [2, 1, 0] [(0, .ref (ad G (11, 0, 0, 0))), (1, .int (1 : Int32)), (2, .int (1 : Int32))] rfl ?_
  refine T_X11_test_b9 hG hlv  C  2000 (1 : Int32) (1 : Int32) D1 h
def F_X11_amount_b26 (a1 : Int32) (a2 : Int32)  (l1 : Int32) (l2 : Int32) (l3 : Int32) (s0 : Int32) (D : Dt) : Option (Int32 × Dt) := (if (D.1 (11, 0, 0, 0) 21) = 0 then (cbd (F_X11_in s0.toInt64 l1.toInt64 l2.toInt64 D) (fun r7 D8 => (if r7 = 0 then (vbd (F_X11_fails (1 : Int32) l3 D8) (fun D11 => (some (s0, D11)))) else (some (s0, D8))))) else (some (s0, D)))
set_option maxRecDepth 100000 in
set_option maxHeartbeats 4000000 in
theorem T_X11_amount_b26 {r : Int32} {D' : Dt} {X : Ctx} {l : Launch} {G : Gt} {A : Nat → Prop} {lv : Nat} {a1 : Int32} {a2 : Int32}   (hG : Gok G A) (hlv : 4 ≤ lv)   (C : Cx X cX11_amount RX11 G l A lv 5 (some .int) (some (.int r)) D')  : ∀ (l1 : Int32) (l2 : Int32) (l3 : Int32) (s0 : Int32) (D : Dt), F_X11_amount_b26 a1 a2 l1 l2 l3 s0 D = some (r, D') → J X (Rep G D) 26 [(0, .ref (ad G (11, 0, 0, 0))), (1, .int l1), (2, .int l2), (3, .int l3)] [.int s0] := by
  intro l1 l2 l3 s0 D h
  unfold F_X11_amount_b26 at h
  refine j_istore C [(4, .int s0), (0, .ref (ad G (11, 0, 0, 0))), (1, .int l1), (2, .int l2), (3, .int l3)] dX11_amount_26 (Nat.le_of_ble_eq_true rfl) rfl rfl ?_
  refine j_aload_n C 1 dX11_amount_28 rfl rfl ?_
  refine j_getI C fl_X11_165 dX11_amount_29 (by decide) ⟨rfl, rfl⟩ rfl ?_
  refine j_if_ne C 54 dX11_amount_32 (by decide) (fun c5 => ?_) (fun c5 => ?_)
  · have h := ite_f c5 h
    refine j_iload C 0 dX11_amount_54 rfl ?_
    obtain ⟨rfl, rfl⟩ := pr_x h
    exact j_iret C dX11_amount_56
  · have h := ite_t c5 h
    refine j_iload C 0 dX11_amount_35 rfl ?_
    refine j_i2l C dX11_amount_37 ?_
    refine j_iload_n C 2 dX11_amount_38 rfl rfl ?_
    refine j_i2l C dX11_amount_39 ?_
    refine j_iload_n C 3 dX11_amount_40 rfl rfl ?_
    refine j_i2l C dX11_amount_41 ?_
    obtain ⟨r7, D8, h6, h⟩ := cbd_x h
    refine j_callS C [.long s0.toInt64, .long l1.toInt64, .long l2.toInt64] [] cl_X11_134 (M_X11_in (lv := lv - 1) hG (by omega) h6) (by omega) dX11_amount_42 rfl rfl (Nat.le_of_ble_eq_true rfl) ?_
    refine j_st (st' := [.int r7]) rfl ?_
    refine j_if_ne C 54 dX11_amount_45 (by decide) (fun c9 => ?_) (fun c9 => ?_)
    · have h := ite_f c9 h
      refine j_iload C 0 dX11_amount_54 rfl ?_
      obtain ⟨rfl, rfl⟩ := pr_x h
      exact j_iret C dX11_amount_56
    · have h := ite_t c9 h
      refine j_aload_n C 1 dX11_amount_48 rfl rfl ?_
      refine j_iconst C (1 : Int32) (by decide) dX11_amount_49 ?_
      refine j_iload_n C 4 dX11_amount_50 rfl rfl ?_
      obtain ⟨D11, h10, h⟩ := vbd_x h
      refine j_callV C [.int (1 : Int32), .int l3] [] cl_X11_204 (M_X11_fails (lv := lv - 1) hG (by omega) h10) (by omega) dX11_amount_51 (by decide) ⟨rfl, rfl⟩ rfl rfl (Nat.le_of_ble_eq_true rfl) ?_
      refine j_st (st' := []) rfl ?_
      refine j_iload C 0 dX11_amount_54 rfl ?_
      obtain ⟨rfl, rfl⟩ := pr_x h
      exact j_iret C dX11_amount_56
def F_X11_amount (a1 : Int32) (a2 : Int32) (D : Dt) : Option (Int32 × Dt) := (vbd (F_X11_blanks  D) (fun D2 => (bnd (D2.1 (11, 0, 0, 0) 20) (fun v3 => (if (D2.1 (11, 0, 0, 0) 21) = 0 then (cbd (F_X11_digits (99999 : Int32) D2) (fun r13 D14 => (F_X11_amount_b26 a1 a2 a1 a2 v3 r13 D14))) else (F_X11_amount_b26 a1 a2 a1 a2 v3 (0 : Int32) D2))))))
set_option maxRecDepth 100000 in
set_option maxHeartbeats 4000000 in
theorem M_X11_amount {l : Launch} {G : Gt} {A : Nat → Prop} {lv : Nat} {a1 : Int32} {a2 : Int32} {D : Dt} {r : Int32} {D' : Dt} (hG : Gok G A) (hlv : 4 ≤ lv)  (h : F_X11_amount a1 a2 D = some (r, D')) : MD l G A lv yX11_amount cX11_amount 5 (some .int) [.ref (ad G (11, 0, 0, 0)), .int a1, .int a2] D (some (.int r)) D' := by
  unfold F_X11_amount at h
  refine md_start RX11 hG (by decide +kernel) rfl (Nat.le_of_ble_eq_true rfl) (L := [(0, .ref (ad G (11, 0, 0, 0))), (1, .int a1), (2, .int a2)]) rfl (fun X C => ?_)
  refine j_aload_n C 0 dX11_amount_0 rfl rfl ?_
  obtain ⟨D2, h1, h⟩ := vbd_x h
  refine j_callV C [] [] cl_X11_188 (M_X11_blanks (lv := lv - 1) hG (by omega) h1) (by omega) dX11_amount_1 (by decide) ⟨rfl, rfl⟩ rfl rfl (Nat.le_of_ble_eq_true rfl) ?_
  refine j_st (st' := []) rfl ?_
  refine j_aload_n C 0 dX11_amount_4 rfl rfl ?_
  refine j_getI C fl_X11_168 dX11_amount_5 (by decide) ⟨rfl, rfl⟩ rfl ?_
  obtain ⟨v3, ev3, h⟩ := bnd_x h
  refine j_istore_n C [(3, .int v3), (0, .ref (ad G (11, 0, 0, 0))), (1, .int a1), (2, .int a2)] dX11_amount_8 rfl (Nat.le_of_ble_eq_true rfl) ev3 rfl ?_
  refine j_aload_n C 1 dX11_amount_9 rfl rfl ?_
  refine j_getI C fl_X11_165 dX11_amount_10 (by decide) ⟨rfl, rfl⟩ rfl ?_
  refine j_if_ne C 25 dX11_amount_13 (by decide) (fun c4 => ?_) (fun c4 => ?_)
  · have h := ite_f c4 h
    refine j_iconst C (0 : Int32) (by decide) dX11_amount_25 ?_
    refine j_sub [1, 2, 3, 0] [(0, .ref (ad G (11, 0, 0, 0))), (1, .int a1), (2, .int a2), (3, .int v3)] rfl ?_
    refine T_X11_amount_b26 hG hlv  C  a1 a2 v3 (0 : Int32) D2 h
  · have h := ite_t c4 h
    refine j_aload_n C 1 dX11_amount_16 rfl rfl ?_
    refine j_ldc C (99999 : Int32) kc_X11_212 dX11_amount_17 ?_
    obtain ⟨r13, D14, h12, h⟩ := cbd_x h
    refine j_callV C [.int (99999 : Int32)] [] cl_X11_213 (M_X11_digits (lv := lv - 1) hG (by omega) h12) (by omega) dX11_amount_19 (by decide) ⟨rfl, rfl⟩ rfl rfl (Nat.le_of_ble_eq_true rfl) ?_
    refine j_st (st' := [.int r13]) rfl ?_
    refine j_goto C 26 dX11_amount_22 (by decide) ?_
    refine j_sub [1, 2, 3, 0] [(0, .ref (ad G (11, 0, 0, 0))), (1, .int a1), (2, .int a2), (3, .int v3)] rfl ?_
    refine T_X11_amount_b26 hG hlv  C  a1 a2 v3 r13 D14 h
def F_X11_tableWord (a1 : Int32) (D : Dt) : Option (Nat × Dt) := (if a1 = (0 : Int32) then (some (2, D)) else if a1 = (1 : Int32) then (some (3, D)) else (some (4, D)))
set_option maxRecDepth 100000 in
set_option maxHeartbeats 4000000 in
theorem M_X11_tableWord {l : Launch} {G : Gt} {A : Nat → Prop} {lv : Nat} {a1 : Int32} {D : Dt} {r : Nat} {D' : Dt} (hG : Gok G A) (hlv : 1 ≤ lv)  (h : F_X11_tableWord a1 D = some (r, D')) : MD l G A lv yX11_tableWord cX11_tableWord 1 (some (.object "java/lang/String")) [.int a1] D (some (.ref (sK G r))) D' := by
  unfold F_X11_tableWord at h
  refine md_start RX11 hG (by decide +kernel) rfl (Nat.le_of_ble_eq_true rfl) (L := [(0, .int a1)]) rfl (fun X C => ?_)
  refine j_iload_n C 0 dX11_tableWord_0 rfl rfl ?_
  by_cases c1 : a1 = (0 : Int32)
  · have h := ite_t c1 h
    refine j_look C (off := 27) 28 dX11_tableWord_1 (by decide) (by rw [c1]; decide +kernel) (by decide) ?_
    refine j_ldcSw C 2 rfl dX11_tableWord_28 ?_
    obtain ⟨rfl, rfl⟩ := pr_x h
    exact j_aret C (Or.inr ⟨_, rfl⟩) dX11_tableWord_31
  have h := ite_f c1 h
  by_cases c2 : a1 = (1 : Int32)
  · have h := ite_t c2 h
    refine j_look C (off := 31) 32 dX11_tableWord_1 (by decide) (by rw [c2]; decide +kernel) (by decide) ?_
    refine j_ldcS C 3 rfl dX11_tableWord_32 ?_
    obtain ⟨rfl, rfl⟩ := pr_x h
    exact j_aret C (Or.inr ⟨_, rfl⟩) dX11_tableWord_34
  have h := ite_f c2 h
  refine j_look C (off := 34) 35 dX11_tableWord_1 (by decide) (by show Op.lookupswitch.offset [(0, 27), (1, 31)] 34 _ = 34; rw [lv_osw c1 (by decide), lv_osw c2 (by decide)]; rfl) (by decide) ?_
  refine j_ldcS C 4 rfl dX11_tableWord_35 ?_
  obtain ⟨rfl, rfl⟩ := pr_x h
  exact j_aret C (Or.inr ⟨_, rfl⟩) dX11_tableWord_37
def F_X11_tablePart (a1 : Int32) (D : Dt) : Option Dt := (if a1 = (0 : Int32) then (cbd (F_X11_amount (1 : Int32) (9 : Int32) D) (fun r3 D4 => (bnd (setI D4 (11, 0, 15, 0) 0 r3) (fun D5 => (cbd (F_X11_amount (0 : Int32) (9 : Int32) D5) (fun r7 D8 => (bnd (setI D8 (11, 0, 15, 0) 1 r7) (fun D9 => (some D9))))))))) else if a1 = (1 : Int32) then (bnd (D.1 (11, 0, 15, 0) 2) (fun v11 => (cbd (F_X11_amount (0 : Int32) (99 : Int32) D) (fun r13 D14 => (grd (inB v11 5 = true) (bnd (setI D14 (11, 0, 16, 0) (v11.toNatClampNeg) r13) (fun D16 => (cbd (F_X11_amount (0 : Int32) (9 : Int32) D16) (fun r18 D19 => (bnd (setI D19 (11, 0, 17, 0) (v11.toNatClampNeg) r18) (fun D20 => (cbd (F_X11_amount (0 : Int32) (99 : Int32) D20) (fun r22 D23 => (bnd (setI D23 (11, 0, 18, 0) (v11.toNatClampNeg) r22) (fun D24 => (bnd (setI D24 (11, 0, 15, 0) 2 ((D24.1 (11, 0, 15, 0) 2) + (1 : Int32))) (fun D25 => (some D25)))))))))))))))))) else (cbd (F_X11_amount (0 : Int32) ((D.1 (11, 0, 15, 0) 2) - (1 : Int32)) D) (fun r27 D28 => (cbd (F_X11_amount (0 : Int32) (60 : Int32) D28) (fun r30 D31 => (if (D31.1 (11, 0, 0, 0) 21) = 0 then (grd (inB (((61 : Int32) * r27) + r30) 305 = true) (bnd (setI D31 (11, 0, 19, 0) ((((61 : Int32) * r27) + r30).toNatClampNeg) ((D31.1 (11, 0, 19, 0) ((((61 : Int32) * r27) + r30).toNatClampNeg)) + (1 : Int32))) (fun D34 => (some D34)))) else (some D31)))))))
set_option maxRecDepth 100000 in
set_option maxHeartbeats 4000000 in
theorem M_X11_tablePart {l : Launch} {G : Gt} {A : Nat → Prop} {lv : Nat} {a1 : Int32} {D : Dt} {D' : Dt} (hG : Gok G A) (hlv : 5 ≤ lv)  (h : F_X11_tablePart a1 D = some D') : MD l G A lv yX11_tablePart cX11_tablePart 4 none [.ref (ad G (11, 0, 0, 0)), .int a1] D none D' := by
  unfold F_X11_tablePart at h
  refine md_start RX11 hG (by decide +kernel) rfl (Nat.le_of_ble_eq_true rfl) (L := [(0, .ref (ad G (11, 0, 0, 0))), (1, .int a1)]) rfl (fun X C => ?_)
  refine j_iload_n C 1 dX11_tablePart_0 rfl rfl ?_
  by_cases c1 : a1 = (0 : Int32)
  · have h := ite_t c1 h
    refine j_look C (off := 27) 28 dX11_tablePart_1 (by decide) (by rw [c1]; decide +kernel) (by decide) ?_
    refine j_aload_n C 0 dX11_tablePart_28 rfl rfl ?_
    refine j_getS C (11, 0, 15, 0) fl_X11_49 dX11_tablePart_29 (by decide) ⟨rfl, rfl⟩ rfl rfl ?_
    refine j_iconst C (0 : Int32) (by decide) dX11_tablePart_32 ?_
    refine j_aload_n C 0 dX11_tablePart_33 rfl rfl ?_
    refine j_iconst C (1 : Int32) (by decide) dX11_tablePart_34 ?_
    refine j_bipush C (9 : Int32) (by decide) dX11_tablePart_35 ?_
    obtain ⟨r3, D4, h2, h⟩ := cbd_x h
    refine j_callV C [.int (1 : Int32), .int (9 : Int32)] [.int (0 : Int32), .ref (ad G (11, 0, 15, 0))] cl_X11_265 (M_X11_amount (lv := lv - 1) hG (by omega) h2) (by omega) dX11_tablePart_37 (by decide) ⟨rfl, rfl⟩ rfl rfl (Nat.le_of_ble_eq_true rfl) ?_
    refine j_st (st' := [.int r3, .int (0 : Int32), .ref (ad G (11, 0, 15, 0))]) rfl ?_
    obtain ⟨D5, eD5, h⟩ := bnd_x h
    refine j_iastK C 3 0 dX11_tablePart_40 (V_f 14 (by decide) (by decide)) rfl (by decide) (by decide) ?_
    refine j_rep eD5 ?_
    refine j_aload_n C 0 dX11_tablePart_41 rfl rfl ?_
    refine j_getS C (11, 0, 15, 0) fl_X11_49 dX11_tablePart_42 (by decide) ⟨rfl, rfl⟩ rfl rfl ?_
    refine j_iconst C (1 : Int32) (by decide) dX11_tablePart_45 ?_
    refine j_aload_n C 0 dX11_tablePart_46 rfl rfl ?_
    refine j_iconst C (0 : Int32) (by decide) dX11_tablePart_47 ?_
    refine j_bipush C (9 : Int32) (by decide) dX11_tablePart_48 ?_
    obtain ⟨r7, D8, h6, h⟩ := cbd_x h
    refine j_callV C [.int (0 : Int32), .int (9 : Int32)] [.int (1 : Int32), .ref (ad G (11, 0, 15, 0))] cl_X11_265 (M_X11_amount (lv := lv - 1) hG (by omega) h6) (by omega) dX11_tablePart_50 (by decide) ⟨rfl, rfl⟩ rfl rfl (Nat.le_of_ble_eq_true rfl) ?_
    refine j_st (st' := [.int r7, .int (1 : Int32), .ref (ad G (11, 0, 15, 0))]) rfl ?_
    obtain ⟨D9, eD9, h⟩ := bnd_x h
    refine j_iastK C 3 1 dX11_tablePart_53 (V_f 14 (by decide) (by decide)) rfl (by decide) (by decide) ?_
    refine j_rep eD9 ?_
    refine j_goto C 160 dX11_tablePart_54 (by decide) ?_
    obtain rfl := Option.some.inj h
    exact j_vret C dX11_tablePart_160
  have h := ite_f c1 h
  by_cases c10 : a1 = (1 : Int32)
  · have h := ite_t c10 h
    refine j_look C (off := 56) 57 dX11_tablePart_1 (by decide) (by rw [c10]; decide +kernel) (by decide) ?_
    refine j_aload_n C 0 dX11_tablePart_57 rfl rfl ?_
    refine j_getS C (11, 0, 15, 0) fl_X11_49 dX11_tablePart_58 (by decide) ⟨rfl, rfl⟩ rfl rfl ?_
    refine j_iconst C (2 : Int32) (by decide) dX11_tablePart_61 ?_
    refine j_ialdK C 3 2 dX11_tablePart_62 (V_f 14 (by decide) (by decide)) rfl (by decide) (by decide) ?_
    obtain ⟨v11, ev11, h⟩ := bnd_x h
    refine j_istore_n C [(2, .int v11), (0, .ref (ad G (11, 0, 0, 0))), (1, .int a1)] dX11_tablePart_63 rfl (Nat.le_of_ble_eq_true rfl) ev11 rfl ?_
    refine j_aload_n C 1 dX11_tablePart_64 rfl rfl ?_
    refine j_getS C (11, 0, 16, 0) fl_X11_52 dX11_tablePart_65 (by decide) ⟨rfl, rfl⟩ rfl rfl ?_
    refine j_iload_n C 0 dX11_tablePart_68 rfl rfl ?_
    refine j_aload_n C 1 dX11_tablePart_69 rfl rfl ?_
    refine j_iconst C (0 : Int32) (by decide) dX11_tablePart_70 ?_
    refine j_bipush C (99 : Int32) (by decide) dX11_tablePart_71 ?_
    obtain ⟨r13, D14, h12, h⟩ := cbd_x h
    refine j_callV C [.int (0 : Int32), .int (99 : Int32)] [.int v11, .ref (ad G (11, 0, 16, 0))] cl_X11_265 (M_X11_amount (lv := lv - 1) hG (by omega) h12) (by omega) dX11_tablePart_73 (by decide) ⟨rfl, rfl⟩ rfl rfl (Nat.le_of_ble_eq_true rfl) ?_
    refine j_st (st' := [.int r13, .int v11, .ref (ad G (11, 0, 16, 0))]) rfl ?_
    obtain ⟨g15, h⟩ := grd_x h
    obtain ⟨D16, eD16, h⟩ := bnd_x h
    refine j_iastK C 5 (v11.toNatClampNeg) dX11_tablePart_76 (V_f 15 (by decide) (by decide)) rfl g15 rfl ?_
    refine j_rep eD16 ?_
    refine j_aload_n C 1 dX11_tablePart_77 rfl rfl ?_
    refine j_getS C (11, 0, 17, 0) fl_X11_55 dX11_tablePart_78 (by decide) ⟨rfl, rfl⟩ rfl rfl ?_
    refine j_iload_n C 0 dX11_tablePart_81 rfl rfl ?_
    refine j_aload_n C 1 dX11_tablePart_82 rfl rfl ?_
    refine j_iconst C (0 : Int32) (by decide) dX11_tablePart_83 ?_
    refine j_bipush C (9 : Int32) (by decide) dX11_tablePart_84 ?_
    obtain ⟨r18, D19, h17, h⟩ := cbd_x h
    refine j_callV C [.int (0 : Int32), .int (9 : Int32)] [.int v11, .ref (ad G (11, 0, 17, 0))] cl_X11_265 (M_X11_amount (lv := lv - 1) hG (by omega) h17) (by omega) dX11_tablePart_86 (by decide) ⟨rfl, rfl⟩ rfl rfl (Nat.le_of_ble_eq_true rfl) ?_
    refine j_st (st' := [.int r18, .int v11, .ref (ad G (11, 0, 17, 0))]) rfl ?_
    obtain ⟨D20, eD20, h⟩ := bnd_x h
    refine j_iastK C 5 (v11.toNatClampNeg) dX11_tablePart_89 (V_f 16 (by decide) (by decide)) rfl g15 rfl ?_
    refine j_rep eD20 ?_
    refine j_aload_n C 1 dX11_tablePart_90 rfl rfl ?_
    refine j_getS C (11, 0, 18, 0) fl_X11_58 dX11_tablePart_91 (by decide) ⟨rfl, rfl⟩ rfl rfl ?_
    refine j_iload_n C 0 dX11_tablePart_94 rfl rfl ?_
    refine j_aload_n C 1 dX11_tablePart_95 rfl rfl ?_
    refine j_iconst C (0 : Int32) (by decide) dX11_tablePart_96 ?_
    refine j_bipush C (99 : Int32) (by decide) dX11_tablePart_97 ?_
    obtain ⟨r22, D23, h21, h⟩ := cbd_x h
    refine j_callV C [.int (0 : Int32), .int (99 : Int32)] [.int v11, .ref (ad G (11, 0, 18, 0))] cl_X11_265 (M_X11_amount (lv := lv - 1) hG (by omega) h21) (by omega) dX11_tablePart_99 (by decide) ⟨rfl, rfl⟩ rfl rfl (Nat.le_of_ble_eq_true rfl) ?_
    refine j_st (st' := [.int r22, .int v11, .ref (ad G (11, 0, 18, 0))]) rfl ?_
    obtain ⟨D24, eD24, h⟩ := bnd_x h
    refine j_iastK C 5 (v11.toNatClampNeg) dX11_tablePart_102 (V_f 17 (by decide) (by decide)) rfl g15 rfl ?_
    refine j_rep eD24 ?_
    refine j_aload_n C 1 dX11_tablePart_103 rfl rfl ?_
    refine j_getS C (11, 0, 15, 0) fl_X11_49 dX11_tablePart_104 (by decide) ⟨rfl, rfl⟩ rfl rfl ?_
    refine j_iconst C (2 : Int32) (by decide) dX11_tablePart_107 ?_
    refine j_dup2 C rfl rfl dX11_tablePart_108 ?_
    refine j_ialdK C 3 2 dX11_tablePart_109 (V_f 14 (by decide) (by decide)) rfl (by decide) (by decide) ?_
    refine j_iconst C (1 : Int32) (by decide) dX11_tablePart_110 ?_
    refine j_iadd C dX11_tablePart_111 ?_
    obtain ⟨D25, eD25, h⟩ := bnd_x h
    refine j_iastK C 3 2 dX11_tablePart_112 (V_f 14 (by decide) (by decide)) rfl (by decide) (by decide) ?_
    refine j_rep eD25 ?_
    refine j_goto C 160 dX11_tablePart_113 (by decide) ?_
    obtain rfl := Option.some.inj h
    exact j_vret C dX11_tablePart_160
  have h := ite_f c10 h
  refine j_look C (off := 115) 116 dX11_tablePart_1 (by decide) (by show Op.lookupswitch.offset [(0, 27), (1, 56)] 115 _ = 115; rw [lv_osw c1 (by decide), lv_osw c10 (by decide)]; rfl) (by decide) ?_
  refine j_aload_n C 0 dX11_tablePart_116 rfl rfl ?_
  refine j_iconst C (0 : Int32) (by decide) dX11_tablePart_117 ?_
  refine j_aload_n C 0 dX11_tablePart_118 rfl rfl ?_
  refine j_getS C (11, 0, 15, 0) fl_X11_49 dX11_tablePart_119 (by decide) ⟨rfl, rfl⟩ rfl rfl ?_
  refine j_iconst C (2 : Int32) (by decide) dX11_tablePart_122 ?_
  refine j_ialdK C 3 2 dX11_tablePart_123 (V_f 14 (by decide) (by decide)) rfl (by decide) (by decide) ?_
  refine j_iconst C (1 : Int32) (by decide) dX11_tablePart_124 ?_
  refine j_isub C dX11_tablePart_125 ?_
  obtain ⟨r27, D28, h26, h⟩ := cbd_x h
  refine j_callV C [.int (0 : Int32), .int ((D.1 (11, 0, 15, 0) 2) - (1 : Int32))] [] cl_X11_265 (M_X11_amount (lv := lv - 1) hG (by omega) h26) (by omega) dX11_tablePart_126 (by decide) ⟨rfl, rfl⟩ rfl rfl (Nat.le_of_ble_eq_true rfl) ?_
  refine j_st (st' := [.int r27]) rfl ?_
  refine j_istore_n C [(2, .int r27), (0, .ref (ad G (11, 0, 0, 0))), (1, .int a1)] dX11_tablePart_129 rfl (Nat.le_of_ble_eq_true rfl) rfl rfl ?_
  refine j_aload_n C 1 dX11_tablePart_130 rfl rfl ?_
  refine j_iconst C (0 : Int32) (by decide) dX11_tablePart_131 ?_
  refine j_bipush C (60 : Int32) (by decide) dX11_tablePart_132 ?_
  obtain ⟨r30, D31, h29, h⟩ := cbd_x h
  refine j_callV C [.int (0 : Int32), .int (60 : Int32)] [] cl_X11_265 (M_X11_amount (lv := lv - 1) hG (by omega) h29) (by omega) dX11_tablePart_134 (by decide) ⟨rfl, rfl⟩ rfl rfl (Nat.le_of_ble_eq_true rfl) ?_
  refine j_st (st' := [.int r30]) rfl ?_
  refine j_istore_n C [(3, .int r30), (2, .int r27), (0, .ref (ad G (11, 0, 0, 0))), (1, .int a1)] dX11_tablePart_137 rfl (Nat.le_of_ble_eq_true rfl) rfl rfl ?_
  refine j_aload_n C 2 dX11_tablePart_138 rfl rfl ?_
  refine j_getI C fl_X11_165 dX11_tablePart_139 (by decide) ⟨rfl, rfl⟩ rfl ?_
  refine j_if_ne C 160 dX11_tablePart_142 (by decide) (fun c32 => ?_) (fun c32 => ?_)
  · have h := ite_f c32 h
    obtain rfl := Option.some.inj h
    exact j_vret C dX11_tablePart_160
  · have h := ite_t c32 h
    refine j_aload_n C 2 dX11_tablePart_145 rfl rfl ?_
    refine j_getS C (11, 0, 19, 0) fl_X11_61 dX11_tablePart_146 (by decide) ⟨rfl, rfl⟩ rfl rfl ?_
    refine j_bipush C (61 : Int32) (by decide) dX11_tablePart_149 ?_
    refine j_iload_n C 1 dX11_tablePart_151 rfl rfl ?_
    refine j_imul C dX11_tablePart_152 ?_
    refine j_iload_n C 0 dX11_tablePart_153 rfl rfl ?_
    refine j_iadd C dX11_tablePart_154 ?_
    refine j_dup2 C rfl rfl dX11_tablePart_155 ?_
    obtain ⟨g33, h⟩ := grd_x h
    refine j_ialdK C 305 ((((61 : Int32) * r27) + r30).toNatClampNeg) dX11_tablePart_156 (V_f 18 (by decide) (by decide)) rfl g33 rfl ?_
    refine j_iconst C (1 : Int32) (by decide) dX11_tablePart_157 ?_
    refine j_iadd C dX11_tablePart_158 ?_
    obtain ⟨D34, eD34, h⟩ := bnd_x h
    refine j_iastK C 305 ((((61 : Int32) * r27) + r30).toNatClampNeg) dX11_tablePart_159 (V_f 18 (by decide) (by decide)) rfl g33 rfl ?_
    refine j_rep eD34 ?_
    obtain rfl := Option.some.inj h
    exact j_vret C dX11_tablePart_160
def F_X11_isFull_b24 (a1 : Int32) (a2 : Int32)  (l1 : Int32) (s0 : Int32) (s1 : Int32) (D : Dt) : Option (Int32 × Dt) := (if s0 = s1 then (if l1 = (1 : Int32) then (if (D.1 (11, 0, 15, 0) 2) = (5 : Int32) then (some ((1 : Int32), D)) else (some ((0 : Int32), D))) else (some ((0 : Int32), D))) else (some ((1 : Int32), D)))
set_option maxRecDepth 100000 in
set_option maxHeartbeats 4000000 in
theorem T_X11_isFull_b24 {r : Int32} {D' : Dt} {X : Ctx} {l : Launch} {G : Gt} {A : Nat → Prop} {lv : Nat} {a1 : Int32} {a2 : Int32}   (hG : Gok G A) (hlv : 1 ≤ lv)   (C : Cx X cX11_isFull RX11 G l A lv 3 (some .boolean) (some (.int r)) D')  : ∀ (l1 : Int32) (s0 : Int32) (s1 : Int32) (D : Dt), F_X11_isFull_b24 a1 a2 l1 s0 s1 D = some (r, D') → J X (Rep G D) 24 [(0, .ref (ad G (11, 0, 0, 0))), (1, .int l1)] [.int s1, .int s0] := by
  intro l1 s0 s1 D h
  unfold F_X11_isFull_b24 at h
  refine j_icmp_ne C 42 dX11_isFull_24 (by decide) (fun c4 => ?_) (fun c4 => ?_)
  · have h := ite_f c4 h
    refine j_iconst C (1 : Int32) (by decide) dX11_isFull_42 ?_
    refine j_goto C 47 dX11_isFull_43 (by decide) ?_
    obtain ⟨rfl, rfl⟩ := pr_x h
    exact j_zret C (Or.inr rfl) dX11_isFull_47
  · have h := ite_t c4 h
    refine j_iload_n C 1 dX11_isFull_27 rfl rfl ?_
    refine j_iconst C (1 : Int32) (by decide) dX11_isFull_28 ?_
    refine j_icmp_ne C 46 dX11_isFull_29 (by decide) (fun c5 => ?_) (fun c5 => ?_)
    · have h := ite_f c5 h
      refine j_iconst C (0 : Int32) (by decide) dX11_isFull_46 ?_
      obtain ⟨rfl, rfl⟩ := pr_x h
      exact j_zret C (Or.inl rfl) dX11_isFull_47
    · have h := ite_t c5 h
      refine j_aload_n C 0 dX11_isFull_32 rfl rfl ?_
      refine j_getS C (11, 0, 15, 0) fl_X11_49 dX11_isFull_33 (by decide) ⟨rfl, rfl⟩ rfl rfl ?_
      refine j_iconst C (2 : Int32) (by decide) dX11_isFull_36 ?_
      refine j_ialdK C 3 2 dX11_isFull_37 (V_f 14 (by decide) (by decide)) rfl (by decide) (by decide) ?_
      refine j_iconst C (5 : Int32) (by decide) dX11_isFull_38 ?_
      refine j_icmp_ne C 46 dX11_isFull_39 (by decide) (fun c6 => ?_) (fun c6 => ?_)
      · have h := ite_f c6 h
        refine j_iconst C (0 : Int32) (by decide) dX11_isFull_46 ?_
        obtain ⟨rfl, rfl⟩ := pr_x h
        exact j_zret C (Or.inl rfl) dX11_isFull_47
      · have h := ite_t c6 h
        refine j_iconst C (1 : Int32) (by decide) dX11_isFull_42 ?_
        refine j_goto C 47 dX11_isFull_43 (by decide) ?_
        obtain ⟨rfl, rfl⟩ := pr_x h
        exact j_zret C (Or.inr rfl) dX11_isFull_47
def F_X11_isFull_b15 (a1 : Int32) (a2 : Int32)  (l1 : Int32) (l2 : Int32) (s0 : Int32) (D : Dt) : Option (Int32 × Dt) := (if l2 = 0 then (F_X11_isFull_b24 a1 a2 l1 s0 (1 : Int32) D) else (F_X11_isFull_b24 a1 a2 l1 s0 (0 : Int32) D))
set_option maxRecDepth 100000 in
set_option maxHeartbeats 4000000 in
theorem T_X11_isFull_b15 {r : Int32} {D' : Dt} {X : Ctx} {l : Launch} {G : Gt} {A : Nat → Prop} {lv : Nat} {a1 : Int32} {a2 : Int32}   (hG : Gok G A) (hlv : 1 ≤ lv)   (C : Cx X cX11_isFull RX11 G l A lv 3 (some .boolean) (some (.int r)) D')  : ∀ (l1 : Int32) (l2 : Int32) (s0 : Int32) (D : Dt), F_X11_isFull_b15 a1 a2 l1 l2 s0 D = some (r, D') → J X (Rep G D) 15 [(0, .ref (ad G (11, 0, 0, 0))), (1, .int l1), (2, .int l2)] [.int s0] := by
  intro l1 l2 s0 D h
  unfold F_X11_isFull_b15 at h
  refine j_iload_n C 2 dX11_isFull_15 rfl rfl ?_
  refine j_if_ne C 23 dX11_isFull_16 (by decide) (fun c3 => ?_) (fun c3 => ?_)
  · have h := ite_f c3 h
    refine j_iconst C (0 : Int32) (by decide) dX11_isFull_23 ?_
    refine j_sub [0, 1] [(0, .ref (ad G (11, 0, 0, 0))), (1, .int l1)] rfl ?_
    refine T_X11_isFull_b24 hG hlv  C  l1 s0 (0 : Int32) D h
  · have h := ite_t c3 h
    refine j_iconst C (1 : Int32) (by decide) dX11_isFull_19 ?_
    refine j_goto C 24 dX11_isFull_20 (by decide) ?_
    refine j_sub [0, 1] [(0, .ref (ad G (11, 0, 0, 0))), (1, .int l1)] rfl ?_
    refine T_X11_isFull_b24 hG hlv  C  l1 s0 (1 : Int32) D h
def F_X11_isFull (a1 : Int32) (a2 : Int32) (D : Dt) : Option (Int32 × Dt) := (if a2 = (40 : Int32) then (some ((1 : Int32), D)) else (if a1 = 0 then (F_X11_isFull_b15 a1 a2 a1 a2 (1 : Int32) D) else (F_X11_isFull_b15 a1 a2 a1 a2 (0 : Int32) D)))
set_option maxRecDepth 100000 in
set_option maxHeartbeats 4000000 in
theorem M_X11_isFull {l : Launch} {G : Gt} {A : Nat → Prop} {lv : Nat} {a1 : Int32} {a2 : Int32} {D : Dt} {r : Int32} {D' : Dt} (hG : Gok G A) (hlv : 1 ≤ lv)  (h : F_X11_isFull a1 a2 D = some (r, D')) : MD l G A lv yX11_isFull cX11_isFull 3 (some .boolean) [.ref (ad G (11, 0, 0, 0)), .int a1, .int a2] D (some (.int r)) D' := by
  unfold F_X11_isFull at h
  refine md_start RX11 hG (by decide +kernel) rfl (Nat.le_of_ble_eq_true rfl) (L := [(0, .ref (ad G (11, 0, 0, 0))), (1, .int a1), (2, .int a2)]) rfl (fun X C => ?_)
  refine j_iload_n C 2 dX11_isFull_0 rfl rfl ?_
  refine j_bipush C (40 : Int32) (by decide) dX11_isFull_1 ?_
  refine j_icmp_eq C 42 dX11_isFull_3 (by decide) (fun c1 => ?_) (fun c1 => ?_)
  · have h := ite_t c1 h
    refine j_iconst C (1 : Int32) (by decide) dX11_isFull_42 ?_
    refine j_goto C 47 dX11_isFull_43 (by decide) ?_
    obtain ⟨rfl, rfl⟩ := pr_x h
    exact j_zret C (Or.inr rfl) dX11_isFull_47
  · have h := ite_f c1 h
    refine j_iload_n C 1 dX11_isFull_6 rfl rfl ?_
    refine j_if_ne C 14 dX11_isFull_7 (by decide) (fun c2 => ?_) (fun c2 => ?_)
    · have h := ite_f c2 h
      refine j_iconst C (0 : Int32) (by decide) dX11_isFull_14 ?_
      refine T_X11_isFull_b15 hG hlv  C  a1 a2 (0 : Int32) D h
    · have h := ite_t c2 h
      refine j_iconst C (1 : Int32) (by decide) dX11_isFull_10 ?_
      refine j_goto C 15 dX11_isFull_11 (by decide) ?_
      refine T_X11_isFull_b15 hG hlv  C  a1 a2 (1 : Int32) D h
def F_X11_tableClause_b11 (a1 : Int32) (k33 : Int32 → Int32 → Int32 → Dt → Option Dt) : Nat → Int32 → Int32 → Int32 → Dt → Option Dt
  | 0, _, _, _, _ => none
  | f + 1, l1, l2, l3, D => (if (3 : Int32) ≤ l3 then (k33 l1 l2 l3 D) else (cbd (F_X11_tableWord l3 D) (fun r6 D7 => (grd (r6 < 20) (cbd (F_X11_stood r6 D7) (fun r10 D11 => (if r10 = 0 then (bnd (l3 + (1 : Int32)) (fun v13 => (F_X11_tableClause_b11 a1 k33 f l1 l2 v13 D11))) else (k33 l1 l2 l3 D11))))))))
set_option maxRecDepth 100000 in
set_option maxHeartbeats 4000000 in
theorem T_X11_tableClause_b11 {D' : Dt} {X : Ctx} {l : Launch} {G : Gt} {A : Nat → Prop} {lv : Nat} {a1 : Int32}  {k33 : Int32 → Int32 → Int32 → Dt → Option Dt} (hG : Gok G A) (hlv : 9 ≤ lv)   (C : Cx X cX11_tableClause RX11 G l A lv 4 none none D') (hk33 : ∀ (l1 : Int32) (l2 : Int32) (l3 : Int32) (D : Dt), k33 l1 l2 l3 D = some D' → J X (Rep G D) 33 [(0, .ref (ad G (11, 0, 0, 0))), (1, .int l1), (2, .int l2), (3, .int l3)] []) : ∀ (f : Nat) (l1 : Int32) (l2 : Int32) (l3 : Int32) (D : Dt), F_X11_tableClause_b11 a1 k33 f l1 l2 l3 D = some D' → J X (Rep G D) 11 [(0, .ref (ad G (11, 0, 0, 0))), (1, .int l1), (2, .int l2), (3, .int l3)] [] := by
  intro f
  induction f with
  | zero =>
    intro l1 l2 l3 D h
    exact nomatch h
  | succ f ih =>
    intro l1 l2 l3 D h
    rw [F_X11_tableClause_b11] at h
    refine j_iload_n C 3 dX11_tableClause_11 rfl rfl ?_
    refine j_iconst C (3 : Int32) (by decide) dX11_tableClause_12 ?_
    refine j_icmp_ge C 33 dX11_tableClause_13 (by decide) (fun c4 => ?_) (fun c4 => ?_)
    · have h := ite_t c4 h
      exact hk33 l1 l2 l3 D h
    · have h := ite_f c4 h
      refine j_aload_n C 0 dX11_tableClause_16 rfl rfl ?_
      refine j_iload_n C 3 dX11_tableClause_17 rfl rfl ?_
      obtain ⟨r6, D7, h5, h⟩ := cbd_x h
      obtain ⟨g8, h⟩ := grd_x h
      refine j_callS C [.int l3] [.ref (ad G (11, 0, 0, 0))] cl_X11_269 (M_X11_tableWord (lv := lv - 1) hG (by omega) h5) (by omega) dX11_tableClause_18 rfl rfl (Nat.le_of_ble_eq_true rfl) ?_
      refine j_st (st' := [.ref (sK G r6), .ref (ad G (11, 0, 0, 0))]) rfl ?_
      obtain ⟨r10, D11, h9, h⟩ := cbd_x h
      refine j_callV C [.ref (sK G r6)] [] cl_X11_191 (M_X11_stood (lv := lv - 1) hG (by omega) h9) (by omega) dX11_tableClause_21 (by decide) ⟨rfl, rfl⟩ rfl rfl (Nat.le_of_ble_eq_true rfl) ?_
      refine j_st (st' := [.int r10]) rfl ?_
      refine j_if_ne C 33 dX11_tableClause_24 (by decide) (fun c12 => ?_) (fun c12 => ?_)
      · have h := ite_f c12 h
        exact hk33 l1 l2 l3 D11 h
      · have h := ite_t c12 h
        obtain ⟨v13, ev13, h⟩ := bnd_x h
        refine j_iinc C 3 [(3, .int v13), (0, .ref (ad G (11, 0, 0, 0))), (1, .int l1), (2, .int l2)] dX11_tableClause_27 rfl (Nat.le_of_ble_eq_true rfl) (ev13.trans (congrArg (l3 + ·) (by decide))) rfl ?_
        refine j_goto C 11 dX11_tableClause_30 (by decide) ?_
        refine j_sub [1, 2, 3, 0] [(0, .ref (ad G (11, 0, 0, 0))), (1, .int l1), (2, .int l2), (3, .int v13)] rfl ?_
        exact ih l1 l2 v13 D11 h
def F_X11_tableClause (a1 : Int32) (D : Dt) : Option Dt := (vbd (F_X11_blanks  D) (fun D2 => (bnd (D2.1 (11, 0, 0, 0) 20) (fun v3 => (F_X11_tableClause_b11 a1 (fun l1_14 l2_15 l3_16 D17 => (if l3_16 = (3 : Int32) then (vbd (F_X11_fails (0 : Int32) l2_15 D17) (fun D33 => (some D33))) else (cbd (F_X11_isFull l3_16 l1_14 D17) (fun r20 D21 => (if r20 = 0 then (cbd (F_X11_tableWord l3_16 D21) (fun r24 D25 => (grd (r24 < 20) (bnd (setI D25 (11, 0, 0, 0) 20 ((D21.1 (11, 0, 0, 0) 20) + (sLen r24))) (fun D27 => (vbd (F_X11_tablePart l3_16 D27) (fun D29 => (some D29)))))))) else (vbd (F_X11_fails (4 : Int32) l2_15 D21) (fun D31 => (some D31)))))))) 2000 a1 v3 (0 : Int32) D2)))))
set_option maxRecDepth 100000 in
set_option maxHeartbeats 4000000 in
theorem M_X11_tableClause {l : Launch} {G : Gt} {A : Nat → Prop} {lv : Nat} {a1 : Int32} {D : Dt} {D' : Dt} (hG : Gok G A) (hlv : 9 ≤ lv)  (h : F_X11_tableClause a1 D = some D') : MD l G A lv yX11_tableClause cX11_tableClause 4 none [.ref (ad G (11, 0, 0, 0)), .int a1] D none D' := by
  unfold F_X11_tableClause at h
  refine md_start RX11 hG (by decide +kernel) rfl (Nat.le_of_ble_eq_true rfl) (L := [(0, .ref (ad G (11, 0, 0, 0))), (1, .int a1)]) rfl (fun X C => ?_)
  refine j_aload_n C 0 dX11_tableClause_0 rfl rfl ?_
  obtain ⟨D2, h1, h⟩ := vbd_x h
  refine j_callV C [] [] cl_X11_188 (M_X11_blanks (lv := lv - 1) hG (by omega) h1) (by omega) dX11_tableClause_1 (by decide) ⟨rfl, rfl⟩ rfl rfl (Nat.le_of_ble_eq_true rfl) ?_
  refine j_st (st' := []) rfl ?_
  refine j_aload_n C 0 dX11_tableClause_4 rfl rfl ?_
  refine j_getI C fl_X11_168 dX11_tableClause_5 (by decide) ⟨rfl, rfl⟩ rfl ?_
  obtain ⟨v3, ev3, h⟩ := bnd_x h
  refine j_istore_n C [(2, .int v3), (0, .ref (ad G (11, 0, 0, 0))), (1, .int a1)] dX11_tableClause_8 rfl (Nat.le_of_ble_eq_true rfl) ev3 rfl ?_
  refine j_iconst C (0 : Int32) (by decide) dX11_tableClause_9 ?_
  refine j_istore_n C [(3, .int (0 : Int32)), (2, .int v3), (0, .ref (ad G (11, 0, 0, 0))), (1, .int a1)] dX11_tableClause_10 rfl (Nat.le_of_ble_eq_true rfl) rfl rfl ?_
  refine j_sub [2, 3, 1, 0] [(0, .ref (ad G (11, 0, 0, 0))), (1, .int a1), (2, .int v3), (3, .int (0 : Int32))] rfl ?_
  refine T_X11_tableClause_b11 hG hlv  C (fun l1_14 l2_15 l3_16 D17 h => ?_) 2000 a1 v3 (0 : Int32) D2 h
  · refine j_iload_n C 3 dX11_tableClause_33 rfl rfl ?_
    refine j_iconst C (3 : Int32) (by decide) dX11_tableClause_34 ?_
    refine j_icmp_ne C 45 dX11_tableClause_35 (by decide) (fun c18 => ?_) (fun c18 => ?_)
    · have h := ite_f c18 h
      refine j_aload_n C 0 dX11_tableClause_45 rfl rfl ?_
      refine j_iload_n C 3 dX11_tableClause_46 rfl rfl ?_
      refine j_iload_n C 1 dX11_tableClause_47 rfl rfl ?_
      obtain ⟨r20, D21, h19, h⟩ := cbd_x h
      refine j_callV C [.int l3_16, .int l1_14] [] cl_X11_272 (M_X11_isFull (lv := lv - 1) hG (by omega) h19) (by omega) dX11_tableClause_48 (by decide) ⟨rfl, rfl⟩ rfl rfl (Nat.le_of_ble_eq_true rfl) ?_
      refine j_st (st' := [.int r20]) rfl ?_
      refine j_if_eq C 61 dX11_tableClause_51 (by decide) (fun c22 => ?_) (fun c22 => ?_)
      · have h := ite_t c22 h
        refine j_aload_n C 0 dX11_tableClause_61 rfl rfl ?_
        refine j_dup C rfl dX11_tableClause_62 ?_
        refine j_getI C fl_X11_168 dX11_tableClause_63 (by decide) ⟨rfl, rfl⟩ rfl ?_
        refine j_iload_n C 3 dX11_tableClause_66 rfl rfl ?_
        obtain ⟨r24, D25, h23, h⟩ := cbd_x h
        obtain ⟨g26, h⟩ := grd_x h
        refine j_callS C [.int l3_16] [.int (D21.1 (11, 0, 0, 0) 20), .ref (ad G (11, 0, 0, 0))] cl_X11_269 (M_X11_tableWord (lv := lv - 1) hG (by omega) h23) (by omega) dX11_tableClause_67 rfl rfl (Nat.le_of_ble_eq_true rfl) ?_
        refine j_st (st' := [.ref (sK G r24), .int (D21.1 (11, 0, 0, 0) 20), .ref (ad G (11, 0, 0, 0))]) rfl ?_
        refine j_slen C g26 cw_X11_179 (by omega) (Nat.le_of_ble_eq_true rfl) dX11_tableClause_70 ?_
        refine j_iadd C dX11_tableClause_73 ?_
        obtain ⟨D27, eD27, h⟩ := bnd_x h
        refine j_putI C fl_X11_168 dX11_tableClause_74 (by decide) ⟨rfl, rfl⟩ rfl rfl rfl ?_
        refine j_rep eD27 ?_
        refine j_aload_n C 0 dX11_tableClause_77 rfl rfl ?_
        refine j_iload_n C 3 dX11_tableClause_78 rfl rfl ?_
        obtain ⟨D29, h28, h⟩ := vbd_x h
        refine j_callV C [.int l3_16] [] cl_X11_276 (M_X11_tablePart (lv := lv - 1) hG (by omega) h28) (by omega) dX11_tableClause_79 (by decide) ⟨rfl, rfl⟩ rfl rfl (Nat.le_of_ble_eq_true rfl) ?_
        refine j_st (st' := []) rfl ?_
        obtain rfl := Option.some.inj h
        exact j_vret C dX11_tableClause_82
      · have h := ite_f c22 h
        refine j_aload_n C 0 dX11_tableClause_54 rfl rfl ?_
        refine j_iconst C (4 : Int32) (by decide) dX11_tableClause_55 ?_
        refine j_iload_n C 2 dX11_tableClause_56 rfl rfl ?_
        obtain ⟨D31, h30, h⟩ := vbd_x h
        refine j_callV C [.int (4 : Int32), .int l2_15] [] cl_X11_204 (M_X11_fails (lv := lv - 1) hG (by omega) h30) (by omega) dX11_tableClause_57 (by decide) ⟨rfl, rfl⟩ rfl rfl (Nat.le_of_ble_eq_true rfl) ?_
        refine j_st (st' := []) rfl ?_
        obtain rfl := Option.some.inj h
        exact j_vret C dX11_tableClause_60
    · have h := ite_t c18 h
      refine j_aload_n C 0 dX11_tableClause_38 rfl rfl ?_
      refine j_iconst C (0 : Int32) (by decide) dX11_tableClause_39 ?_
      refine j_iload_n C 2 dX11_tableClause_40 rfl rfl ?_
      obtain ⟨D33, h32, h⟩ := vbd_x h
      refine j_callV C [.int (0 : Int32), .int l2_15] [] cl_X11_204 (M_X11_fails (lv := lv - 1) hG (by omega) h32) (by omega) dX11_tableClause_41 (by decide) ⟨rfl, rfl⟩ rfl rfl (Nat.le_of_ble_eq_true rfl) ?_
      refine j_st (st' := []) rfl ?_
      obtain rfl := Option.some.inj h
      exact j_vret C dX11_tableClause_44
def F_X11_copies_b2 (a1 : LA) (a2 : LA)  : Nat → Int32 → Dt → Option Dt
  | 0, _, _ => none
  | f + 1, l2, D => (if (Int32.ofNat (lenOf a1)) ≤ l2 then (some D) else (grd (inB l2 (lenOf a1) = true) (grd (inB l2 (lenOf a2) = true) (bnd (setI D a2 (l2.toNatClampNeg) (D.1 a1 (l2.toNatClampNeg))) (fun D4 => (bnd (l2 + (1 : Int32)) (fun v5 => (F_X11_copies_b2 a1 a2 f v5 D4))))))))
set_option maxRecDepth 100000 in
set_option maxHeartbeats 4000000 in
theorem T_X11_copies_b2 {D' : Dt} {X : Ctx} {l : Launch} {G : Gt} {A : Nat → Prop} {lv : Nat} {a1 : LA} {a2 : LA}   (hG : Gok G A) (hlv : 1 ≤ lv) (hv1 : V a1 = true ∧ sh a1 = .inr (0, lenOf a1)) (hv2 : V a2 = true ∧ sh a2 = .inr (0, lenOf a2))  (C : Cx X cX11_copies RX11 G l A lv 3 none none D')  : ∀ (f : Nat) (l2 : Int32) (D : Dt), F_X11_copies_b2 a1 a2 f l2 D = some D' → J X (Rep G D) 2 [(0, .ref (ad G a1)), (1, .ref (ad G a2)), (2, .int l2)] [] := by
  intro f
  induction f with
  | zero =>
    intro l2 D h
    exact nomatch h
  | succ f ih =>
    intro l2 D h
    rw [F_X11_copies_b2] at h
    refine j_iload_n C 2 dX11_copies_2 rfl rfl ?_
    refine j_aload_n C 0 dX11_copies_3 rfl rfl ?_
    refine j_alen C (Int32.ofNat (lenOf a1)) dX11_copies_4 hv1.1 hv1.2 (by decide) rfl ?_
    refine j_icmp_ge C 20 dX11_copies_5 (by decide) (fun c1 => ?_) (fun c1 => ?_)
    · have h := ite_t c1 h
      obtain rfl := Option.some.inj h
      exact j_vret C dX11_copies_20
    · have h := ite_f c1 h
      refine j_aload_n C 1 dX11_copies_8 rfl rfl ?_
      refine j_iload_n C 2 dX11_copies_9 rfl rfl ?_
      refine j_aload_n C 0 dX11_copies_10 rfl rfl ?_
      refine j_iload_n C 2 dX11_copies_11 rfl rfl ?_
      obtain ⟨g2, h⟩ := grd_x h
      refine j_ialdK C (lenOf a1) (l2.toNatClampNeg) dX11_copies_12 hv1.1 hv1.2 g2 rfl ?_
      obtain ⟨g3, h⟩ := grd_x h
      obtain ⟨D4, eD4, h⟩ := bnd_x h
      refine j_iastK C (lenOf a2) (l2.toNatClampNeg) dX11_copies_13 hv2.1 hv2.2 g3 rfl ?_
      refine j_rep eD4 ?_
      obtain ⟨v5, ev5, h⟩ := bnd_x h
      refine j_iinc C 2 [(2, .int v5), (0, .ref (ad G a1)), (1, .ref (ad G a2))] dX11_copies_14 rfl (Nat.le_of_ble_eq_true rfl) (ev5.trans (congrArg (l2 + ·) (by decide))) rfl ?_
      refine j_goto C 2 dX11_copies_17 (by decide) ?_
      refine j_sub [1, 2, 0] [(0, .ref (ad G a1)), (1, .ref (ad G a2)), (2, .int v5)] rfl ?_
      exact ih v5 D4 h
def F_X11_copies (a1 : LA) (a2 : LA) (D : Dt) : Option Dt := (grd (V a1 = true ∧ sh a1 = .inr (0, lenOf a1)) (grd (V a2 = true ∧ sh a2 = .inr (0, lenOf a2)) (F_X11_copies_b2 a1 a2 2000 (0 : Int32) D)))
set_option maxRecDepth 100000 in
set_option maxHeartbeats 4000000 in
theorem M_X11_copies {l : Launch} {G : Gt} {A : Nat → Prop} {lv : Nat} {a1 : LA} {a2 : LA} {D : Dt} {D' : Dt} (hG : Gok G A) (hlv : 1 ≤ lv)  (h : F_X11_copies a1 a2 D = some D') : MD l G A lv yX11_copies cX11_copies 3 none [.ref (ad G a1), .ref (ad G a2)] D none D' := by
  unfold F_X11_copies at h
  obtain ⟨hv1, h⟩ := grd_x h
  obtain ⟨hv2, h⟩ := grd_x h
  refine md_start RX11 hG (by decide +kernel) rfl (Nat.le_of_ble_eq_true rfl) (L := [(0, .ref (ad G a1)), (1, .ref (ad G a2))]) rfl (fun X C => ?_)
  refine j_iconst C (0 : Int32) (by decide) dX11_copies_0 ?_
  refine j_istore_n C [(2, .int (0 : Int32)), (0, .ref (ad G a1)), (1, .ref (ad G a2))] dX11_copies_1 rfl (Nat.le_of_ble_eq_true rfl) rfl rfl ?_
  refine j_sub [1, 2, 0] [(0, .ref (ad G a1)), (1, .ref (ad G a2)), (2, .int (0 : Int32))] rfl ?_
  refine T_X11_copies_b2 hG hlv hv1 hv2 C  2000 (0 : Int32) D h
def F_X11_goesOn_b63   (s0 : Int32) (D : Dt) : Option (Int32 × Dt) := (bnd (setI D (11, 0, 0, 0) 20 ((D.1 (11, 0, 0, 0) 20) + (1 : Int32))) (fun D5 => (grd (s0 = 0 ∨ s0 = 1) (some (s0, D5)))))
set_option maxRecDepth 100000 in
set_option maxHeartbeats 4000000 in
theorem T_X11_goesOn_b63 {r : Int32} {D' : Dt} {X : Ctx} {l : Launch} {G : Gt} {A : Nat → Prop} {lv : Nat}    (hG : Gok G A) (hlv : 3 ≤ lv)   (C : Cx X cX11_goesOn RX11 G l A lv 2 (some .boolean) (some (.int r)) D')  : ∀ (s0 : Int32) (D : Dt), F_X11_goesOn_b63  s0 D = some (r, D') → J X (Rep G D) 63 [(0, .ref (ad G (11, 0, 0, 0)))] [.int s0] := by
  intro s0 D h
  unfold F_X11_goesOn_b63 at h
  refine j_istore_n C [(1, .int s0), (0, .ref (ad G (11, 0, 0, 0)))] dX11_goesOn_63 rfl (Nat.le_of_ble_eq_true rfl) rfl rfl ?_
  refine j_aload_n C 1 dX11_goesOn_64 rfl rfl ?_
  refine j_dup C rfl dX11_goesOn_65 ?_
  refine j_getI C fl_X11_168 dX11_goesOn_66 (by decide) ⟨rfl, rfl⟩ rfl ?_
  refine j_iconst C (1 : Int32) (by decide) dX11_goesOn_69 ?_
  refine j_iadd C dX11_goesOn_70 ?_
  obtain ⟨D5, eD5, h⟩ := bnd_x h
  refine j_putI C fl_X11_168 dX11_goesOn_71 (by decide) ⟨rfl, rfl⟩ rfl rfl rfl ?_
  refine j_rep eD5 ?_
  refine j_iload_n C 0 dX11_goesOn_74 rfl rfl ?_
  obtain ⟨g6, h⟩ := grd_x h
  obtain ⟨rfl, rfl⟩ := pr_x h
  exact j_zret C g6 dX11_goesOn_75
def F_X11_goesOn_b62    (D : Dt) : Option (Int32 × Dt) := (F_X11_goesOn_b63  (0 : Int32) D)
set_option maxRecDepth 100000 in
set_option maxHeartbeats 4000000 in
theorem T_X11_goesOn_b62 {r : Int32} {D' : Dt} {X : Ctx} {l : Launch} {G : Gt} {A : Nat → Prop} {lv : Nat}    (hG : Gok G A) (hlv : 3 ≤ lv)   (C : Cx X cX11_goesOn RX11 G l A lv 2 (some .boolean) (some (.int r)) D')  : ∀  (D : Dt), F_X11_goesOn_b62   D = some (r, D') → J X (Rep G D) 62 [(0, .ref (ad G (11, 0, 0, 0)))] [] := by
  intro D h
  unfold F_X11_goesOn_b62 at h
  refine j_iconst C (0 : Int32) (by decide) dX11_goesOn_62 ?_
  refine T_X11_goesOn_b63 hG hlv  C  (0 : Int32) D h
def F_X11_goesOn_b40    (D : Dt) : Option (Int32 × Dt) := (if (D.1 (11, 0, 0, 0) 21) = 0 then (if (D.1 (11, 0, 0, 0) 19) ≤ (D.1 (11, 0, 0, 0) 20) then (F_X11_goesOn_b62   D) else (F_X11_goesOn_b63  (1 : Int32) D)) else (F_X11_goesOn_b62   D))
set_option maxRecDepth 100000 in
set_option maxHeartbeats 4000000 in
theorem T_X11_goesOn_b40 {r : Int32} {D' : Dt} {X : Ctx} {l : Launch} {G : Gt} {A : Nat → Prop} {lv : Nat}    (hG : Gok G A) (hlv : 3 ≤ lv)   (C : Cx X cX11_goesOn RX11 G l A lv 2 (some .boolean) (some (.int r)) D')  : ∀  (D : Dt), F_X11_goesOn_b40   D = some (r, D') → J X (Rep G D) 40 [(0, .ref (ad G (11, 0, 0, 0)))] [] := by
  intro D h
  unfold F_X11_goesOn_b40 at h
  refine j_aload_n C 0 dX11_goesOn_40 rfl rfl ?_
  refine j_getI C fl_X11_165 dX11_goesOn_41 (by decide) ⟨rfl, rfl⟩ rfl ?_
  refine j_if_ne C 62 dX11_goesOn_44 (by decide) (fun c4 => ?_) (fun c4 => ?_)
  · have h := ite_f c4 h
    refine T_X11_goesOn_b62 hG hlv  C   D h
  · have h := ite_t c4 h
    refine j_aload_n C 0 dX11_goesOn_47 rfl rfl ?_
    refine j_getI C fl_X11_168 dX11_goesOn_48 (by decide) ⟨rfl, rfl⟩ rfl ?_
    refine j_aload_n C 0 dX11_goesOn_51 rfl rfl ?_
    refine j_getI C fl_X11_138 dX11_goesOn_52 (by decide) ⟨rfl, rfl⟩ rfl ?_
    refine j_icmp_ge C 62 dX11_goesOn_55 (by decide) (fun c7 => ?_) (fun c7 => ?_)
    · have h := ite_t c7 h
      refine T_X11_goesOn_b62 hG hlv  C   D h
    · have h := ite_f c7 h
      refine j_iconst C (1 : Int32) (by decide) dX11_goesOn_58 ?_
      refine j_goto C 63 dX11_goesOn_59 (by decide) ?_
      refine T_X11_goesOn_b63 hG hlv  C  (1 : Int32) D h
def F_X11_goesOn  (D : Dt) : Option (Int32 × Dt) := (vbd (F_X11_blanks  D) (fun D2 => (if (D2.1 (11, 0, 0, 0) 21) = 0 then (if (D2.1 (11, 0, 0, 0) 19) ≤ (D2.1 (11, 0, 0, 0) 20) then (F_X11_goesOn_b40   D2) else (cbd (F_X11_sign  D2) (fun r10 D11 => (if r10 = (59 : Int32) then (F_X11_goesOn_b40   D11) else (vbd (F_X11_fails (0 : Int32) (D11.1 (11, 0, 0, 0) 20) D11) (fun D14 => (F_X11_goesOn_b40   D14))))))) else (F_X11_goesOn_b40   D2))))
set_option maxRecDepth 100000 in
set_option maxHeartbeats 4000000 in
theorem M_X11_goesOn {l : Launch} {G : Gt} {A : Nat → Prop} {lv : Nat}  {D : Dt} {r : Int32} {D' : Dt} (hG : Gok G A) (hlv : 3 ≤ lv)  (h : F_X11_goesOn  D = some (r, D')) : MD l G A lv yX11_goesOn cX11_goesOn 2 (some .boolean) [.ref (ad G (11, 0, 0, 0))] D (some (.int r)) D' := by
  unfold F_X11_goesOn at h
  refine md_start RX11 hG (by decide +kernel) rfl (Nat.le_of_ble_eq_true rfl) (L := [(0, .ref (ad G (11, 0, 0, 0)))]) rfl (fun X C => ?_)
  refine j_aload_n C 0 dX11_goesOn_0 rfl rfl ?_
  obtain ⟨D2, h1, h⟩ := vbd_x h
  refine j_callV C [] [] cl_X11_188 (M_X11_blanks (lv := lv - 1) hG (by omega) h1) (by omega) dX11_goesOn_1 (by decide) ⟨rfl, rfl⟩ rfl rfl (Nat.le_of_ble_eq_true rfl) ?_
  refine j_st (st' := []) rfl ?_
  refine j_aload_n C 0 dX11_goesOn_4 rfl rfl ?_
  refine j_getI C fl_X11_165 dX11_goesOn_5 (by decide) ⟨rfl, rfl⟩ rfl ?_
  refine j_if_ne C 40 dX11_goesOn_8 (by decide) (fun c3 => ?_) (fun c3 => ?_)
  · have h := ite_f c3 h
    refine T_X11_goesOn_b40 hG hlv  C   D2 h
  · have h := ite_t c3 h
    refine j_aload_n C 0 dX11_goesOn_11 rfl rfl ?_
    refine j_getI C fl_X11_168 dX11_goesOn_12 (by decide) ⟨rfl, rfl⟩ rfl ?_
    refine j_aload_n C 0 dX11_goesOn_15 rfl rfl ?_
    refine j_getI C fl_X11_138 dX11_goesOn_16 (by decide) ⟨rfl, rfl⟩ rfl ?_
    refine j_icmp_ge C 40 dX11_goesOn_19 (by decide) (fun c8 => ?_) (fun c8 => ?_)
    · have h := ite_t c8 h
      refine T_X11_goesOn_b40 hG hlv  C   D2 h
    · have h := ite_f c8 h
      refine j_aload_n C 0 dX11_goesOn_22 rfl rfl ?_
      obtain ⟨r10, D11, h9, h⟩ := cbd_x h
      refine j_callV C [] [] cl_X11_171 (M_X11_sign (lv := lv - 1) hG (by omega) h9) (by omega) dX11_goesOn_23 (by decide) ⟨rfl, rfl⟩ rfl rfl (Nat.le_of_ble_eq_true rfl) ?_
      refine j_st (st' := [.int r10]) rfl ?_
      refine j_bipush C (59 : Int32) (by decide) dX11_goesOn_26 ?_
      refine j_icmp_eq C 40 dX11_goesOn_28 (by decide) (fun c12 => ?_) (fun c12 => ?_)
      · have h := ite_t c12 h
        refine T_X11_goesOn_b40 hG hlv  C   D11 h
      · have h := ite_f c12 h
        refine j_aload_n C 0 dX11_goesOn_31 rfl rfl ?_
        refine j_iconst C (0 : Int32) (by decide) dX11_goesOn_32 ?_
        refine j_aload_n C 0 dX11_goesOn_33 rfl rfl ?_
        refine j_getI C fl_X11_168 dX11_goesOn_34 (by decide) ⟨rfl, rfl⟩ rfl ?_
        obtain ⟨D14, h13, h⟩ := vbd_x h
        refine j_callV C [.int (0 : Int32), .int (D11.1 (11, 0, 0, 0) 20)] [] cl_X11_204 (M_X11_fails (lv := lv - 1) hG (by omega) h13) (by omega) dX11_goesOn_37 (by decide) ⟨rfl, rfl⟩ rfl rfl (Nat.le_of_ble_eq_true rfl) ?_
        refine j_st (st' := []) rfl ?_
        refine T_X11_goesOn_b40 hG hlv  C   D14 h
def F_X11_starts  (D : Dt) : Option Dt := (bnd (setI D (11, 0, 0, 0) 20 (0 : Int32)) (fun D1 => (bnd (setI D1 (11, 0, 0, 0) 21 (0 : Int32)) (fun D2 => (bnd (setI D2 (11, 0, 0, 0) 24 (0 : Int32)) (fun D3 => (bnd (setI D3 (11, 0, 0, 0) 25 (0 : Int32)) (fun D4 => (bnd (setI D4 (11, 0, 0, 0) 26 (0 : Int32)) (fun D5 => (some D5)))))))))))
set_option maxRecDepth 100000 in
set_option maxHeartbeats 4000000 in
theorem M_X11_starts {l : Launch} {G : Gt} {A : Nat → Prop} {lv : Nat}  {D : Dt} {D' : Dt} (hG : Gok G A) (hlv : 1 ≤ lv)  (h : F_X11_starts  D = some D') : MD l G A lv yX11_starts cX11_starts 1 none [.ref (ad G (11, 0, 0, 0))] D none D' := by
  unfold F_X11_starts at h
  refine md_start RX11 hG (by decide +kernel) rfl (Nat.le_of_ble_eq_true rfl) (L := [(0, .ref (ad G (11, 0, 0, 0)))]) rfl (fun X C => ?_)
  refine j_aload_n C 0 dX11_starts_0 rfl rfl ?_
  refine j_iconst C (0 : Int32) (by decide) dX11_starts_1 ?_
  obtain ⟨D1, eD1, h⟩ := bnd_x h
  refine j_putI C fl_X11_168 dX11_starts_2 (by decide) ⟨rfl, rfl⟩ rfl rfl rfl ?_
  refine j_rep eD1 ?_
  refine j_aload_n C 0 dX11_starts_5 rfl rfl ?_
  refine j_iconst C (0 : Int32) (by decide) dX11_starts_6 ?_
  obtain ⟨D2, eD2, h⟩ := bnd_x h
  refine j_putI C fl_X11_165 dX11_starts_7 (by decide) ⟨rfl, rfl⟩ rfl rfl rfl ?_
  refine j_rep eD2 ?_
  refine j_aload_n C 0 dX11_starts_10 rfl rfl ?_
  refine j_iconst C (0 : Int32) (by decide) dX11_starts_11 ?_
  obtain ⟨D3, eD3, h⟩ := bnd_x h
  refine j_putI C fl_X11_198 dX11_starts_12 (by decide) ⟨rfl, rfl⟩ rfl rfl rfl ?_
  refine j_rep eD3 ?_
  refine j_aload_n C 0 dX11_starts_15 rfl rfl ?_
  refine j_iconst C (0 : Int32) (by decide) dX11_starts_16 ?_
  obtain ⟨D4, eD4, h⟩ := bnd_x h
  refine j_putI C fl_X11_239 dX11_starts_17 (by decide) ⟨rfl, rfl⟩ rfl rfl rfl ?_
  refine j_rep eD4 ?_
  refine j_aload_n C 0 dX11_starts_20 rfl rfl ?_
  refine j_iconst C (0 : Int32) (by decide) dX11_starts_21 ?_
  obtain ⟨D5, eD5, h⟩ := bnd_x h
  refine j_putI C fl_X11_201 dX11_starts_22 (by decide) ⟨rfl, rfl⟩ rfl rfl rfl ?_
  refine j_rep eD5 ?_
  obtain rfl := Option.some.inj h
  exact j_vret C dX11_starts_25
def F_X11_readsAll_b6  (k24 : Dt → Option Dt) : Nat → Int32 → Dt → Option Dt
  | 0, _, _ => none
  | f + 1, l1, D => (if (3 : Int32) ≤ l1 then (k24  D) else (grd (inB l1 3 = true) (bnd (setI D (11, 0, 15, 0) (l1.toNatClampNeg) (0 : Int32)) (fun D5 => (bnd (l1 + (1 : Int32)) (fun v6 => (F_X11_readsAll_b6 k24 f v6 D5)))))))
set_option maxRecDepth 100000 in
set_option maxHeartbeats 4000000 in
theorem T_X11_readsAll_b6 {D' : Dt} {X : Ctx} {l : Launch} {G : Gt} {A : Nat → Prop} {lv : Nat}   {k24 : Dt → Option Dt} (hG : Gok G A) (hlv : 10 ≤ lv)   (C : Cx X cX11_readsAll RX11 G l A lv 3 none none D') (hk24 : ∀  (D : Dt), k24  D = some D' → J X (Rep G D) 24 [(0, .ref (ad G (11, 0, 0, 0)))] []) : ∀ (f : Nat) (l1 : Int32) (D : Dt), F_X11_readsAll_b6 k24 f l1 D = some D' → J X (Rep G D) 6 [(0, .ref (ad G (11, 0, 0, 0))), (1, .int l1)] [] := by
  intro f
  induction f with
  | zero =>
    intro l1 D h
    exact nomatch h
  | succ f ih =>
    intro l1 D h
    rw [F_X11_readsAll_b6] at h
    refine j_iload_n C 1 dX11_readsAll_6 rfl rfl ?_
    refine j_iconst C (3 : Int32) (by decide) dX11_readsAll_7 ?_
    refine j_icmp_ge C 24 dX11_readsAll_8 (by decide) (fun c3 => ?_) (fun c3 => ?_)
    · have h := ite_t c3 h
      refine j_sub [0] [(0, .ref (ad G (11, 0, 0, 0)))] rfl ?_
      exact hk24  D h
    · have h := ite_f c3 h
      refine j_aload_n C 0 dX11_readsAll_11 rfl rfl ?_
      refine j_getS C (11, 0, 15, 0) fl_X11_49 dX11_readsAll_12 (by decide) ⟨rfl, rfl⟩ rfl rfl ?_
      refine j_iload_n C 1 dX11_readsAll_15 rfl rfl ?_
      refine j_iconst C (0 : Int32) (by decide) dX11_readsAll_16 ?_
      obtain ⟨g4, h⟩ := grd_x h
      obtain ⟨D5, eD5, h⟩ := bnd_x h
      refine j_iastK C 3 (l1.toNatClampNeg) dX11_readsAll_17 (V_f 14 (by decide) (by decide)) rfl g4 rfl ?_
      refine j_rep eD5 ?_
      obtain ⟨v6, ev6, h⟩ := bnd_x h
      refine j_iinc C 1 [(1, .int v6), (0, .ref (ad G (11, 0, 0, 0)))] dX11_readsAll_18 rfl (Nat.le_of_ble_eq_true rfl) (ev6.trans (congrArg (l1 + ·) (by decide))) rfl ?_
      refine j_goto C 6 dX11_readsAll_21 (by decide) ?_
      refine j_sub [1, 0] [(0, .ref (ad G (11, 0, 0, 0))), (1, .int v6)] rfl ?_
      exact ih v6 D5 h
def F_X11_readsAll_b26  (k48 : Dt → Option Dt) : Nat → Int32 → Dt → Option Dt
  | 0, _, _ => none
  | f + 1, l1, D => (if (305 : Int32) ≤ l1 then (k48  D) else (grd (inB l1 305 = true) (bnd (setI D (11, 0, 19, 0) (l1.toNatClampNeg) (0 : Int32)) (fun D10 => (bnd (l1 + (1 : Int32)) (fun v11 => (F_X11_readsAll_b26 k48 f v11 D10)))))))
set_option maxRecDepth 100000 in
set_option maxHeartbeats 4000000 in
theorem T_X11_readsAll_b26 {D' : Dt} {X : Ctx} {l : Launch} {G : Gt} {A : Nat → Prop} {lv : Nat}   {k48 : Dt → Option Dt} (hG : Gok G A) (hlv : 10 ≤ lv)   (C : Cx X cX11_readsAll RX11 G l A lv 3 none none D') (hk48 : ∀  (D : Dt), k48  D = some D' → J X (Rep G D) 48 [(0, .ref (ad G (11, 0, 0, 0)))] []) : ∀ (f : Nat) (l1 : Int32) (D : Dt), F_X11_readsAll_b26 k48 f l1 D = some D' → J X (Rep G D) 26 [(0, .ref (ad G (11, 0, 0, 0))), (1, .int l1)] [] := by
  intro f
  induction f with
  | zero =>
    intro l1 D h
    exact nomatch h
  | succ f ih =>
    intro l1 D h
    rw [F_X11_readsAll_b26] at h
    refine j_iload_n C 1 dX11_readsAll_26 rfl rfl ?_
    refine j_aload_n C 0 dX11_readsAll_27 rfl rfl ?_
    refine j_getS C (11, 0, 19, 0) fl_X11_61 dX11_readsAll_28 (by decide) ⟨rfl, rfl⟩ rfl rfl ?_
    refine j_alen C (305 : Int32) dX11_readsAll_31 (V_f 18 (by decide) (by decide)) rfl (by decide) (by decide) ?_
    refine j_icmp_ge C 48 dX11_readsAll_32 (by decide) (fun c8 => ?_) (fun c8 => ?_)
    · have h := ite_t c8 h
      refine j_sub [0] [(0, .ref (ad G (11, 0, 0, 0)))] rfl ?_
      exact hk48  D h
    · have h := ite_f c8 h
      refine j_aload_n C 0 dX11_readsAll_35 rfl rfl ?_
      refine j_getS C (11, 0, 19, 0) fl_X11_61 dX11_readsAll_36 (by decide) ⟨rfl, rfl⟩ rfl rfl ?_
      refine j_iload_n C 1 dX11_readsAll_39 rfl rfl ?_
      refine j_iconst C (0 : Int32) (by decide) dX11_readsAll_40 ?_
      obtain ⟨g9, h⟩ := grd_x h
      obtain ⟨D10, eD10, h⟩ := bnd_x h
      refine j_iastK C 305 (l1.toNatClampNeg) dX11_readsAll_41 (V_f 18 (by decide) (by decide)) rfl g9 rfl ?_
      refine j_rep eD10 ?_
      obtain ⟨v11, ev11, h⟩ := bnd_x h
      refine j_iinc C 1 [(1, .int v11), (0, .ref (ad G (11, 0, 0, 0)))] dX11_readsAll_42 rfl (Nat.le_of_ble_eq_true rfl) (ev11.trans (congrArg (l1 + ·) (by decide))) rfl ?_
      refine j_goto C 26 dX11_readsAll_45 (by decide) ?_
      refine j_sub [1, 0] [(0, .ref (ad G (11, 0, 0, 0))), (1, .int v11)] rfl ?_
      exact ih v11 D10 h
def F_X11_readsAll_b50  (k82 : Dt → Option Dt) : Nat → Int32 → Dt → Option Dt
  | 0, _, _ => none
  | f + 1, l1, D => (if (5 : Int32) ≤ l1 then (k82  D) else (grd (inB l1 5 = true) (bnd (setI D (11, 0, 16, 0) (l1.toNatClampNeg) (0 : Int32)) (fun D15 => (bnd (setI D15 (11, 0, 17, 0) (l1.toNatClampNeg) (0 : Int32)) (fun D16 => (bnd (setI D16 (11, 0, 18, 0) (l1.toNatClampNeg) (0 : Int32)) (fun D17 => (bnd (l1 + (1 : Int32)) (fun v18 => (F_X11_readsAll_b50 k82 f v18 D17)))))))))))
set_option maxRecDepth 100000 in
set_option maxHeartbeats 4000000 in
theorem T_X11_readsAll_b50 {D' : Dt} {X : Ctx} {l : Launch} {G : Gt} {A : Nat → Prop} {lv : Nat}   {k82 : Dt → Option Dt} (hG : Gok G A) (hlv : 10 ≤ lv)   (C : Cx X cX11_readsAll RX11 G l A lv 3 none none D') (hk82 : ∀  (D : Dt), k82  D = some D' → J X (Rep G D) 82 [(0, .ref (ad G (11, 0, 0, 0)))] []) : ∀ (f : Nat) (l1 : Int32) (D : Dt), F_X11_readsAll_b50 k82 f l1 D = some D' → J X (Rep G D) 50 [(0, .ref (ad G (11, 0, 0, 0))), (1, .int l1)] [] := by
  intro f
  induction f with
  | zero =>
    intro l1 D h
    exact nomatch h
  | succ f ih =>
    intro l1 D h
    rw [F_X11_readsAll_b50] at h
    refine j_iload_n C 1 dX11_readsAll_50 rfl rfl ?_
    refine j_iconst C (5 : Int32) (by decide) dX11_readsAll_51 ?_
    refine j_icmp_ge C 82 dX11_readsAll_52 (by decide) (fun c13 => ?_) (fun c13 => ?_)
    · have h := ite_t c13 h
      refine j_sub [0] [(0, .ref (ad G (11, 0, 0, 0)))] rfl ?_
      exact hk82  D h
    · have h := ite_f c13 h
      refine j_aload_n C 0 dX11_readsAll_55 rfl rfl ?_
      refine j_getS C (11, 0, 16, 0) fl_X11_52 dX11_readsAll_56 (by decide) ⟨rfl, rfl⟩ rfl rfl ?_
      refine j_iload_n C 1 dX11_readsAll_59 rfl rfl ?_
      refine j_iconst C (0 : Int32) (by decide) dX11_readsAll_60 ?_
      obtain ⟨g14, h⟩ := grd_x h
      obtain ⟨D15, eD15, h⟩ := bnd_x h
      refine j_iastK C 5 (l1.toNatClampNeg) dX11_readsAll_61 (V_f 15 (by decide) (by decide)) rfl g14 rfl ?_
      refine j_rep eD15 ?_
      refine j_aload_n C 0 dX11_readsAll_62 rfl rfl ?_
      refine j_getS C (11, 0, 17, 0) fl_X11_55 dX11_readsAll_63 (by decide) ⟨rfl, rfl⟩ rfl rfl ?_
      refine j_iload_n C 1 dX11_readsAll_66 rfl rfl ?_
      refine j_iconst C (0 : Int32) (by decide) dX11_readsAll_67 ?_
      obtain ⟨D16, eD16, h⟩ := bnd_x h
      refine j_iastK C 5 (l1.toNatClampNeg) dX11_readsAll_68 (V_f 16 (by decide) (by decide)) rfl g14 rfl ?_
      refine j_rep eD16 ?_
      refine j_aload_n C 0 dX11_readsAll_69 rfl rfl ?_
      refine j_getS C (11, 0, 18, 0) fl_X11_58 dX11_readsAll_70 (by decide) ⟨rfl, rfl⟩ rfl rfl ?_
      refine j_iload_n C 1 dX11_readsAll_73 rfl rfl ?_
      refine j_iconst C (0 : Int32) (by decide) dX11_readsAll_74 ?_
      obtain ⟨D17, eD17, h⟩ := bnd_x h
      refine j_iastK C 5 (l1.toNatClampNeg) dX11_readsAll_75 (V_f 17 (by decide) (by decide)) rfl g14 rfl ?_
      refine j_rep eD17 ?_
      obtain ⟨v18, ev18, h⟩ := bnd_x h
      refine j_iinc C 1 [(1, .int v18), (0, .ref (ad G (11, 0, 0, 0)))] dX11_readsAll_76 rfl (Nat.le_of_ble_eq_true rfl) (ev18.trans (congrArg (l1 + ·) (by decide))) rfl ?_
      refine j_goto C 50 dX11_readsAll_79 (by decide) ?_
      refine j_sub [1, 0] [(0, .ref (ad G (11, 0, 0, 0))), (1, .int v18)] rfl ?_
      exact ih v18 D17 h
def F_X11_readsAll_b86  (k106 : Dt → Option Dt) : Nat → Int32 → Int32 → Dt → Option Dt
  | 0, _, _, _ => none
  | f + 1, l1, l2, D => (if l2 = 0 then (k106  D) else (vbd (F_X11_tableClause l1 D) (fun D22 => (bnd (l1 + (1 : Int32)) (fun v23 => (cbd (F_X11_goesOn  D22) (fun r25 D26 => (F_X11_readsAll_b86 k106 f v23 r25 D26))))))))
set_option maxRecDepth 100000 in
set_option maxHeartbeats 4000000 in
theorem T_X11_readsAll_b86 {D' : Dt} {X : Ctx} {l : Launch} {G : Gt} {A : Nat → Prop} {lv : Nat}   {k106 : Dt → Option Dt} (hG : Gok G A) (hlv : 10 ≤ lv)   (C : Cx X cX11_readsAll RX11 G l A lv 3 none none D') (hk106 : ∀  (D : Dt), k106  D = some D' → J X (Rep G D) 106 [(0, .ref (ad G (11, 0, 0, 0)))] []) : ∀ (f : Nat) (l1 : Int32) (l2 : Int32) (D : Dt), F_X11_readsAll_b86 k106 f l1 l2 D = some D' → J X (Rep G D) 86 [(0, .ref (ad G (11, 0, 0, 0))), (1, .int l1), (2, .int l2)] [] := by
  intro f
  induction f with
  | zero =>
    intro l1 l2 D h
    exact nomatch h
  | succ f ih =>
    intro l1 l2 D h
    rw [F_X11_readsAll_b86] at h
    refine j_iload_n C 2 dX11_readsAll_86 rfl rfl ?_
    refine j_if_eq C 106 dX11_readsAll_87 (by decide) (fun c20 => ?_) (fun c20 => ?_)
    · have h := ite_t c20 h
      refine j_sub [0] [(0, .ref (ad G (11, 0, 0, 0)))] rfl ?_
      exact hk106  D h
    · have h := ite_f c20 h
      refine j_aload_n C 0 dX11_readsAll_90 rfl rfl ?_
      refine j_iload_n C 1 dX11_readsAll_91 rfl rfl ?_
      obtain ⟨D22, h21, h⟩ := vbd_x h
      refine j_callV C [.int l1] [] cl_X11_282 (M_X11_tableClause (lv := lv - 1) hG (by omega) h21) (by omega) dX11_readsAll_92 (by decide) ⟨rfl, rfl⟩ rfl rfl (Nat.le_of_ble_eq_true rfl) ?_
      refine j_st (st' := []) rfl ?_
      obtain ⟨v23, ev23, h⟩ := bnd_x h
      refine j_iinc C 1 [(1, .int v23), (0, .ref (ad G (11, 0, 0, 0))), (2, .int l2)] dX11_readsAll_95 rfl (Nat.le_of_ble_eq_true rfl) (ev23.trans (congrArg (l1 + ·) (by decide))) rfl ?_
      refine j_aload_n C 1 dX11_readsAll_98 rfl rfl ?_
      obtain ⟨r25, D26, h24, h⟩ := cbd_x h
      refine j_callV C [] [] cl_X11_285 (M_X11_goesOn (lv := lv - 1) hG (by omega) h24) (by omega) dX11_readsAll_99 (by decide) ⟨rfl, rfl⟩ rfl rfl (Nat.le_of_ble_eq_true rfl) ?_
      refine j_st (st' := [.int r25]) rfl ?_
      refine j_istore_n C [(2, .int r25), (1, .int v23), (0, .ref (ad G (11, 0, 0, 0)))] dX11_readsAll_102 rfl (Nat.le_of_ble_eq_true rfl) rfl rfl ?_
      refine j_goto C 86 dX11_readsAll_103 (by decide) ?_
      refine j_sub [2, 1, 0] [(0, .ref (ad G (11, 0, 0, 0))), (1, .int v23), (2, .int r25)] rfl ?_
      exact ih v23 r25 D26 h
def F_X11_readsAll  (D : Dt) : Option Dt := (vbd (F_X11_starts  D) (fun D2 => (F_X11_readsAll_b6 (fun D7 => (F_X11_readsAll_b26 (fun D12 => (F_X11_readsAll_b50 (fun D19 => (F_X11_readsAll_b86 (fun D27 => (bnd (setI D27 (11, 0, 0, 0) 19 (0 : Int32)) (fun D28 => (some D28)))) 2000 (0 : Int32) (1 : Int32) D19)) 2000 (0 : Int32) D12)) 2000 (0 : Int32) D7)) 2000 (0 : Int32) D2)))
set_option maxRecDepth 100000 in
set_option maxHeartbeats 4000000 in
theorem M_X11_readsAll {l : Launch} {G : Gt} {A : Nat → Prop} {lv : Nat}  {D : Dt} {D' : Dt} (hG : Gok G A) (hlv : 10 ≤ lv)  (h : F_X11_readsAll  D = some D') : MD l G A lv yX11_readsAll cX11_readsAll 3 none [.ref (ad G (11, 0, 0, 0))] D none D' := by
  unfold F_X11_readsAll at h
  refine md_start RX11 hG (by decide +kernel) rfl (Nat.le_of_ble_eq_true rfl) (L := [(0, .ref (ad G (11, 0, 0, 0)))]) rfl (fun X C => ?_)
  refine j_aload_n C 0 dX11_readsAll_0 rfl rfl ?_
  obtain ⟨D2, h1, h⟩ := vbd_x h
  refine j_callV C [] [] cl_X11_279 (M_X11_starts (lv := lv - 1) hG (by omega) h1) (by omega) dX11_readsAll_1 (by decide) ⟨rfl, rfl⟩ rfl rfl (Nat.le_of_ble_eq_true rfl) ?_
  refine j_st (st' := []) rfl ?_
  refine j_iconst C (0 : Int32) (by decide) dX11_readsAll_4 ?_
  refine j_istore_n C [(1, .int (0 : Int32)), (0, .ref (ad G (11, 0, 0, 0)))] dX11_readsAll_5 rfl (Nat.le_of_ble_eq_true rfl) rfl rfl ?_
  refine j_sub [1, 0] [(0, .ref (ad G (11, 0, 0, 0))), (1, .int (0 : Int32))] rfl ?_
  refine T_X11_readsAll_b6 hG hlv  C (fun D7 h => ?_) 2000 (0 : Int32) D2 h
  · refine j_iconst C (0 : Int32) (by decide) dX11_readsAll_24 ?_
    refine j_istore_n C [(1, .int (0 : Int32)), (0, .ref (ad G (11, 0, 0, 0)))] dX11_readsAll_25 rfl (Nat.le_of_ble_eq_true rfl) rfl rfl ?_
    refine j_sub [1, 0] [(0, .ref (ad G (11, 0, 0, 0))), (1, .int (0 : Int32))] rfl ?_
    refine T_X11_readsAll_b26 hG hlv  C (fun D12 h => ?_) 2000 (0 : Int32) D7 h
    · refine j_iconst C (0 : Int32) (by decide) dX11_readsAll_48 ?_
      refine j_istore_n C [(1, .int (0 : Int32)), (0, .ref (ad G (11, 0, 0, 0)))] dX11_readsAll_49 rfl (Nat.le_of_ble_eq_true rfl) rfl rfl ?_
      refine j_sub [1, 0] [(0, .ref (ad G (11, 0, 0, 0))), (1, .int (0 : Int32))] rfl ?_
      refine T_X11_readsAll_b50 hG hlv  C (fun D19 h => ?_) 2000 (0 : Int32) D12 h
      · refine j_iconst C (0 : Int32) (by decide) dX11_readsAll_82 ?_
        refine j_istore_n C [(1, .int (0 : Int32)), (0, .ref (ad G (11, 0, 0, 0)))] dX11_readsAll_83 rfl (Nat.le_of_ble_eq_true rfl) rfl rfl ?_
        refine j_iconst C (1 : Int32) (by decide) dX11_readsAll_84 ?_
        refine j_istore_n C [(2, .int (1 : Int32)), (1, .int (0 : Int32)), (0, .ref (ad G (11, 0, 0, 0)))] dX11_readsAll_85 rfl (Nat.le_of_ble_eq_true rfl) rfl rfl ?_
        refine j_sub [2, 1, 0] [(0, .ref (ad G (11, 0, 0, 0))), (1, .int (0 : Int32)), (2, .int (1 : Int32))] rfl ?_
        refine T_X11_readsAll_b86 hG hlv  C (fun D27 h => ?_) 2000 (0 : Int32) (1 : Int32) D19 h
        · refine j_aload_n C 0 dX11_readsAll_106 rfl rfl ?_
          refine j_iconst C (0 : Int32) (by decide) dX11_readsAll_107 ?_
          obtain ⟨D28, eD28, h⟩ := bnd_x h
          refine j_putI C fl_X11_138 dX11_readsAll_108 (by decide) ⟨rfl, rfl⟩ rfl rfl rfl ?_
          refine j_rep eD28 ?_
          obtain rfl := Option.some.inj h
          exact j_vret C dX11_readsAll_111
def F_X11_begins_b61   : Nat → Int32 → Dt → Option Dt
  | 0, _, _ => none
  | f + 1, l1, D => (if (5 : Int32) ≤ l1 then (some D) else (grd (inB l1 5 = true) (bnd (setI D (11, 0, 6, 0) (l1.toNatClampNeg) (0 : Int32)) (fun D12 => (bnd (setI D12 (11, 0, 7, 0) (l1.toNatClampNeg) (-1 : Int32)) (fun D13 => (bnd (l1 + (1 : Int32)) (fun v14 => (F_X11_begins_b61  f v14 D13)))))))))
set_option maxRecDepth 100000 in
set_option maxHeartbeats 4000000 in
theorem T_X11_begins_b61 {D' : Dt} {X : Ctx} {l : Launch} {G : Gt} {A : Nat → Prop} {lv : Nat}    (hG : Gok G A) (hlv : 2 ≤ lv)   (C : Cx X cX11_begins RX11 G l A lv 2 none none D')  : ∀ (f : Nat) (l1 : Int32) (D : Dt), F_X11_begins_b61  f l1 D = some D' → J X (Rep G D) 61 [(0, .ref (ad G (11, 0, 0, 0))), (1, .int l1)] [] := by
  intro f
  induction f with
  | zero =>
    intro l1 D h
    exact nomatch h
  | succ f ih =>
    intro l1 D h
    rw [F_X11_begins_b61] at h
    refine j_iload_n C 1 dX11_begins_61 rfl rfl ?_
    refine j_iconst C (5 : Int32) (by decide) dX11_begins_62 ?_
    refine j_icmp_ge C 86 dX11_begins_63 (by decide) (fun c10 => ?_) (fun c10 => ?_)
    · have h := ite_t c10 h
      obtain rfl := Option.some.inj h
      exact j_vret C dX11_begins_86
    · have h := ite_f c10 h
      refine j_aload_n C 0 dX11_begins_66 rfl rfl ?_
      refine j_getS C (11, 0, 6, 0) fl_X11_22 dX11_begins_67 (by decide) ⟨rfl, rfl⟩ rfl rfl ?_
      refine j_iload_n C 1 dX11_begins_70 rfl rfl ?_
      refine j_iconst C (0 : Int32) (by decide) dX11_begins_71 ?_
      obtain ⟨g11, h⟩ := grd_x h
      obtain ⟨D12, eD12, h⟩ := bnd_x h
      refine j_iastK C 5 (l1.toNatClampNeg) dX11_begins_72 (V_f 5 (by decide) (by decide)) rfl g11 rfl ?_
      refine j_rep eD12 ?_
      refine j_aload_n C 0 dX11_begins_73 rfl rfl ?_
      refine j_getS C (11, 0, 7, 0) fl_X11_25 dX11_begins_74 (by decide) ⟨rfl, rfl⟩ rfl rfl ?_
      refine j_iload_n C 1 dX11_begins_77 rfl rfl ?_
      refine j_iconst C (-1 : Int32) (by decide) dX11_begins_78 ?_
      obtain ⟨D13, eD13, h⟩ := bnd_x h
      refine j_iastK C 5 (l1.toNatClampNeg) dX11_begins_79 (V_f 6 (by decide) (by decide)) rfl g11 rfl ?_
      refine j_rep eD13 ?_
      obtain ⟨v14, ev14, h⟩ := bnd_x h
      refine j_iinc C 1 [(1, .int v14), (0, .ref (ad G (11, 0, 0, 0)))] dX11_begins_80 rfl (Nat.le_of_ble_eq_true rfl) (ev14.trans (congrArg (l1 + ·) (by decide))) rfl ?_
      refine j_goto C 61 dX11_begins_83 (by decide) ?_
      refine j_sub [1, 0] [(0, .ref (ad G (11, 0, 0, 0))), (1, .int v14)] rfl ?_
      exact ih v14 D13 h
def F_X11_begins  (D : Dt) : Option Dt := (vbd (F_X11_copies (11, 0, 12, 0) (11, 0, 3, 0) D) (fun D2 => (vbd (F_X11_copies (11, 0, 13, 0) (11, 0, 4, 0) D2) (fun D4 => (vbd (F_X11_copies (11, 0, 14, 0) (11, 0, 5, 0) D4) (fun D6 => (bnd (setI D6 (11, 0, 2, 0) 3 (D6.1 (11, 0, 2, 0) 0)) (fun D7 => (bnd (setI D7 (11, 0, 2, 0) 4 (0 : Int32)) (fun D8 => (bnd (setI D8 (11, 0, 2, 0) 5 (0 : Int32)) (fun D9 => (F_X11_begins_b61  2000 (0 : Int32) D9)))))))))))))
set_option maxRecDepth 100000 in
set_option maxHeartbeats 4000000 in
theorem M_X11_begins {l : Launch} {G : Gt} {A : Nat → Prop} {lv : Nat}  {D : Dt} {D' : Dt} (hG : Gok G A) (hlv : 2 ≤ lv)  (h : F_X11_begins  D = some D') : MD l G A lv yX11_begins cX11_begins 2 none [.ref (ad G (11, 0, 0, 0))] D none D' := by
  unfold F_X11_begins at h
  refine md_start RX11 hG (by decide +kernel) rfl (Nat.le_of_ble_eq_true rfl) (L := [(0, .ref (ad G (11, 0, 0, 0)))]) rfl (fun X C => ?_)
  refine j_aload_n C 0 dX11_begins_0 rfl rfl ?_
  refine j_getS C (11, 0, 12, 0) fl_X11_40 dX11_begins_1 (by decide) ⟨rfl, rfl⟩ rfl rfl ?_
  refine j_aload_n C 0 dX11_begins_4 rfl rfl ?_
  refine j_getS C (11, 0, 3, 0) fl_X11_13 dX11_begins_5 (by decide) ⟨rfl, rfl⟩ rfl rfl ?_
  obtain ⟨D2, h1, h⟩ := vbd_x h
  refine j_callS C [.ref (ad G (11, 0, 12, 0)), .ref (ad G (11, 0, 3, 0))] [] cl_X11_288 (M_X11_copies (lv := lv - 1) hG (by omega) h1) (by omega) dX11_begins_8 rfl rfl (Nat.le_of_ble_eq_true rfl) ?_
  refine j_st (st' := []) rfl ?_
  refine j_aload_n C 0 dX11_begins_11 rfl rfl ?_
  refine j_getS C (11, 0, 13, 0) fl_X11_43 dX11_begins_12 (by decide) ⟨rfl, rfl⟩ rfl rfl ?_
  refine j_aload_n C 0 dX11_begins_15 rfl rfl ?_
  refine j_getS C (11, 0, 4, 0) fl_X11_16 dX11_begins_16 (by decide) ⟨rfl, rfl⟩ rfl rfl ?_
  obtain ⟨D4, h3, h⟩ := vbd_x h
  refine j_callS C [.ref (ad G (11, 0, 13, 0)), .ref (ad G (11, 0, 4, 0))] [] cl_X11_288 (M_X11_copies (lv := lv - 1) hG (by omega) h3) (by omega) dX11_begins_19 rfl rfl (Nat.le_of_ble_eq_true rfl) ?_
  refine j_st (st' := []) rfl ?_
  refine j_aload_n C 0 dX11_begins_22 rfl rfl ?_
  refine j_getS C (11, 0, 14, 0) fl_X11_46 dX11_begins_23 (by decide) ⟨rfl, rfl⟩ rfl rfl ?_
  refine j_aload_n C 0 dX11_begins_26 rfl rfl ?_
  refine j_getS C (11, 0, 5, 0) fl_X11_19 dX11_begins_27 (by decide) ⟨rfl, rfl⟩ rfl rfl ?_
  obtain ⟨D6, h5, h⟩ := vbd_x h
  refine j_callS C [.ref (ad G (11, 0, 14, 0)), .ref (ad G (11, 0, 5, 0))] [] cl_X11_288 (M_X11_copies (lv := lv - 1) hG (by omega) h5) (by omega) dX11_begins_30 rfl rfl (Nat.le_of_ble_eq_true rfl) ?_
  refine j_st (st' := []) rfl ?_
  refine j_aload_n C 0 dX11_begins_33 rfl rfl ?_
  refine j_getS C (11, 0, 2, 0) fl_X11_9 dX11_begins_34 (by decide) ⟨rfl, rfl⟩ rfl rfl ?_
  refine j_iconst C (3 : Int32) (by decide) dX11_begins_37 ?_
  refine j_aload_n C 0 dX11_begins_38 rfl rfl ?_
  refine j_getS C (11, 0, 2, 0) fl_X11_9 dX11_begins_39 (by decide) ⟨rfl, rfl⟩ rfl rfl ?_
  refine j_iconst C (0 : Int32) (by decide) dX11_begins_42 ?_
  refine j_ialdK C 9 0 dX11_begins_43 (V_f 1 (by decide) (by decide)) rfl (by decide) (by decide) ?_
  obtain ⟨D7, eD7, h⟩ := bnd_x h
  refine j_iastK C 9 3 dX11_begins_44 (V_f 1 (by decide) (by decide)) rfl (by decide) (by decide) ?_
  refine j_rep eD7 ?_
  refine j_aload_n C 0 dX11_begins_45 rfl rfl ?_
  refine j_getS C (11, 0, 2, 0) fl_X11_9 dX11_begins_46 (by decide) ⟨rfl, rfl⟩ rfl rfl ?_
  refine j_iconst C (4 : Int32) (by decide) dX11_begins_49 ?_
  refine j_iconst C (0 : Int32) (by decide) dX11_begins_50 ?_
  obtain ⟨D8, eD8, h⟩ := bnd_x h
  refine j_iastK C 9 4 dX11_begins_51 (V_f 1 (by decide) (by decide)) rfl (by decide) (by decide) ?_
  refine j_rep eD8 ?_
  refine j_aload_n C 0 dX11_begins_52 rfl rfl ?_
  refine j_getS C (11, 0, 2, 0) fl_X11_9 dX11_begins_53 (by decide) ⟨rfl, rfl⟩ rfl rfl ?_
  refine j_iconst C (5 : Int32) (by decide) dX11_begins_56 ?_
  refine j_iconst C (0 : Int32) (by decide) dX11_begins_57 ?_
  obtain ⟨D9, eD9, h⟩ := bnd_x h
  refine j_iastK C 9 5 dX11_begins_58 (V_f 1 (by decide) (by decide)) rfl (by decide) (by decide) ?_
  refine j_rep eD9 ?_
  refine j_iconst C (0 : Int32) (by decide) dX11_begins_59 ?_
  refine j_istore_n C [(1, .int (0 : Int32)), (0, .ref (ad G (11, 0, 0, 0)))] dX11_begins_60 rfl (Nat.le_of_ble_eq_true rfl) rfl rfl ?_
  refine j_sub [1, 0] [(0, .ref (ad G (11, 0, 0, 0))), (1, .int (0 : Int32))] rfl ?_
  refine T_X11_begins_b61 hG hlv  C  2000 (0 : Int32) D9 h
def F_X11_table_b21  (k44 : Dt → Option (Int32 × Dt)) : Nat → Int32 → Dt → Option (Int32 × Dt)
  | 0, _, _ => none
  | f + 1, l1, D => (if (3 : Int32) ≤ l1 then (k44  D) else (grd (inB l1 3 = true) (grd (inB l1 9 = true) (bnd (setI D (11, 0, 2, 0) (l1.toNatClampNeg) (D.1 (11, 0, 15, 0) (l1.toNatClampNeg))) (fun D7 => (bnd (l1 + (1 : Int32)) (fun v8 => (F_X11_table_b21 k44 f v8 D7))))))))
set_option maxRecDepth 100000 in
set_option maxHeartbeats 4000000 in
theorem T_X11_table_b21 {r : Int32} {D' : Dt} {X : Ctx} {l : Launch} {G : Gt} {A : Nat → Prop} {lv : Nat}   {k44 : Dt → Option (Int32 × Dt)} (hG : Gok G A) (hlv : 11 ≤ lv)   (C : Cx X cX11_table RX11 G l A lv 2 (some .int) (some (.int r)) D') (hk44 : ∀  (D : Dt), k44  D = some (r, D') → J X (Rep G D) 44 [(0, .ref (ad G (11, 0, 0, 0)))] []) : ∀ (f : Nat) (l1 : Int32) (D : Dt), F_X11_table_b21 k44 f l1 D = some (r, D') → J X (Rep G D) 21 [(0, .ref (ad G (11, 0, 0, 0))), (1, .int l1)] [] := by
  intro f
  induction f with
  | zero =>
    intro l1 D h
    exact nomatch h
  | succ f ih =>
    intro l1 D h
    rw [F_X11_table_b21] at h
    refine j_iload_n C 1 dX11_table_21 rfl rfl ?_
    refine j_iconst C (3 : Int32) (by decide) dX11_table_22 ?_
    refine j_icmp_ge C 44 dX11_table_23 (by decide) (fun c4 => ?_) (fun c4 => ?_)
    · have h := ite_t c4 h
      refine j_sub [0] [(0, .ref (ad G (11, 0, 0, 0)))] rfl ?_
      exact hk44  D h
    · have h := ite_f c4 h
      refine j_aload_n C 0 dX11_table_26 rfl rfl ?_
      refine j_getS C (11, 0, 2, 0) fl_X11_9 dX11_table_27 (by decide) ⟨rfl, rfl⟩ rfl rfl ?_
      refine j_iload_n C 1 dX11_table_30 rfl rfl ?_
      refine j_aload_n C 0 dX11_table_31 rfl rfl ?_
      refine j_getS C (11, 0, 15, 0) fl_X11_49 dX11_table_32 (by decide) ⟨rfl, rfl⟩ rfl rfl ?_
      refine j_iload_n C 1 dX11_table_35 rfl rfl ?_
      obtain ⟨g5, h⟩ := grd_x h
      refine j_ialdK C 3 (l1.toNatClampNeg) dX11_table_36 (V_f 14 (by decide) (by decide)) rfl g5 rfl ?_
      obtain ⟨g6, h⟩ := grd_x h
      obtain ⟨D7, eD7, h⟩ := bnd_x h
      refine j_iastK C 9 (l1.toNatClampNeg) dX11_table_37 (V_f 1 (by decide) (by decide)) rfl g6 rfl ?_
      refine j_rep eD7 ?_
      obtain ⟨v8, ev8, h⟩ := bnd_x h
      refine j_iinc C 1 [(1, .int v8), (0, .ref (ad G (11, 0, 0, 0)))] dX11_table_38 rfl (Nat.le_of_ble_eq_true rfl) (ev8.trans (congrArg (l1 + ·) (by decide))) rfl ?_
      refine j_goto C 21 dX11_table_41 (by decide) ?_
      refine j_sub [1, 0] [(0, .ref (ad G (11, 0, 0, 0))), (1, .int v8)] rfl ?_
      exact ih v8 D7 h
def F_X11_table  (D : Dt) : Option (Int32 × Dt) := (vbd (F_X11_readsAll  D) (fun D2 => (if (D2.1 (11, 0, 0, 0) 21) ≤ 0 then (F_X11_table_b21 (fun D9 => (bnd (setI D9 (11, 0, 2, 0) 6 (0 : Int32)) (fun D10 => (vbd (F_X11_copies (11, 0, 16, 0) (11, 0, 12, 0) D10) (fun D12 => (vbd (F_X11_copies (11, 0, 17, 0) (11, 0, 13, 0) D12) (fun D14 => (vbd (F_X11_copies (11, 0, 18, 0) (11, 0, 14, 0) D14) (fun D16 => (vbd (F_X11_copies (11, 0, 19, 0) (11, 0, 8, 0) D16) (fun D18 => (vbd (F_X11_begins  D18) (fun D20 => (bnd (setI D20 (11, 0, 0, 0) 46 (0 : Int32)) (fun D21 => (some ((D21.1 (11, 0, 2, 0) 2), D21))))))))))))))))) 2000 (0 : Int32) D2) else (some (((-2 : Int32) - (D2.1 (11, 0, 0, 0) 21)), D2)))))
set_option maxRecDepth 100000 in
set_option maxHeartbeats 4000000 in
theorem M_X11_table {l : Launch} {G : Gt} {A : Nat → Prop} {lv : Nat}  {D : Dt} {r : Int32} {D' : Dt} (hG : Gok G A) (hlv : 11 ≤ lv)  (h : F_X11_table  D = some (r, D')) : MD l G A lv yX11_table cX11_table 2 (some .int) [.ref (ad G (11, 0, 0, 0))] D (some (.int r)) D' := by
  unfold F_X11_table at h
  refine md_start RX11 hG (by decide +kernel) rfl (Nat.le_of_ble_eq_true rfl) (L := [(0, .ref (ad G (11, 0, 0, 0)))]) rfl (fun X C => ?_)
  refine j_aload_n C 0 dX11_table_0 rfl rfl ?_
  obtain ⟨D2, h1, h⟩ := vbd_x h
  refine j_callV C [] [] cl_X11_292 (M_X11_readsAll (lv := lv - 1) hG (by omega) h1) (by omega) dX11_table_1 (by decide) ⟨rfl, rfl⟩ rfl rfl (Nat.le_of_ble_eq_true rfl) ?_
  refine j_st (st' := []) rfl ?_
  refine j_aload_n C 0 dX11_table_4 rfl rfl ?_
  refine j_getI C fl_X11_165 dX11_table_5 (by decide) ⟨rfl, rfl⟩ rfl ?_
  refine j_if_le C 19 dX11_table_8 (by decide) (fun c3 => ?_) (fun c3 => ?_)
  · have h := ite_t c3 h
    refine j_iconst C (0 : Int32) (by decide) dX11_table_19 ?_
    refine j_istore_n C [(1, .int (0 : Int32)), (0, .ref (ad G (11, 0, 0, 0)))] dX11_table_20 rfl (Nat.le_of_ble_eq_true rfl) rfl rfl ?_
    refine j_sub [1, 0] [(0, .ref (ad G (11, 0, 0, 0))), (1, .int (0 : Int32))] rfl ?_
    refine T_X11_table_b21 hG hlv  C (fun D9 h => ?_) 2000 (0 : Int32) D2 h
    · refine j_aload_n C 0 dX11_table_44 rfl rfl ?_
      refine j_getS C (11, 0, 2, 0) fl_X11_9 dX11_table_45 (by decide) ⟨rfl, rfl⟩ rfl rfl ?_
      refine j_bipush C (6 : Int32) (by decide) dX11_table_48 ?_
      refine j_iconst C (0 : Int32) (by decide) dX11_table_50 ?_
      obtain ⟨D10, eD10, h⟩ := bnd_x h
      refine j_iastK C 9 6 dX11_table_51 (V_f 1 (by decide) (by decide)) rfl (by decide) (by decide) ?_
      refine j_rep eD10 ?_
      refine j_aload_n C 0 dX11_table_52 rfl rfl ?_
      refine j_getS C (11, 0, 16, 0) fl_X11_52 dX11_table_53 (by decide) ⟨rfl, rfl⟩ rfl rfl ?_
      refine j_aload_n C 0 dX11_table_56 rfl rfl ?_
      refine j_getS C (11, 0, 12, 0) fl_X11_40 dX11_table_57 (by decide) ⟨rfl, rfl⟩ rfl rfl ?_
      obtain ⟨D12, h11, h⟩ := vbd_x h
      refine j_callS C [.ref (ad G (11, 0, 16, 0)), .ref (ad G (11, 0, 12, 0))] [] cl_X11_288 (M_X11_copies (lv := lv - 1) hG (by omega) h11) (by omega) dX11_table_60 rfl rfl (Nat.le_of_ble_eq_true rfl) ?_
      refine j_st (st' := []) rfl ?_
      refine j_aload_n C 0 dX11_table_63 rfl rfl ?_
      refine j_getS C (11, 0, 17, 0) fl_X11_55 dX11_table_64 (by decide) ⟨rfl, rfl⟩ rfl rfl ?_
      refine j_aload_n C 0 dX11_table_67 rfl rfl ?_
      refine j_getS C (11, 0, 13, 0) fl_X11_43 dX11_table_68 (by decide) ⟨rfl, rfl⟩ rfl rfl ?_
      obtain ⟨D14, h13, h⟩ := vbd_x h
      refine j_callS C [.ref (ad G (11, 0, 17, 0)), .ref (ad G (11, 0, 13, 0))] [] cl_X11_288 (M_X11_copies (lv := lv - 1) hG (by omega) h13) (by omega) dX11_table_71 rfl rfl (Nat.le_of_ble_eq_true rfl) ?_
      refine j_st (st' := []) rfl ?_
      refine j_aload_n C 0 dX11_table_74 rfl rfl ?_
      refine j_getS C (11, 0, 18, 0) fl_X11_58 dX11_table_75 (by decide) ⟨rfl, rfl⟩ rfl rfl ?_
      refine j_aload_n C 0 dX11_table_78 rfl rfl ?_
      refine j_getS C (11, 0, 14, 0) fl_X11_46 dX11_table_79 (by decide) ⟨rfl, rfl⟩ rfl rfl ?_
      obtain ⟨D16, h15, h⟩ := vbd_x h
      refine j_callS C [.ref (ad G (11, 0, 18, 0)), .ref (ad G (11, 0, 14, 0))] [] cl_X11_288 (M_X11_copies (lv := lv - 1) hG (by omega) h15) (by omega) dX11_table_82 rfl rfl (Nat.le_of_ble_eq_true rfl) ?_
      refine j_st (st' := []) rfl ?_
      refine j_aload_n C 0 dX11_table_85 rfl rfl ?_
      refine j_getS C (11, 0, 19, 0) fl_X11_61 dX11_table_86 (by decide) ⟨rfl, rfl⟩ rfl rfl ?_
      refine j_aload_n C 0 dX11_table_89 rfl rfl ?_
      refine j_getS C (11, 0, 8, 0) fl_X11_28 dX11_table_90 (by decide) ⟨rfl, rfl⟩ rfl rfl ?_
      obtain ⟨D18, h17, h⟩ := vbd_x h
      refine j_callS C [.ref (ad G (11, 0, 19, 0)), .ref (ad G (11, 0, 8, 0))] [] cl_X11_288 (M_X11_copies (lv := lv - 1) hG (by omega) h17) (by omega) dX11_table_93 rfl rfl (Nat.le_of_ble_eq_true rfl) ?_
      refine j_st (st' := []) rfl ?_
      refine j_aload_n C 0 dX11_table_96 rfl rfl ?_
      obtain ⟨D20, h19, h⟩ := vbd_x h
      refine j_callV C [] [] cl_X11_295 (M_X11_begins (lv := lv - 1) hG (by omega) h19) (by omega) dX11_table_97 (by decide) ⟨rfl, rfl⟩ rfl rfl (Nat.le_of_ble_eq_true rfl) ?_
      refine j_st (st' := []) rfl ?_
      refine j_aload_n C 0 dX11_table_100 rfl rfl ?_
      refine j_iconst C (0 : Int32) (by decide) dX11_table_101 ?_
      obtain ⟨D21, eD21, h⟩ := bnd_x h
      refine j_putI C fl_X11_298 dX11_table_102 (by decide) ⟨rfl, rfl⟩ rfl rfl rfl ?_
      refine j_rep eD21 ?_
      refine j_aload_n C 0 dX11_table_105 rfl rfl ?_
      refine j_getS C (11, 0, 2, 0) fl_X11_9 dX11_table_106 (by decide) ⟨rfl, rfl⟩ rfl rfl ?_
      refine j_iconst C (2 : Int32) (by decide) dX11_table_109 ?_
      refine j_ialdK C 9 2 dX11_table_110 (V_f 1 (by decide) (by decide)) rfl (by decide) (by decide) ?_
      obtain ⟨rfl, rfl⟩ := pr_x h
      exact j_iret C dX11_table_111
  · have h := ite_f c3 h
    refine j_bipush C (-2 : Int32) (by decide) dX11_table_11 ?_
    refine j_aload_n C 0 dX11_table_13 rfl rfl ?_
    refine j_getI C fl_X11_165 dX11_table_14 (by decide) ⟨rfl, rfl⟩ rfl ?_
    refine j_isub C dX11_table_17 ?_
    obtain ⟨rfl, rfl⟩ := pr_x h
    exact j_iret C dX11_table_18
def F_X11_ruleClause_b104 (a1 : Int32)  (l3 : Int32) (D : Dt) : Option Dt := (grd (inB l3 72 = true) (bnd (setI D (11, 0, 36, 0) (l3.toNatClampNeg) (D.1 (11, 0, 0, 0) 24)) (fun D18 => (some D18))))
set_option maxRecDepth 100000 in
set_option maxHeartbeats 4000000 in
theorem T_X11_ruleClause_b104 {D' : Dt} {X : Ctx} {l : Launch} {G : Gt} {A : Nat → Prop} {lv : Nat} {a1 : Int32}   (hG : Gok G A) (hlv : 15 ≤ lv)   (C : Cx X cX11_ruleClause RX11 G l A lv 4 none none D')  : ∀ (l3 : Int32) (D : Dt), F_X11_ruleClause_b104 a1 l3 D = some D' → J X (Rep G D) 104 [(0, .ref (ad G (11, 0, 0, 0))), (3, .int l3)] [] := by
  intro l3 D h
  unfold F_X11_ruleClause_b104 at h
  refine j_aload_n C 0 dX11_ruleClause_104 rfl rfl ?_
  refine j_getS C (11, 0, 36, 0) fl_X11_87 dX11_ruleClause_105 (by decide) ⟨rfl, rfl⟩ rfl rfl ?_
  refine j_iload_n C 1 dX11_ruleClause_108 rfl rfl ?_
  refine j_aload_n C 0 dX11_ruleClause_109 rfl rfl ?_
  refine j_getI C fl_X11_198 dX11_ruleClause_110 (by decide) ⟨rfl, rfl⟩ rfl ?_
  obtain ⟨g17, h⟩ := grd_x h
  obtain ⟨D18, eD18, h⟩ := bnd_x h
  refine j_iastK C 72 (l3.toNatClampNeg) dX11_ruleClause_113 (V_f 35 (by decide) (by decide)) rfl g17 rfl ?_
  refine j_rep eD18 ?_
  obtain rfl := Option.some.inj h
  exact j_vret C dX11_ruleClause_114
def F_X11_ruleClause (a1 : Int32) (D : Dt) : Option Dt := (vbd (F_X11_blanks  D) (fun D2 => (bnd (D2.1 (11, 0, 0, 0) 20) (fun v3 => (cbd (F_X11_stood 5 D2) (fun r5 D6 => (if r5 = 0 then (vbd (F_X11_fails (0 : Int32) v3 D6) (fun D28 => (some D28))) else (if a1 = (12 : Int32) then (vbd (F_X11_fails (4 : Int32) v3 D6) (fun D26 => (some D26))) else (bnd (setI D6 (11, 0, 0, 0) 20 ((D6.1 (11, 0, 0, 0) 20) + (3 : Int32))) (fun D9 => (bnd (((12 : Int32) * (D9.1 (11, 0, 0, 0) 22)) + a1) (fun v10 => (grd (inB v10 72 = true) (bnd (setI D9 (11, 0, 34, 0) (v10.toNatClampNeg) (D9.1 (11, 0, 0, 0) 24)) (fun D12 => (vbd (F_X11_sum  D12) (fun D14 => (bnd (setI D14 (11, 0, 35, 0) (v10.toNatClampNeg) (D14.1 (11, 0, 0, 0) 24)) (fun D15 => (if (D15.1 (11, 0, 0, 0) 21) = 0 then (cbd (F_X11_takes 16 D15) (fun r20 D21 => (if r20 = 0 then (F_X11_ruleClause_b104 a1 v10 D21) else (vbd (F_X11_test  D21) (fun D24 => (F_X11_ruleClause_b104 a1 v10 D24)))))) else (F_X11_ruleClause_b104 a1 v10 D15)))))))))))))))))))))
set_option maxRecDepth 100000 in
set_option maxHeartbeats 4000000 in
theorem M_X11_ruleClause {l : Launch} {G : Gt} {A : Nat → Prop} {lv : Nat} {a1 : Int32} {D : Dt} {D' : Dt} (hG : Gok G A) (hlv : 15 ≤ lv)  (h : F_X11_ruleClause a1 D = some D') : MD l G A lv yX11_ruleClause cX11_ruleClause 4 none [.ref (ad G (11, 0, 0, 0)), .int a1] D none D' := by
  unfold F_X11_ruleClause at h
  refine md_start RX11 hG (by decide +kernel) rfl (Nat.le_of_ble_eq_true rfl) (L := [(0, .ref (ad G (11, 0, 0, 0))), (1, .int a1)]) rfl (fun X C => ?_)
  refine j_aload_n C 0 dX11_ruleClause_0 rfl rfl ?_
  obtain ⟨D2, h1, h⟩ := vbd_x h
  refine j_callV C [] [] cl_X11_188 (M_X11_blanks (lv := lv - 1) hG (by omega) h1) (by omega) dX11_ruleClause_1 (by decide) ⟨rfl, rfl⟩ rfl rfl (Nat.le_of_ble_eq_true rfl) ?_
  refine j_st (st' := []) rfl ?_
  refine j_aload_n C 0 dX11_ruleClause_4 rfl rfl ?_
  refine j_getI C fl_X11_168 dX11_ruleClause_5 (by decide) ⟨rfl, rfl⟩ rfl ?_
  obtain ⟨v3, ev3, h⟩ := bnd_x h
  refine j_istore_n C [(2, .int v3), (0, .ref (ad G (11, 0, 0, 0))), (1, .int a1)] dX11_ruleClause_8 rfl (Nat.le_of_ble_eq_true rfl) ev3 rfl ?_
  refine j_aload_n C 1 dX11_ruleClause_9 rfl rfl ?_
  refine j_ldcSw C 5 rfl dX11_ruleClause_10 ?_
  obtain ⟨r5, D6, h4, h⟩ := cbd_x h
  refine j_callV C [.ref (sK G 5)] [] cl_X11_191 (M_X11_stood (lv := lv - 1) hG (by omega) h4) (by omega) dX11_ruleClause_13 (by decide) ⟨rfl, rfl⟩ rfl rfl (Nat.le_of_ble_eq_true rfl) ?_
  refine j_st (st' := [.int r5]) rfl ?_
  refine j_if_ne C 26 dX11_ruleClause_16 (by decide) (fun c7 => ?_) (fun c7 => ?_)
  · have h := ite_f c7 h
    refine j_iload_n C 2 dX11_ruleClause_26 rfl rfl ?_
    refine j_bipush C (12 : Int32) (by decide) dX11_ruleClause_27 ?_
    refine j_icmp_ne C 39 dX11_ruleClause_29 (by decide) (fun c8 => ?_) (fun c8 => ?_)
    · have h := ite_f c8 h
      refine j_aload_n C 1 dX11_ruleClause_39 rfl rfl ?_
      refine j_dup C rfl dX11_ruleClause_40 ?_
      refine j_getI C fl_X11_168 dX11_ruleClause_41 (by decide) ⟨rfl, rfl⟩ rfl ?_
      refine j_iconst C (3 : Int32) (by decide) dX11_ruleClause_44 ?_
      refine j_iadd C dX11_ruleClause_45 ?_
      obtain ⟨D9, eD9, h⟩ := bnd_x h
      refine j_putI C fl_X11_168 dX11_ruleClause_46 (by decide) ⟨rfl, rfl⟩ rfl rfl rfl ?_
      refine j_rep eD9 ?_
      refine j_bipush C (12 : Int32) (by decide) dX11_ruleClause_49 ?_
      refine j_aload_n C 1 dX11_ruleClause_51 rfl rfl ?_
      refine j_getI C fl_X11_195 dX11_ruleClause_52 (by decide) ⟨rfl, rfl⟩ rfl ?_
      refine j_imul C dX11_ruleClause_55 ?_
      refine j_iload_n C 2 dX11_ruleClause_56 rfl rfl ?_
      refine j_iadd C dX11_ruleClause_57 ?_
      obtain ⟨v10, ev10, h⟩ := bnd_x h
      refine j_istore_n C [(3, .int v10), (2, .int v3), (0, .ref (ad G (11, 0, 0, 0))), (1, .int a1)] dX11_ruleClause_58 rfl (Nat.le_of_ble_eq_true rfl) ev10 rfl ?_
      refine j_aload_n C 2 dX11_ruleClause_59 rfl rfl ?_
      refine j_getS C (11, 0, 34, 0) fl_X11_81 dX11_ruleClause_60 (by decide) ⟨rfl, rfl⟩ rfl rfl ?_
      refine j_iload_n C 0 dX11_ruleClause_63 rfl rfl ?_
      refine j_aload_n C 2 dX11_ruleClause_64 rfl rfl ?_
      refine j_getI C fl_X11_198 dX11_ruleClause_65 (by decide) ⟨rfl, rfl⟩ rfl ?_
      obtain ⟨g11, h⟩ := grd_x h
      obtain ⟨D12, eD12, h⟩ := bnd_x h
      refine j_iastK C 72 (v10.toNatClampNeg) dX11_ruleClause_68 (V_f 33 (by decide) (by decide)) rfl g11 rfl ?_
      refine j_rep eD12 ?_
      refine j_aload_n C 2 dX11_ruleClause_69 rfl rfl ?_
      obtain ⟨D14, h13, h⟩ := vbd_x h
      refine j_callV C [] [] cl_X11_233 (M_X11_sum (lv := lv - 1) hG (by omega) h13) (by omega) dX11_ruleClause_70 (by decide) ⟨rfl, rfl⟩ rfl rfl (Nat.le_of_ble_eq_true rfl) ?_
      refine j_st (st' := []) rfl ?_
      refine j_aload_n C 2 dX11_ruleClause_73 rfl rfl ?_
      refine j_getS C (11, 0, 35, 0) fl_X11_84 dX11_ruleClause_74 (by decide) ⟨rfl, rfl⟩ rfl rfl ?_
      refine j_iload_n C 0 dX11_ruleClause_77 rfl rfl ?_
      refine j_aload_n C 2 dX11_ruleClause_78 rfl rfl ?_
      refine j_getI C fl_X11_198 dX11_ruleClause_79 (by decide) ⟨rfl, rfl⟩ rfl ?_
      obtain ⟨D15, eD15, h⟩ := bnd_x h
      refine j_iastK C 72 (v10.toNatClampNeg) dX11_ruleClause_82 (V_f 34 (by decide) (by decide)) rfl g11 rfl ?_
      refine j_rep eD15 ?_
      refine j_aload_n C 2 dX11_ruleClause_83 rfl rfl ?_
      refine j_getI C fl_X11_165 dX11_ruleClause_84 (by decide) ⟨rfl, rfl⟩ rfl ?_
      refine j_if_ne C 104 dX11_ruleClause_87 (by decide) (fun c16 => ?_) (fun c16 => ?_)
      · have h := ite_f c16 h
        refine j_sub [2, 0] [(0, .ref (ad G (11, 0, 0, 0))), (3, .int v10)] rfl ?_
        refine T_X11_ruleClause_b104 hG hlv  C  v10 D15 h
      · have h := ite_t c16 h
        refine j_aload_n C 2 dX11_ruleClause_90 rfl rfl ?_
        refine j_ldcSw C 16 rfl dX11_ruleClause_91 ?_
        obtain ⟨r20, D21, h19, h⟩ := cbd_x h
        refine j_callV C [.ref (sK G 16)] [] cl_X11_305 (M_X11_takes (lv := lv - 1) hG (by omega) h19) (by omega) dX11_ruleClause_94 (by decide) ⟨rfl, rfl⟩ rfl rfl (Nat.le_of_ble_eq_true rfl) ?_
        refine j_st (st' := [.int r20]) rfl ?_
        refine j_if_eq C 104 dX11_ruleClause_97 (by decide) (fun c22 => ?_) (fun c22 => ?_)
        · have h := ite_t c22 h
          refine j_sub [2, 0] [(0, .ref (ad G (11, 0, 0, 0))), (3, .int v10)] rfl ?_
          refine T_X11_ruleClause_b104 hG hlv  C  v10 D21 h
        · have h := ite_f c22 h
          refine j_aload_n C 2 dX11_ruleClause_100 rfl rfl ?_
          obtain ⟨D24, h23, h⟩ := vbd_x h
          refine j_callV C [] [] cl_X11_308 (M_X11_test (lv := lv - 1) hG (by omega) h23) (by omega) dX11_ruleClause_101 (by decide) ⟨rfl, rfl⟩ rfl rfl (Nat.le_of_ble_eq_true rfl) ?_
          refine j_st (st' := []) rfl ?_
          refine j_sub [2, 0] [(0, .ref (ad G (11, 0, 0, 0))), (3, .int v10)] rfl ?_
          refine T_X11_ruleClause_b104 hG hlv  C  v10 D24 h
    · have h := ite_t c8 h
      refine j_aload_n C 1 dX11_ruleClause_32 rfl rfl ?_
      refine j_iconst C (4 : Int32) (by decide) dX11_ruleClause_33 ?_
      refine j_iload_n C 0 dX11_ruleClause_34 rfl rfl ?_
      obtain ⟨D26, h25, h⟩ := vbd_x h
      refine j_callV C [.int (4 : Int32), .int v3] [] cl_X11_204 (M_X11_fails (lv := lv - 1) hG (by omega) h25) (by omega) dX11_ruleClause_35 (by decide) ⟨rfl, rfl⟩ rfl rfl (Nat.le_of_ble_eq_true rfl) ?_
      refine j_st (st' := []) rfl ?_
      obtain rfl := Option.some.inj h
      exact j_vret C dX11_ruleClause_38
  · have h := ite_t c7 h
    refine j_aload_n C 1 dX11_ruleClause_19 rfl rfl ?_
    refine j_iconst C (0 : Int32) (by decide) dX11_ruleClause_20 ?_
    refine j_iload_n C 0 dX11_ruleClause_21 rfl rfl ?_
    obtain ⟨D28, h27, h⟩ := vbd_x h
    refine j_callV C [.int (0 : Int32), .int v3] [] cl_X11_204 (M_X11_fails (lv := lv - 1) hG (by omega) h27) (by omega) dX11_ruleClause_22 (by decide) ⟨rfl, rfl⟩ rfl rfl (Nat.le_of_ble_eq_true rfl) ?_
    refine j_st (st' := []) rfl ?_
    obtain rfl := Option.some.inj h
    exact j_vret C dX11_ruleClause_25
def F_X11_rule_b27  (k47 : Int32 → Dt → Option (Int32 × Dt)) : Nat → Int32 → Int32 → Dt → Option (Int32 × Dt)
  | 0, _, _, _ => none
  | f + 1, l1, l2, D => (if l2 = 0 then (k47 l1 D) else (vbd (F_X11_ruleClause l1 D) (fun D7 => (bnd (l1 + (1 : Int32)) (fun v8 => (cbd (F_X11_goesOn  D7) (fun r10 D11 => (F_X11_rule_b27 k47 f v8 r10 D11))))))))
set_option maxRecDepth 100000 in
set_option maxHeartbeats 4000000 in
theorem T_X11_rule_b27 {r : Int32} {D' : Dt} {X : Ctx} {l : Launch} {G : Gt} {A : Nat → Prop} {lv : Nat}   {k47 : Int32 → Dt → Option (Int32 × Dt)} (hG : Gok G A) (hlv : 16 ≤ lv)   (C : Cx X cX11_rule RX11 G l A lv 3 (some .int) (some (.int r)) D') (hk47 : ∀ (l1 : Int32) (D : Dt), k47 l1 D = some (r, D') → J X (Rep G D) 47 [(0, .ref (ad G (11, 0, 0, 0))), (1, .int l1)] []) : ∀ (f : Nat) (l1 : Int32) (l2 : Int32) (D : Dt), F_X11_rule_b27 k47 f l1 l2 D = some (r, D') → J X (Rep G D) 27 [(0, .ref (ad G (11, 0, 0, 0))), (1, .int l1), (2, .int l2)] [] := by
  intro f
  induction f with
  | zero =>
    intro l1 l2 D h
    exact nomatch h
  | succ f ih =>
    intro l1 l2 D h
    rw [F_X11_rule_b27] at h
    refine j_iload_n C 2 dX11_rule_27 rfl rfl ?_
    refine j_if_eq C 47 dX11_rule_28 (by decide) (fun c5 => ?_) (fun c5 => ?_)
    · have h := ite_t c5 h
      refine j_sub [0, 1] [(0, .ref (ad G (11, 0, 0, 0))), (1, .int l1)] rfl ?_
      exact hk47 l1 D h
    · have h := ite_f c5 h
      refine j_aload_n C 0 dX11_rule_31 rfl rfl ?_
      refine j_iload_n C 1 dX11_rule_32 rfl rfl ?_
      obtain ⟨D7, h6, h⟩ := vbd_x h
      refine j_callV C [.int l1] [] cl_X11_314 (M_X11_ruleClause (lv := lv - 1) hG (by omega) h6) (by omega) dX11_rule_33 (by decide) ⟨rfl, rfl⟩ rfl rfl (Nat.le_of_ble_eq_true rfl) ?_
      refine j_st (st' := []) rfl ?_
      obtain ⟨v8, ev8, h⟩ := bnd_x h
      refine j_iinc C 1 [(1, .int v8), (0, .ref (ad G (11, 0, 0, 0))), (2, .int l2)] dX11_rule_36 rfl (Nat.le_of_ble_eq_true rfl) (ev8.trans (congrArg (l1 + ·) (by decide))) rfl ?_
      refine j_aload_n C 1 dX11_rule_39 rfl rfl ?_
      obtain ⟨r10, D11, h9, h⟩ := cbd_x h
      refine j_callV C [] [] cl_X11_285 (M_X11_goesOn (lv := lv - 1) hG (by omega) h9) (by omega) dX11_rule_40 (by decide) ⟨rfl, rfl⟩ rfl rfl (Nat.le_of_ble_eq_true rfl) ?_
      refine j_st (st' := [.int r10]) rfl ?_
      refine j_istore_n C [(2, .int r10), (1, .int v8), (0, .ref (ad G (11, 0, 0, 0)))] dX11_rule_43 rfl (Nat.le_of_ble_eq_true rfl) rfl rfl ?_
      refine j_goto C 27 dX11_rule_44 (by decide) ?_
      refine j_sub [2, 1, 0] [(0, .ref (ad G (11, 0, 0, 0))), (1, .int v8), (2, .int r10)] rfl ?_
      exact ih v8 r10 D11 h
def F_X11_rule_b79   (s1 : Int32) (s2 : Int32) (D : Dt) : Option (Int32 × Dt) := (bnd (setI D (11, 0, 0, 0) 23 (s1 + s2)) (fun D18 => (if (D18.1 (11, 0, 0, 0) 21) ≤ 0 then (some (((D18.1 (11, 0, 0, 0) 23) - (1 : Int32)), D18)) else (some (((-2 : Int32) - (D18.1 (11, 0, 0, 0) 21)), D18)))))
set_option maxRecDepth 100000 in
set_option maxHeartbeats 4000000 in
theorem T_X11_rule_b79 {r : Int32} {D' : Dt} {X : Ctx} {l : Launch} {G : Gt} {A : Nat → Prop} {lv : Nat}    (hG : Gok G A) (hlv : 16 ≤ lv)   (C : Cx X cX11_rule RX11 G l A lv 3 (some .int) (some (.int r)) D')  : ∀ (s1 : Int32) (s2 : Int32) (D : Dt), F_X11_rule_b79  s1 s2 D = some (r, D') → J X (Rep G D) 79 [(0, .ref (ad G (11, 0, 0, 0)))] [.int s2, .int s1, .ref (ad G (11, 0, 0, 0))] := by
  intro s1 s2 D h
  unfold F_X11_rule_b79 at h
  refine j_iadd C dX11_rule_79 ?_
  obtain ⟨D18, eD18, h⟩ := bnd_x h
  refine j_putI C fl_X11_311 dX11_rule_80 (by decide) ⟨rfl, rfl⟩ rfl rfl rfl ?_
  refine j_rep eD18 ?_
  refine j_aload_n C 0 dX11_rule_83 rfl rfl ?_
  refine j_getI C fl_X11_165 dX11_rule_84 (by decide) ⟨rfl, rfl⟩ rfl ?_
  refine j_if_le C 100 dX11_rule_87 (by decide) (fun c19 => ?_) (fun c19 => ?_)
  · have h := ite_t c19 h
    refine j_aload_n C 0 dX11_rule_100 rfl rfl ?_
    refine j_getI C fl_X11_311 dX11_rule_101 (by decide) ⟨rfl, rfl⟩ rfl ?_
    refine j_iconst C (1 : Int32) (by decide) dX11_rule_104 ?_
    refine j_isub C dX11_rule_105 ?_
    obtain ⟨rfl, rfl⟩ := pr_x h
    exact j_iret C dX11_rule_106
  · have h := ite_f c19 h
    refine j_bipush C (-2 : Int32) (by decide) dX11_rule_90 ?_
    refine j_aload_n C 0 dX11_rule_92 rfl rfl ?_
    refine j_getI C fl_X11_165 dX11_rule_93 (by decide) ⟨rfl, rfl⟩ rfl ?_
    refine j_isub C dX11_rule_96 ?_
    refine j_goto C 106 dX11_rule_97 (by decide) ?_
    obtain ⟨rfl, rfl⟩ := pr_x h
    exact j_iret C dX11_rule_106
def F_X11_rule  (D : Dt) : Option (Int32 × Dt) := (if (D.1 (11, 0, 0, 0) 23) = (6 : Int32) then (some ((-1 : Int32), D)) else (bnd (setI D (11, 0, 0, 0) 22 (D.1 (11, 0, 0, 0) 23)) (fun D2 => (vbd (F_X11_starts  D2) (fun D4 => (F_X11_rule_b27 (fun l1_12 D13 => (bnd (setI D13 (11, 0, 0, 0) 19 (0 : Int32)) (fun D14 => (grd (inB (D14.1 (11, 0, 0, 0) 22) 6 = true) (bnd (setI D14 (11, 0, 33, 0) ((D14.1 (11, 0, 0, 0) 22).toNatClampNeg) l1_12) (fun D16 => (if (D16.1 (11, 0, 0, 0) 21) = 0 then (F_X11_rule_b79  (D16.1 (11, 0, 0, 0) 23) (1 : Int32) D16) else (F_X11_rule_b79  (D16.1 (11, 0, 0, 0) 23) (0 : Int32) D16)))))))) 2000 (0 : Int32) (1 : Int32) D4))))))
set_option maxRecDepth 100000 in
set_option maxHeartbeats 4000000 in
theorem M_X11_rule {l : Launch} {G : Gt} {A : Nat → Prop} {lv : Nat}  {D : Dt} {r : Int32} {D' : Dt} (hG : Gok G A) (hlv : 16 ≤ lv)  (h : F_X11_rule  D = some (r, D')) : MD l G A lv yX11_rule cX11_rule 3 (some .int) [.ref (ad G (11, 0, 0, 0))] D (some (.int r)) D' := by
  unfold F_X11_rule at h
  refine md_start RX11 hG (by decide +kernel) rfl (Nat.le_of_ble_eq_true rfl) (L := [(0, .ref (ad G (11, 0, 0, 0)))]) rfl (fun X C => ?_)
  refine j_aload_n C 0 dX11_rule_0 rfl rfl ?_
  refine j_getI C fl_X11_311 dX11_rule_1 (by decide) ⟨rfl, rfl⟩ rfl ?_
  refine j_bipush C (6 : Int32) (by decide) dX11_rule_4 ?_
  refine j_icmp_ne C 11 dX11_rule_6 (by decide) (fun c1 => ?_) (fun c1 => ?_)
  · have h := ite_f c1 h
    refine j_aload_n C 0 dX11_rule_11 rfl rfl ?_
    refine j_aload_n C 0 dX11_rule_12 rfl rfl ?_
    refine j_getI C fl_X11_311 dX11_rule_13 (by decide) ⟨rfl, rfl⟩ rfl ?_
    obtain ⟨D2, eD2, h⟩ := bnd_x h
    refine j_putI C fl_X11_195 dX11_rule_16 (by decide) ⟨rfl, rfl⟩ rfl rfl rfl ?_
    refine j_rep eD2 ?_
    refine j_aload_n C 0 dX11_rule_19 rfl rfl ?_
    obtain ⟨D4, h3, h⟩ := vbd_x h
    refine j_callV C [] [] cl_X11_279 (M_X11_starts (lv := lv - 1) hG (by omega) h3) (by omega) dX11_rule_20 (by decide) ⟨rfl, rfl⟩ rfl rfl (Nat.le_of_ble_eq_true rfl) ?_
    refine j_st (st' := []) rfl ?_
    refine j_iconst C (0 : Int32) (by decide) dX11_rule_23 ?_
    refine j_istore_n C [(1, .int (0 : Int32)), (0, .ref (ad G (11, 0, 0, 0)))] dX11_rule_24 rfl (Nat.le_of_ble_eq_true rfl) rfl rfl ?_
    refine j_iconst C (1 : Int32) (by decide) dX11_rule_25 ?_
    refine j_istore_n C [(2, .int (1 : Int32)), (1, .int (0 : Int32)), (0, .ref (ad G (11, 0, 0, 0)))] dX11_rule_26 rfl (Nat.le_of_ble_eq_true rfl) rfl rfl ?_
    refine j_sub [2, 1, 0] [(0, .ref (ad G (11, 0, 0, 0))), (1, .int (0 : Int32)), (2, .int (1 : Int32))] rfl ?_
    refine T_X11_rule_b27 hG hlv  C (fun l1_12 D13 h => ?_) 2000 (0 : Int32) (1 : Int32) D4 h
    · refine j_aload_n C 0 dX11_rule_47 rfl rfl ?_
      refine j_iconst C (0 : Int32) (by decide) dX11_rule_48 ?_
      obtain ⟨D14, eD14, h⟩ := bnd_x h
      refine j_putI C fl_X11_138 dX11_rule_49 (by decide) ⟨rfl, rfl⟩ rfl rfl rfl ?_
      refine j_rep eD14 ?_
      refine j_aload_n C 0 dX11_rule_52 rfl rfl ?_
      refine j_getS C (11, 0, 33, 0) fl_X11_78 dX11_rule_53 (by decide) ⟨rfl, rfl⟩ rfl rfl ?_
      refine j_aload_n C 0 dX11_rule_56 rfl rfl ?_
      refine j_getI C fl_X11_195 dX11_rule_57 (by decide) ⟨rfl, rfl⟩ rfl ?_
      refine j_iload_n C 1 dX11_rule_60 rfl rfl ?_
      obtain ⟨g15, h⟩ := grd_x h
      obtain ⟨D16, eD16, h⟩ := bnd_x h
      refine j_iastK C 6 ((D14.1 (11, 0, 0, 0) 22).toNatClampNeg) dX11_rule_61 (V_f 32 (by decide) (by decide)) rfl g15 rfl ?_
      refine j_rep eD16 ?_
      refine j_aload_n C 0 dX11_rule_62 rfl rfl ?_
      refine j_dup C rfl dX11_rule_63 ?_
      refine j_getI C fl_X11_311 dX11_rule_64 (by decide) ⟨rfl, rfl⟩ rfl ?_
      refine j_aload_n C 0 dX11_rule_67 rfl rfl ?_
      refine j_getI C fl_X11_165 dX11_rule_68 (by decide) ⟨rfl, rfl⟩ rfl ?_
      refine j_if_ne C 78 dX11_rule_71 (by decide) (fun c17 => ?_) (fun c17 => ?_)
      · have h := ite_f c17 h
        refine j_iconst C (0 : Int32) (by decide) dX11_rule_78 ?_
        refine j_sub [0] [(0, .ref (ad G (11, 0, 0, 0)))] rfl ?_
        refine T_X11_rule_b79 hG hlv  C  (D16.1 (11, 0, 0, 0) 23) (0 : Int32) D16 h
      · have h := ite_t c17 h
        refine j_iconst C (1 : Int32) (by decide) dX11_rule_74 ?_
        refine j_goto C 79 dX11_rule_75 (by decide) ?_
        refine j_sub [0] [(0, .ref (ad G (11, 0, 0, 0)))] rfl ?_
        refine T_X11_rule_b79 hG hlv  C  (D16.1 (11, 0, 0, 0) 23) (1 : Int32) D16 h
  · have h := ite_t c1 h
    refine j_iconst C (-1 : Int32) (by decide) dX11_rule_9 ?_
    obtain ⟨rfl, rfl⟩ := pr_x h
    exact j_iret C dX11_rule_10
def F_X11_force (a1 : Int32) (D : Dt) : Option (Int32 × Dt) := (cbd (F_X11_in a1.toInt64 (-1 : Int64) (((D.1 (11, 0, 0, 0) 23) - (1 : Int32)).toInt64) D) (fun r2 D3 => (if r2 = 0 then (some ((-2 : Int32), D3)) else (bnd (D3.1 (11, 0, 2, 0) 8) (fun v5 => (bnd (setI D3 (11, 0, 2, 0) 8 a1) (fun D6 => (some (v5, D6)))))))))
set_option maxRecDepth 100000 in
set_option maxHeartbeats 4000000 in
theorem M_X11_force {l : Launch} {G : Gt} {A : Nat → Prop} {lv : Nat} {a1 : Int32} {D : Dt} {r : Int32} {D' : Dt} (hG : Gok G A) (hlv : 2 ≤ lv)  (h : F_X11_force a1 D = some (r, D')) : MD l G A lv yX11_force cX11_force 3 (some .int) [.ref (ad G (11, 0, 0, 0)), .int a1] D (some (.int r)) D' := by
  unfold F_X11_force at h
  refine md_start RX11 hG (by decide +kernel) rfl (Nat.le_of_ble_eq_true rfl) (L := [(0, .ref (ad G (11, 0, 0, 0))), (1, .int a1)]) rfl (fun X C => ?_)
  refine j_iload_n C 1 dX11_force_0 rfl rfl ?_
  refine j_i2l C dX11_force_1 ?_
  refine j_ldc2 C (-1 : Int64) kc_X11_317 dX11_force_2 ?_
  refine j_aload_n C 0 dX11_force_5 rfl rfl ?_
  refine j_getI C fl_X11_311 dX11_force_6 (by decide) ⟨rfl, rfl⟩ rfl ?_
  refine j_iconst C (1 : Int32) (by decide) dX11_force_9 ?_
  refine j_isub C dX11_force_10 ?_
  refine j_i2l C dX11_force_11 ?_
  obtain ⟨r2, D3, h1, h⟩ := cbd_x h
  refine j_callS C [.long a1.toInt64, .long (-1 : Int64), .long (((D.1 (11, 0, 0, 0) 23) - (1 : Int32)).toInt64)] [] cl_X11_134 (M_X11_in (lv := lv - 1) hG (by omega) h1) (by omega) dX11_force_12 rfl rfl (Nat.le_of_ble_eq_true rfl) ?_
  refine j_st (st' := [.int r2]) rfl ?_
  refine j_if_ne C 21 dX11_force_15 (by decide) (fun c4 => ?_) (fun c4 => ?_)
  · have h := ite_f c4 h
    refine j_aload_n C 0 dX11_force_21 rfl rfl ?_
    refine j_getS C (11, 0, 2, 0) fl_X11_9 dX11_force_22 (by decide) ⟨rfl, rfl⟩ rfl rfl ?_
    refine j_bipush C (8 : Int32) (by decide) dX11_force_25 ?_
    refine j_ialdK C 9 8 dX11_force_27 (V_f 1 (by decide) (by decide)) rfl (by decide) (by decide) ?_
    obtain ⟨v5, ev5, h⟩ := bnd_x h
    refine j_istore_n C [(2, .int v5), (0, .ref (ad G (11, 0, 0, 0))), (1, .int a1)] dX11_force_28 rfl (Nat.le_of_ble_eq_true rfl) ev5 rfl ?_
    refine j_aload_n C 1 dX11_force_29 rfl rfl ?_
    refine j_getS C (11, 0, 2, 0) fl_X11_9 dX11_force_30 (by decide) ⟨rfl, rfl⟩ rfl rfl ?_
    refine j_bipush C (8 : Int32) (by decide) dX11_force_33 ?_
    refine j_iload_n C 2 dX11_force_35 rfl rfl ?_
    obtain ⟨D6, eD6, h⟩ := bnd_x h
    refine j_iastK C 9 8 dX11_force_36 (V_f 1 (by decide) (by decide)) rfl (by decide) (by decide) ?_
    refine j_rep eD6 ?_
    refine j_iload_n C 0 dX11_force_37 rfl rfl ?_
    obtain ⟨rfl, rfl⟩ := pr_x h
    exact j_iret C dX11_force_38
  · have h := ite_t c4 h
    refine j_bipush C (-2 : Int32) (by decide) dX11_force_18 ?_
    obtain ⟨rfl, rfl⟩ := pr_x h
    exact j_iret C dX11_force_20
def F_X11_truth (a1 : Int32) (D : Dt) : Option (Int64 × Dt) := (if a1 = 0 then (some ((0 : Int64), D)) else (some ((1 : Int64), D)))
set_option maxRecDepth 100000 in
set_option maxHeartbeats 4000000 in
theorem M_X11_truth {l : Launch} {G : Gt} {A : Nat → Prop} {lv : Nat} {a1 : Int32} {D : Dt} {r : Int64} {D' : Dt} (hG : Gok G A) (hlv : 1 ≤ lv)  (h : F_X11_truth a1 D = some (r, D')) : MD l G A lv yX11_truth cX11_truth 1 (some .long) [.int a1] D (some (.long r)) D' := by
  unfold F_X11_truth at h
  refine md_start RX11 hG (by decide +kernel) rfl (Nat.le_of_ble_eq_true rfl) (L := [(0, .int a1)]) rfl (fun X C => ?_)
  refine j_iload_n C 0 dX11_truth_0 rfl rfl ?_
  refine j_if_eq C 8 dX11_truth_1 (by decide) (fun c1 => ?_) (fun c1 => ?_)
  · have h := ite_t c1 h
    refine j_lconst C (0 : Int64) (by decide) dX11_truth_8 ?_
    obtain ⟨rfl, rfl⟩ := pr_x h
    exact j_lret C dX11_truth_9
  · have h := ite_f c1 h
    refine j_lconst C (1 : Int64) (by decide) dX11_truth_4 ?_
    refine j_goto C 9 dX11_truth_5 (by decide) ?_
    obtain ⟨rfl, rfl⟩ := pr_x h
    exact j_lret C dX11_truth_9
def F_X11_both_b123 (a1 : Int32) (a2 : Int64) (a3 : Int64)  (s0 : Int32) (D : Dt) : Option (Int64 × Dt) := (cbd (F_X11_truth s0 D) (fun r6 D7 => (some (r6, D7))))
set_option maxRecDepth 100000 in
set_option maxHeartbeats 4000000 in
theorem T_X11_both_b123 {r : Int64} {D' : Dt} {X : Ctx} {l : Launch} {G : Gt} {A : Nat → Prop} {lv : Nat} {a1 : Int32} {a2 : Int64} {a3 : Int64}   (hG : Gok G A) (hlv : 2 ≤ lv)   (C : Cx X cX11_both RX11 G l A lv 5 (some .long) (some (.long r)) D')  : ∀ (s0 : Int32) (D : Dt), F_X11_both_b123 a1 a2 a3 s0 D = some (r, D') → J X (Rep G D) 123 [] [.int s0] := by
  intro s0 D h
  unfold F_X11_both_b123 at h
  obtain ⟨r6, D7, h5, h⟩ := cbd_x h
  refine j_callS C [.int s0] [] cl_X11_323 (M_X11_truth (lv := lv - 1) hG (by omega) h5) (by omega) dX11_both_123 rfl rfl (Nat.le_of_ble_eq_true rfl) ?_
  refine j_st (st' := [.long r6]) rfl ?_
  obtain ⟨rfl, rfl⟩ := pr_x h
  exact j_lret C dX11_both_126
def F_X11_both_b138 (a1 : Int32) (a2 : Int64) (a3 : Int64)  (s0 : Int32) (D : Dt) : Option (Int64 × Dt) := (cbd (F_X11_truth s0 D) (fun r11 D12 => (some (r11, D12))))
set_option maxRecDepth 100000 in
set_option maxHeartbeats 4000000 in
theorem T_X11_both_b138 {r : Int64} {D' : Dt} {X : Ctx} {l : Launch} {G : Gt} {A : Nat → Prop} {lv : Nat} {a1 : Int32} {a2 : Int64} {a3 : Int64}   (hG : Gok G A) (hlv : 2 ≤ lv)   (C : Cx X cX11_both RX11 G l A lv 5 (some .long) (some (.long r)) D')  : ∀ (s0 : Int32) (D : Dt), F_X11_both_b138 a1 a2 a3 s0 D = some (r, D') → J X (Rep G D) 138 [] [.int s0] := by
  intro s0 D h
  unfold F_X11_both_b138 at h
  obtain ⟨r11, D12, h10, h⟩ := cbd_x h
  refine j_callS C [.int s0] [] cl_X11_323 (M_X11_truth (lv := lv - 1) hG (by omega) h10) (by omega) dX11_both_138 rfl rfl (Nat.le_of_ble_eq_true rfl) ?_
  refine j_st (st' := [.long r11]) rfl ?_
  obtain ⟨rfl, rfl⟩ := pr_x h
  exact j_lret C dX11_both_141
def F_X11_both_b153 (a1 : Int32) (a2 : Int64) (a3 : Int64)  (s0 : Int32) (D : Dt) : Option (Int64 × Dt) := (cbd (F_X11_truth s0 D) (fun r16 D17 => (some (r16, D17))))
set_option maxRecDepth 100000 in
set_option maxHeartbeats 4000000 in
theorem T_X11_both_b153 {r : Int64} {D' : Dt} {X : Ctx} {l : Launch} {G : Gt} {A : Nat → Prop} {lv : Nat} {a1 : Int32} {a2 : Int64} {a3 : Int64}   (hG : Gok G A) (hlv : 2 ≤ lv)   (C : Cx X cX11_both RX11 G l A lv 5 (some .long) (some (.long r)) D')  : ∀ (s0 : Int32) (D : Dt), F_X11_both_b153 a1 a2 a3 s0 D = some (r, D') → J X (Rep G D) 153 [] [.int s0] := by
  intro s0 D h
  unfold F_X11_both_b153 at h
  obtain ⟨r16, D17, h15, h⟩ := cbd_x h
  refine j_callS C [.int s0] [] cl_X11_323 (M_X11_truth (lv := lv - 1) hG (by omega) h15) (by omega) dX11_both_153 rfl rfl (Nat.le_of_ble_eq_true rfl) ?_
  refine j_st (st' := [.long r16]) rfl ?_
  obtain ⟨rfl, rfl⟩ := pr_x h
  exact j_lret C dX11_both_156
def F_X11_both_b168 (a1 : Int32) (a2 : Int64) (a3 : Int64)  (s0 : Int32) (D : Dt) : Option (Int64 × Dt) := (cbd (F_X11_truth s0 D) (fun r21 D22 => (some (r21, D22))))
set_option maxRecDepth 100000 in
set_option maxHeartbeats 4000000 in
theorem T_X11_both_b168 {r : Int64} {D' : Dt} {X : Ctx} {l : Launch} {G : Gt} {A : Nat → Prop} {lv : Nat} {a1 : Int32} {a2 : Int64} {a3 : Int64}   (hG : Gok G A) (hlv : 2 ≤ lv)   (C : Cx X cX11_both RX11 G l A lv 5 (some .long) (some (.long r)) D')  : ∀ (s0 : Int32) (D : Dt), F_X11_both_b168 a1 a2 a3 s0 D = some (r, D') → J X (Rep G D) 168 [] [.int s0] := by
  intro s0 D h
  unfold F_X11_both_b168 at h
  obtain ⟨r21, D22, h20, h⟩ := cbd_x h
  refine j_callS C [.int s0] [] cl_X11_323 (M_X11_truth (lv := lv - 1) hG (by omega) h20) (by omega) dX11_both_168 rfl rfl (Nat.le_of_ble_eq_true rfl) ?_
  refine j_st (st' := [.long r21]) rfl ?_
  obtain ⟨rfl, rfl⟩ := pr_x h
  exact j_lret C dX11_both_171
def F_X11_both_b183 (a1 : Int32) (a2 : Int64) (a3 : Int64)  (s0 : Int32) (D : Dt) : Option (Int64 × Dt) := (cbd (F_X11_truth s0 D) (fun r26 D27 => (some (r26, D27))))
set_option maxRecDepth 100000 in
set_option maxHeartbeats 4000000 in
theorem T_X11_both_b183 {r : Int64} {D' : Dt} {X : Ctx} {l : Launch} {G : Gt} {A : Nat → Prop} {lv : Nat} {a1 : Int32} {a2 : Int64} {a3 : Int64}   (hG : Gok G A) (hlv : 2 ≤ lv)   (C : Cx X cX11_both RX11 G l A lv 5 (some .long) (some (.long r)) D')  : ∀ (s0 : Int32) (D : Dt), F_X11_both_b183 a1 a2 a3 s0 D = some (r, D') → J X (Rep G D) 183 [] [.int s0] := by
  intro s0 D h
  unfold F_X11_both_b183 at h
  obtain ⟨r26, D27, h25, h⟩ := cbd_x h
  refine j_callS C [.int s0] [] cl_X11_323 (M_X11_truth (lv := lv - 1) hG (by omega) h25) (by omega) dX11_both_183 rfl rfl (Nat.le_of_ble_eq_true rfl) ?_
  refine j_st (st' := [.long r26]) rfl ?_
  obtain ⟨rfl, rfl⟩ := pr_x h
  exact j_lret C dX11_both_186
def F_X11_both (a1 : Int32) (a2 : Int64) (a3 : Int64) (D : Dt) : Option (Int64 × Dt) := (if a1 = (2 : Int32) then (some ((a2 + a3), D)) else if a1 = (3 : Int32) then (some ((a2 - a3), D)) else if a1 = (4 : Int32) then (if 0 ≤ (lg_cmp a2 a3) then (F_X11_both_b123 a1 a2 a3 (0 : Int32) D) else (F_X11_both_b123 a1 a2 a3 (1 : Int32) D)) else if a1 = (5 : Int32) then (if 0 < (lg_cmp a2 a3) then (F_X11_both_b138 a1 a2 a3 (0 : Int32) D) else (F_X11_both_b138 a1 a2 a3 (1 : Int32) D)) else if a1 = (6 : Int32) then (if (lg_cmp a2 a3) = 0 then (F_X11_both_b153 a1 a2 a3 (1 : Int32) D) else (F_X11_both_b153 a1 a2 a3 (0 : Int32) D)) else if a1 = (7 : Int32) then (if (lg_cmp a2 a3) < 0 then (F_X11_both_b168 a1 a2 a3 (0 : Int32) D) else (F_X11_both_b168 a1 a2 a3 (1 : Int32) D)) else if a1 = (8 : Int32) then (if (lg_cmp a2 a3) ≤ 0 then (F_X11_both_b183 a1 a2 a3 (0 : Int32) D) else (F_X11_both_b183 a1 a2 a3 (1 : Int32) D)) else if a1 = (10 : Int32) then (some ((a2 &&& a3), D)) else if a1 = (13 : Int32) then (some ((a2 * a3), D)) else if a1 = (14 : Int32) then (if (lg_cmp a3 (0 : Int64)) = 0 then (some ((0 : Int64), D)) else (grd (¬ a3 = 0) (some ((a2 / a3), D)))) else if a1 = (15 : Int32) then (if (lg_cmp a3 (0 : Int64)) = 0 then (some ((0 : Int64), D)) else (grd (¬ a3 = 0) (some ((a2 - a2 / a3 * a3), D)))) else (some ((a2 ||| a3), D)))
set_option maxRecDepth 100000 in
set_option maxHeartbeats 4000000 in
theorem M_X11_both {l : Launch} {G : Gt} {A : Nat → Prop} {lv : Nat} {a1 : Int32} {a2 : Int64} {a3 : Int64} {D : Dt} {r : Int64} {D' : Dt} (hG : Gok G A) (hlv : 2 ≤ lv)  (h : F_X11_both a1 a2 a3 D = some (r, D')) : MD l G A lv yX11_both cX11_both 5 (some .long) [.int a1, .long a2, .long a3] D (some (.long r)) D' := by
  unfold F_X11_both at h
  refine md_start RX11 hG (by decide +kernel) rfl (Nat.le_of_ble_eq_true rfl) (L := [(0, .int a1), (1, .long a2), (3, .long a3)]) rfl (fun X C => ?_)
  refine j_iload_n C 0 dX11_both_0 rfl rfl ?_
  by_cases c1 : a1 = (2 : Int32)
  · have h := ite_t c1 h
    refine j_tabIn C (off := 71) (2 : Int32) 72 dX11_both_1 c1 ⟨by decide, by decide⟩ (by decide +kernel) (by decide) ?_
    refine j_lload_n C 1 dX11_both_72 rfl rfl ?_
    refine j_lload_n C 2 dX11_both_73 rfl rfl ?_
    refine j_ladd C dX11_both_74 ?_
    obtain ⟨rfl, rfl⟩ := pr_x h
    exact j_lret C dX11_both_75
  have h := ite_f c1 h
  by_cases c2 : a1 = (3 : Int32)
  · have h := ite_t c2 h
    refine j_tabIn C (off := 75) (3 : Int32) 76 dX11_both_1 c2 ⟨by decide, by decide⟩ (by decide +kernel) (by decide) ?_
    refine j_lload_n C 1 dX11_both_76 rfl rfl ?_
    refine j_lload_n C 2 dX11_both_77 rfl rfl ?_
    refine j_lsub C dX11_both_78 ?_
    obtain ⟨rfl, rfl⟩ := pr_x h
    exact j_lret C dX11_both_79
  have h := ite_f c2 h
  by_cases c3 : a1 = (4 : Int32)
  · have h := ite_t c3 h
    refine j_tabIn C (off := 111) (4 : Int32) 112 dX11_both_1 c3 ⟨by decide, by decide⟩ (by decide +kernel) (by decide) ?_
    refine j_lload_n C 1 dX11_both_112 rfl rfl ?_
    refine j_lload_n C 2 dX11_both_113 rfl rfl ?_
    refine j_lcmp C dX11_both_114 ?_
    refine j_if_ge C 122 dX11_both_115 (by decide) (fun c4 => ?_) (fun c4 => ?_)
    · have h := ite_t c4 h
      refine j_iconst C (0 : Int32) (by decide) dX11_both_122 ?_
      refine j_sub [] [] rfl ?_
      refine T_X11_both_b123 hG hlv  C  (0 : Int32) D h
    · have h := ite_f c4 h
      refine j_iconst C (1 : Int32) (by decide) dX11_both_118 ?_
      refine j_goto C 123 dX11_both_119 (by decide) ?_
      refine j_sub [] [] rfl ?_
      refine T_X11_both_b123 hG hlv  C  (1 : Int32) D h
  have h := ite_f c3 h
  by_cases c8 : a1 = (5 : Int32)
  · have h := ite_t c8 h
    refine j_tabIn C (off := 126) (5 : Int32) 127 dX11_both_1 c8 ⟨by decide, by decide⟩ (by decide +kernel) (by decide) ?_
    refine j_lload_n C 1 dX11_both_127 rfl rfl ?_
    refine j_lload_n C 2 dX11_both_128 rfl rfl ?_
    refine j_lcmp C dX11_both_129 ?_
    refine j_if_gt C 137 dX11_both_130 (by decide) (fun c9 => ?_) (fun c9 => ?_)
    · have h := ite_t c9 h
      refine j_iconst C (0 : Int32) (by decide) dX11_both_137 ?_
      refine j_sub [] [] rfl ?_
      refine T_X11_both_b138 hG hlv  C  (0 : Int32) D h
    · have h := ite_f c9 h
      refine j_iconst C (1 : Int32) (by decide) dX11_both_133 ?_
      refine j_goto C 138 dX11_both_134 (by decide) ?_
      refine j_sub [] [] rfl ?_
      refine T_X11_both_b138 hG hlv  C  (1 : Int32) D h
  have h := ite_f c8 h
  by_cases c13 : a1 = (6 : Int32)
  · have h := ite_t c13 h
    refine j_tabIn C (off := 141) (6 : Int32) 142 dX11_both_1 c13 ⟨by decide, by decide⟩ (by decide +kernel) (by decide) ?_
    refine j_lload_n C 1 dX11_both_142 rfl rfl ?_
    refine j_lload_n C 2 dX11_both_143 rfl rfl ?_
    refine j_lcmp C dX11_both_144 ?_
    refine j_if_ne C 152 dX11_both_145 (by decide) (fun c14 => ?_) (fun c14 => ?_)
    · have h := ite_f c14 h
      refine j_iconst C (0 : Int32) (by decide) dX11_both_152 ?_
      refine j_sub [] [] rfl ?_
      refine T_X11_both_b153 hG hlv  C  (0 : Int32) D h
    · have h := ite_t c14 h
      refine j_iconst C (1 : Int32) (by decide) dX11_both_148 ?_
      refine j_goto C 153 dX11_both_149 (by decide) ?_
      refine j_sub [] [] rfl ?_
      refine T_X11_both_b153 hG hlv  C  (1 : Int32) D h
  have h := ite_f c13 h
  by_cases c18 : a1 = (7 : Int32)
  · have h := ite_t c18 h
    refine j_tabIn C (off := 156) (7 : Int32) 157 dX11_both_1 c18 ⟨by decide, by decide⟩ (by decide +kernel) (by decide) ?_
    refine j_lload_n C 1 dX11_both_157 rfl rfl ?_
    refine j_lload_n C 2 dX11_both_158 rfl rfl ?_
    refine j_lcmp C dX11_both_159 ?_
    refine j_if_lt C 167 dX11_both_160 (by decide) (fun c19 => ?_) (fun c19 => ?_)
    · have h := ite_t c19 h
      refine j_iconst C (0 : Int32) (by decide) dX11_both_167 ?_
      refine j_sub [] [] rfl ?_
      refine T_X11_both_b168 hG hlv  C  (0 : Int32) D h
    · have h := ite_f c19 h
      refine j_iconst C (1 : Int32) (by decide) dX11_both_163 ?_
      refine j_goto C 168 dX11_both_164 (by decide) ?_
      refine j_sub [] [] rfl ?_
      refine T_X11_both_b168 hG hlv  C  (1 : Int32) D h
  have h := ite_f c18 h
  by_cases c23 : a1 = (8 : Int32)
  · have h := ite_t c23 h
    refine j_tabIn C (off := 171) (8 : Int32) 172 dX11_both_1 c23 ⟨by decide, by decide⟩ (by decide +kernel) (by decide) ?_
    refine j_lload_n C 1 dX11_both_172 rfl rfl ?_
    refine j_lload_n C 2 dX11_both_173 rfl rfl ?_
    refine j_lcmp C dX11_both_174 ?_
    refine j_if_le C 182 dX11_both_175 (by decide) (fun c24 => ?_) (fun c24 => ?_)
    · have h := ite_t c24 h
      refine j_iconst C (0 : Int32) (by decide) dX11_both_182 ?_
      refine j_sub [] [] rfl ?_
      refine T_X11_both_b183 hG hlv  C  (0 : Int32) D h
    · have h := ite_f c24 h
      refine j_iconst C (1 : Int32) (by decide) dX11_both_178 ?_
      refine j_goto C 183 dX11_both_179 (by decide) ?_
      refine j_sub [] [] rfl ?_
      refine T_X11_both_b183 hG hlv  C  (1 : Int32) D h
  have h := ite_f c23 h
  by_cases c28 : a1 = (10 : Int32)
  · have h := ite_t c28 h
    refine j_tabIn C (off := 186) (10 : Int32) 187 dX11_both_1 c28 ⟨by decide, by decide⟩ (by decide +kernel) (by decide) ?_
    refine j_lload_n C 1 dX11_both_187 rfl rfl ?_
    refine j_lload_n C 2 dX11_both_188 rfl rfl ?_
    refine j_land C dX11_both_189 ?_
    obtain ⟨rfl, rfl⟩ := pr_x h
    exact j_lret C dX11_both_190
  have h := ite_f c28 h
  by_cases c29 : a1 = (13 : Int32)
  · have h := ite_t c29 h
    refine j_tabIn C (off := 79) (13 : Int32) 80 dX11_both_1 c29 ⟨by decide, by decide⟩ (by decide +kernel) (by decide) ?_
    refine j_lload_n C 1 dX11_both_80 rfl rfl ?_
    refine j_lload_n C 2 dX11_both_81 rfl rfl ?_
    refine j_lmul C dX11_both_82 ?_
    obtain ⟨rfl, rfl⟩ := pr_x h
    exact j_lret C dX11_both_83
  have h := ite_f c29 h
  by_cases c30 : a1 = (14 : Int32)
  · have h := ite_t c30 h
    refine j_tabIn C (off := 83) (14 : Int32) 84 dX11_both_1 c30 ⟨by decide, by decide⟩ (by decide +kernel) (by decide) ?_
    refine j_lload_n C 2 dX11_both_84 rfl rfl ?_
    refine j_lconst C (0 : Int64) (by decide) dX11_both_85 ?_
    refine j_lcmp C dX11_both_86 ?_
    refine j_if_ne C 94 dX11_both_87 (by decide) (fun c31 => ?_) (fun c31 => ?_)
    · have h := ite_f c31 h
      refine j_lload_n C 1 dX11_both_94 rfl rfl ?_
      refine j_lload_n C 2 dX11_both_95 rfl rfl ?_
      obtain ⟨g32, h⟩ := grd_x h
      refine j_ldiv C g32 dX11_both_96 ?_
      obtain ⟨rfl, rfl⟩ := pr_x h
      exact j_lret C dX11_both_97
    · have h := ite_t c31 h
      refine j_lconst C (0 : Int64) (by decide) dX11_both_90 ?_
      refine j_goto C 97 dX11_both_91 (by decide) ?_
      obtain ⟨rfl, rfl⟩ := pr_x h
      exact j_lret C dX11_both_97
  have h := ite_f c30 h
  by_cases c33 : a1 = (15 : Int32)
  · have h := ite_t c33 h
    refine j_tabIn C (off := 97) (15 : Int32) 98 dX11_both_1 c33 ⟨by decide, by decide⟩ (by decide +kernel) (by decide) ?_
    refine j_lload_n C 2 dX11_both_98 rfl rfl ?_
    refine j_lconst C (0 : Int64) (by decide) dX11_both_99 ?_
    refine j_lcmp C dX11_both_100 ?_
    refine j_if_ne C 108 dX11_both_101 (by decide) (fun c34 => ?_) (fun c34 => ?_)
    · have h := ite_f c34 h
      refine j_lload_n C 1 dX11_both_108 rfl rfl ?_
      refine j_lload_n C 2 dX11_both_109 rfl rfl ?_
      obtain ⟨g35, h⟩ := grd_x h
      refine j_lrem C g35 dX11_both_110 ?_
      obtain ⟨rfl, rfl⟩ := pr_x h
      exact j_lret C dX11_both_111
    · have h := ite_t c34 h
      refine j_lconst C (0 : Int64) (by decide) dX11_both_104 ?_
      refine j_goto C 111 dX11_both_105 (by decide) ?_
      obtain ⟨rfl, rfl⟩ := pr_x h
      exact j_lret C dX11_both_111
  have h := ite_f c33 h
  by_cases c36 : a1 = (9 : Int32)
  · refine j_tabIn C (off := 190) (9 : Int32) 191 dX11_both_1 c36 ⟨by decide, by decide⟩ (by decide +kernel) (by decide) ?_
    refine j_lload_n C 1 dX11_both_191 rfl rfl ?_
    refine j_lload_n C 2 dX11_both_192 rfl rfl ?_
    refine j_lor C dX11_both_193 ?_
    obtain ⟨rfl, rfl⟩ := pr_x h
    exact j_lret C dX11_both_194
  by_cases c37 : a1 = (11 : Int32)
  · refine j_tabIn C (off := 190) (11 : Int32) 191 dX11_both_1 c37 ⟨by decide, by decide⟩ (by decide +kernel) (by decide) ?_
    refine j_lload_n C 1 dX11_both_191 rfl rfl ?_
    refine j_lload_n C 2 dX11_both_192 rfl rfl ?_
    refine j_lor C dX11_both_193 ?_
    obtain ⟨rfl, rfl⟩ := pr_x h
    exact j_lret C dX11_both_194
  by_cases c38 : a1 = (12 : Int32)
  · refine j_tabIn C (off := 190) (12 : Int32) 191 dX11_both_1 c38 ⟨by decide, by decide⟩ (by decide +kernel) (by decide) ?_
    refine j_lload_n C 1 dX11_both_191 rfl rfl ?_
    refine j_lload_n C 2 dX11_both_192 rfl rfl ?_
    refine j_lor C dX11_both_193 ?_
    obtain ⟨rfl, rfl⟩ := pr_x h
    exact j_lret C dX11_both_194
  refine j_tabOut C 191 dX11_both_1 (by have z0 : a1.toInt ≠ 2 := ne_toInt c1; have z1 : a1.toInt ≠ 3 := ne_toInt c2; have z2 : a1.toInt ≠ 4 := ne_toInt c3; have z3 : a1.toInt ≠ 5 := ne_toInt c8; have z4 : a1.toInt ≠ 6 := ne_toInt c13; have z5 : a1.toInt ≠ 7 := ne_toInt c18; have z6 : a1.toInt ≠ 8 := ne_toInt c23; have z7 : a1.toInt ≠ 10 := ne_toInt c28; have z8 : a1.toInt ≠ 13 := ne_toInt c29; have z9 : a1.toInt ≠ 14 := ne_toInt c30; have z10 : a1.toInt ≠ 15 := ne_toInt c33; have z11 : a1.toInt ≠ 9 := ne_toInt c36; have z12 : a1.toInt ≠ 11 := ne_toInt c37; have z13 : a1.toInt ≠ 12 := ne_toInt c38; omega) (by decide) ?_
  refine j_lload_n C 1 dX11_both_191 rfl rfl ?_
  refine j_lload_n C 2 dX11_both_192 rfl rfl ?_
  refine j_lor C dX11_both_193 ?_
  obtain ⟨rfl, rfl⟩ := pr_x h
  exact j_lret C dX11_both_194
def F_X11_answer_b147 (a1 : Int32) (a2 : Int32) (a3 : Int32) (k6 : Int32 → Int32 → Int32 → Int32 → Dt → Option (Int64 × Dt)) (l1 : Int32) (l3 : Int32) (l4 : Int32) (l5 : Int32) (D : Dt) : Option (Int64 × Dt) := (bnd (l5 + (1 : Int32)) (fun v11 => (k6 l1 l3 l4 v11 D)))
set_option maxRecDepth 100000 in
set_option maxHeartbeats 4000000 in
theorem T_X11_answer_b147 {r : Int64} {D' : Dt} {X : Ctx} {l : Launch} {G : Gt} {A : Nat → Prop} {lv : Nat} {a1 : Int32} {a2 : Int32} {a3 : Int32}  {k6 : Int32 → Int32 → Int32 → Int32 → Dt → Option (Int64 × Dt)} (hG : Gok G A) (hlv : 3 ≤ lv)   (C : Cx X cX11_answer RX11 G l A lv 8 (some .long) (some (.long r)) D') (hk6 : ∀ (l1 : Int32) (l3 : Int32) (l4 : Int32) (l5 : Int32) (D : Dt), k6 l1 l3 l4 l5 D = some (r, D') → J X (Rep G D) 6 [(0, .ref (ad G (11, 0, 0, 0))), (1, .int l1), (3, .int l3), (4, .int l4), (5, .int l5)] []) : ∀ (l1 : Int32) (l3 : Int32) (l4 : Int32) (l5 : Int32) (D : Dt), F_X11_answer_b147 a1 a2 a3 k6 l1 l3 l4 l5 D = some (r, D') → J X (Rep G D) 147 [(0, .ref (ad G (11, 0, 0, 0))), (1, .int l1), (3, .int l3), (4, .int l4), (5, .int l5)] [] := by
  intro l1 l3 l4 l5 D h
  unfold F_X11_answer_b147 at h
  obtain ⟨v11, ev11, h⟩ := bnd_x h
  refine j_iinc C 4 [(5, .int v11), (0, .ref (ad G (11, 0, 0, 0))), (1, .int l1), (3, .int l3), (4, .int l4)] dX11_answer_147 rfl (Nat.le_of_ble_eq_true rfl) (ev11.trans (congrArg (l5 + ·) (by decide))) rfl ?_
  refine j_goto C 6 dX11_answer_150 (by decide) ?_
  refine j_sub [1, 2, 3, 4, 0] [(0, .ref (ad G (11, 0, 0, 0))), (1, .int l1), (3, .int l3), (4, .int l4), (5, .int v11)] rfl ?_
  exact hk6 l1 l3 l4 v11 D h
def F_X11_answer_b77 (a1 : Int32) (a2 : Int32) (a3 : Int32) (k6 : Int32 → Int32 → Int32 → Int32 → Dt → Option (Int64 × Dt)) (l1 : Int32) (l3 : Int32) (l4 : Int32) (l5 : Int32) (s1 : Int32) (s2 : Int64) (D : Dt) : Option (Int64 × Dt) := (grd (inB s1 300 = true) (bnd (setL D (11, 0, 39, 0) (s1.toNatClampNeg) s2) (fun D9 => (bnd (l4 + (1 : Int32)) (fun v10 => (F_X11_answer_b147 a1 a2 a3 (fun l1_12 l3_13 l4_14 l5_15 D16 => (k6 l1_12 l3_13 l4_14 l5_15 D16)) l1 l3 v10 l5 D9))))))
set_option maxRecDepth 100000 in
set_option maxHeartbeats 4000000 in
theorem T_X11_answer_b77 {r : Int64} {D' : Dt} {X : Ctx} {l : Launch} {G : Gt} {A : Nat → Prop} {lv : Nat} {a1 : Int32} {a2 : Int32} {a3 : Int32}  {k6 : Int32 → Int32 → Int32 → Int32 → Dt → Option (Int64 × Dt)} (hG : Gok G A) (hlv : 3 ≤ lv)   (C : Cx X cX11_answer RX11 G l A lv 8 (some .long) (some (.long r)) D') (hk6 : ∀ (l1 : Int32) (l3 : Int32) (l4 : Int32) (l5 : Int32) (D : Dt), k6 l1 l3 l4 l5 D = some (r, D') → J X (Rep G D) 6 [(0, .ref (ad G (11, 0, 0, 0))), (1, .int l1), (3, .int l3), (4, .int l4), (5, .int l5)] []) : ∀ (l1 : Int32) (l3 : Int32) (l4 : Int32) (l5 : Int32) (s1 : Int32) (s2 : Int64) (D : Dt), F_X11_answer_b77 a1 a2 a3 k6 l1 l3 l4 l5 s1 s2 D = some (r, D') → J X (Rep G D) 77 [(0, .ref (ad G (11, 0, 0, 0))), (1, .int l1), (3, .int l3), (4, .int l4), (5, .int l5)] [.long s2, .int s1, .ref (ad G (11, 0, 39, 0))] := by
  intro l1 l3 l4 l5 s1 s2 D h
  unfold F_X11_answer_b77 at h
  obtain ⟨g8, h⟩ := grd_x h
  obtain ⟨D9, eD9, h⟩ := bnd_x h
  refine j_lastK C 300 (s1.toNatClampNeg) dX11_answer_77 (V_f 38 (by decide) (by decide)) rfl g8 rfl ?_
  refine j_rep eD9 ?_
  obtain ⟨v10, ev10, h⟩ := bnd_x h
  refine j_iinc C 3 [(4, .int v10), (0, .ref (ad G (11, 0, 0, 0))), (1, .int l1), (3, .int l3), (5, .int l5)] dX11_answer_78 rfl (Nat.le_of_ble_eq_true rfl) (ev10.trans (congrArg (l4 + ·) (by decide))) rfl ?_
  refine j_goto C 147 dX11_answer_81 (by decide) ?_
  refine j_sub [1, 2, 3, 0, 4] [(0, .ref (ad G (11, 0, 0, 0))), (1, .int l1), (3, .int l3), (4, .int v10), (5, .int l5)] rfl ?_
  refine T_X11_answer_b147 hG hlv  C (fun l1_12 l3_13 l4_14 l5_15 D16 h => ?_) l1 l3 v10 l5 D9 h
  · exact hk6 l1_12 l3_13 l4_14 l5_15 D16 h
def F_X11_answer_b53 (a1 : Int32) (a2 : Int32) (a3 : Int32) (k6 : Int32 → Int32 → Int32 → Int32 → Dt → Option (Int64 × Dt)) (l1 : Int32) (l3 : Int32) (l4 : Int32) (l5 : Int32) (l6 : Int32) (l7 : Int32) (D : Dt) : Option (Int64 × Dt) := (if l6 = 0 then (F_X11_answer_b77 a1 a2 a3 (fun l1_22 l3_23 l4_24 l5_25 D26 => (k6 l1_22 l3_23 l4_24 l5_25 D26)) l1 l3 l4 l5 l4 l7.toInt64 D) else (grd (inB l7 12 = true) (F_X11_answer_b77 a1 a2 a3 (fun l1_17 l3_18 l4_19 l5_20 D21 => (k6 l1_17 l3_18 l4_19 l5_20 D21)) l1 l3 l4 l5 l4 (D.2.1 (11, 0, 38, 0) (l7.toNatClampNeg)) D)))
set_option maxRecDepth 100000 in
set_option maxHeartbeats 4000000 in
theorem T_X11_answer_b53 {r : Int64} {D' : Dt} {X : Ctx} {l : Launch} {G : Gt} {A : Nat → Prop} {lv : Nat} {a1 : Int32} {a2 : Int32} {a3 : Int32}  {k6 : Int32 → Int32 → Int32 → Int32 → Dt → Option (Int64 × Dt)} (hG : Gok G A) (hlv : 3 ≤ lv)   (C : Cx X cX11_answer RX11 G l A lv 8 (some .long) (some (.long r)) D') (hk6 : ∀ (l1 : Int32) (l3 : Int32) (l4 : Int32) (l5 : Int32) (D : Dt), k6 l1 l3 l4 l5 D = some (r, D') → J X (Rep G D) 6 [(0, .ref (ad G (11, 0, 0, 0))), (1, .int l1), (3, .int l3), (4, .int l4), (5, .int l5)] []) : ∀ (l1 : Int32) (l3 : Int32) (l4 : Int32) (l5 : Int32) (l6 : Int32) (l7 : Int32) (D : Dt), F_X11_answer_b53 a1 a2 a3 k6 l1 l3 l4 l5 l6 l7 D = some (r, D') → J X (Rep G D) 53 [(0, .ref (ad G (11, 0, 0, 0))), (1, .int l1), (3, .int l3), (4, .int l4), (5, .int l5), (6, .int l6), (7, .int l7)] [] := by
  intro l1 l3 l4 l5 l6 l7 D h
  unfold F_X11_answer_b53 at h
  refine j_aload_n C 0 dX11_answer_53 rfl rfl ?_
  refine j_getS C (11, 0, 39, 0) fl_X11_97 dX11_answer_54 (by decide) ⟨rfl, rfl⟩ rfl rfl ?_
  refine j_iload C 3 dX11_answer_57 rfl ?_
  refine j_iload C 5 dX11_answer_59 rfl ?_
  refine j_if_ne C 70 dX11_answer_61 (by decide) (fun c6 => ?_) (fun c6 => ?_)
  · have h := ite_f c6 h
    refine j_aload_n C 0 dX11_answer_70 rfl rfl ?_
    refine j_getS C (11, 0, 38, 0) fl_X11_93 dX11_answer_71 (by decide) ⟨rfl, rfl⟩ rfl rfl ?_
    refine j_iload C 6 dX11_answer_74 rfl ?_
    obtain ⟨g7, h⟩ := grd_x h
    refine j_laldK C 12 (l7.toNatClampNeg) dX11_answer_76 (V_f 37 (by decide) (by decide)) rfl g7 rfl ?_
    refine j_sub [0, 1, 2, 3, 4] [(0, .ref (ad G (11, 0, 0, 0))), (1, .int l1), (3, .int l3), (4, .int l4), (5, .int l5)] rfl ?_
    refine T_X11_answer_b77 hG hlv  C (fun l1_17 l3_18 l4_19 l5_20 D21 h => ?_) l1 l3 l4 l5 l4 (D.2.1 (11, 0, 38, 0) (l7.toNatClampNeg)) D h
    · exact hk6 l1_17 l3_18 l4_19 l5_20 D21 h
  · have h := ite_t c6 h
    refine j_iload C 6 dX11_answer_64 rfl ?_
    refine j_i2l C dX11_answer_66 ?_
    refine j_goto C 77 dX11_answer_67 (by decide) ?_
    refine j_sub [0, 1, 2, 3, 4] [(0, .ref (ad G (11, 0, 0, 0))), (1, .int l1), (3, .int l3), (4, .int l4), (5, .int l5)] rfl ?_
    refine T_X11_answer_b77 hG hlv  C (fun l1_22 l3_23 l4_24 l5_25 D26 h => ?_) l1 l3 l4 l5 l4 l7.toInt64 D h
    · exact hk6 l1_22 l3_23 l4_24 l5_25 D26 h
def F_X11_answer_b6 (a1 : Int32) (a2 : Int32) (a3 : Int32)  : Nat → Int32 → Int32 → Int32 → Int32 → Dt → Option (Int64 × Dt)
  | 0, _, _, _, _, _ => none
  | f + 1, l1, l3, l4, l5, D => (if l3 ≤ l5 then (some ((D.2.1 (11, 0, 39, 0) 0), D)) else (grd (inB (((300 : Int32) * l1) + l5) 1800 = true) (bnd (D.1 (11, 0, 31, 0) ((((300 : Int32) * l1) + l5).toNatClampNeg)) (fun v3 => (bnd (D.1 (11, 0, 32, 0) ((((300 : Int32) * l1) + l5).toNatClampNeg)) (fun v4 => (if v3 = 0 then (F_X11_answer_b53 a1 a2 a3 (fun l1_27 l3_28 l4_29 l5_30 D31 => (F_X11_answer_b6 a1 a2 a3 f l1_27 l3_28 l4_29 l5_30 D31)) l1 l3 l4 l5 v3 v4 D) else (if v3 = (1 : Int32) then (F_X11_answer_b53 a1 a2 a3 (fun l1_53 l3_54 l4_55 l5_56 D57 => (F_X11_answer_b6 a1 a2 a3 f l1_53 l3_54 l4_55 l5_56 D57)) l1 l3 l4 l5 v3 v4 D) else (if v3 = (9 : Int32) then (grd (inB (l4 - (1 : Int32)) 300 = true) (bnd (setL D (11, 0, 39, 0) ((l4 - (1 : Int32)).toNatClampNeg) ((1 : Int64) - (D.2.1 (11, 0, 39, 0) ((l4 - (1 : Int32)).toNatClampNeg)))) (fun D47 => (F_X11_answer_b147 a1 a2 a3 (fun l1_48 l3_49 l4_50 l5_51 D52 => (F_X11_answer_b6 a1 a2 a3 f l1_48 l3_49 l4_50 l5_51 D52)) l1 l3 l4 l5 D47)))) else (bnd (l4 + (-1 : Int32)) (fun v34 => (grd (inB (v34 - (1 : Int32)) 300 = true) (grd (inB v34 300 = true) (cbd (F_X11_both v3 (D.2.1 (11, 0, 39, 0) ((v34 - (1 : Int32)).toNatClampNeg)) (D.2.1 (11, 0, 39, 0) (v34.toNatClampNeg)) D) (fun r38 D39 => (bnd (setL D39 (11, 0, 39, 0) ((v34 - (1 : Int32)).toNatClampNeg) r38) (fun D40 => (F_X11_answer_b147 a1 a2 a3 (fun l1_41 l3_42 l4_43 l5_44 D45 => (F_X11_answer_b6 a1 a2 a3 f l1_41 l3_42 l4_43 l5_44 D45)) l1 l3 v34 l5 D40))))))))))))))))))
set_option maxRecDepth 100000 in
set_option maxHeartbeats 4000000 in
theorem T_X11_answer_b6 {r : Int64} {D' : Dt} {X : Ctx} {l : Launch} {G : Gt} {A : Nat → Prop} {lv : Nat} {a1 : Int32} {a2 : Int32} {a3 : Int32}   (hG : Gok G A) (hlv : 3 ≤ lv)   (C : Cx X cX11_answer RX11 G l A lv 8 (some .long) (some (.long r)) D')  : ∀ (f : Nat) (l1 : Int32) (l3 : Int32) (l4 : Int32) (l5 : Int32) (D : Dt), F_X11_answer_b6 a1 a2 a3 f l1 l3 l4 l5 D = some (r, D') → J X (Rep G D) 6 [(0, .ref (ad G (11, 0, 0, 0))), (1, .int l1), (3, .int l3), (4, .int l4), (5, .int l5)] [] := by
  intro f
  induction f with
  | zero =>
    intro l1 l3 l4 l5 D h
    exact nomatch h
  | succ f ih =>
    intro l1 l3 l4 l5 D h
    rw [F_X11_answer_b6] at h
    refine j_iload C 4 dX11_answer_6 rfl ?_
    refine j_iload_n C 2 dX11_answer_8 rfl rfl ?_
    refine j_icmp_ge C 153 dX11_answer_9 (by decide) (fun c1 => ?_) (fun c1 => ?_)
    · have h := ite_t c1 h
      refine j_aload_n C 0 dX11_answer_153 rfl rfl ?_
      refine j_getS C (11, 0, 39, 0) fl_X11_97 dX11_answer_154 (by decide) ⟨rfl, rfl⟩ rfl rfl ?_
      refine j_iconst C (0 : Int32) (by decide) dX11_answer_157 ?_
      refine j_laldK C 300 0 dX11_answer_158 (V_f 38 (by decide) (by decide)) rfl (by decide) (by decide) ?_
      obtain ⟨rfl, rfl⟩ := pr_x h
      exact j_lret C dX11_answer_159
    · have h := ite_f c1 h
      refine j_aload_n C 0 dX11_answer_12 rfl rfl ?_
      refine j_getS C (11, 0, 31, 0) fl_X11_72 dX11_answer_13 (by decide) ⟨rfl, rfl⟩ rfl rfl ?_
      refine j_sipush C (300 : Int32) (by decide) dX11_answer_16 ?_
      refine j_iload_n C 1 dX11_answer_19 rfl rfl ?_
      refine j_imul C dX11_answer_20 ?_
      refine j_iload C 4 dX11_answer_21 rfl ?_
      refine j_iadd C dX11_answer_23 ?_
      obtain ⟨g2, h⟩ := grd_x h
      refine j_ialdK C 1800 ((((300 : Int32) * l1) + l5).toNatClampNeg) dX11_answer_24 (V_f 30 (by decide) (by decide)) rfl g2 rfl ?_
      obtain ⟨v3, ev3, h⟩ := bnd_x h
      refine j_istore C [(6, .int v3), (0, .ref (ad G (11, 0, 0, 0))), (1, .int l1), (3, .int l3), (4, .int l4), (5, .int l5)] dX11_answer_25 (Nat.le_of_ble_eq_true rfl) ev3 rfl ?_
      refine j_aload_n C 1 dX11_answer_27 rfl rfl ?_
      refine j_getS C (11, 0, 32, 0) fl_X11_75 dX11_answer_28 (by decide) ⟨rfl, rfl⟩ rfl rfl ?_
      refine j_sipush C (300 : Int32) (by decide) dX11_answer_31 ?_
      refine j_iload_n C 2 dX11_answer_34 rfl rfl ?_
      refine j_imul C dX11_answer_35 ?_
      refine j_iload C 5 dX11_answer_36 rfl ?_
      refine j_iadd C dX11_answer_38 ?_
      refine j_ialdK C 1800 ((((300 : Int32) * l1) + l5).toNatClampNeg) dX11_answer_39 (V_f 31 (by decide) (by decide)) rfl g2 rfl ?_
      obtain ⟨v4, ev4, h⟩ := bnd_x h
      refine j_istore C [(7, .int v4), (6, .int v3), (0, .ref (ad G (11, 0, 0, 0))), (1, .int l1), (3, .int l3), (4, .int l4), (5, .int l5)] dX11_answer_40 (Nat.le_of_ble_eq_true rfl) ev4 rfl ?_
      refine j_iload C 1 dX11_answer_42 rfl ?_
      refine j_if_eq C 53 dX11_answer_44 (by decide) (fun c5 => ?_) (fun c5 => ?_)
      · have h := ite_t c5 h
        refine j_sub [2, 3, 4, 5, 6, 1, 0] [(0, .ref (ad G (11, 0, 0, 0))), (1, .int l1), (3, .int l3), (4, .int l4), (5, .int l5), (6, .int v3), (7, .int v4)] rfl ?_
        refine T_X11_answer_b53 hG hlv  C (fun l1_27 l3_28 l4_29 l5_30 D31 h => ?_) l1 l3 l4 l5 v3 v4 D h
        · exact ih l1_27 l3_28 l4_29 l5_30 D31 h
      · have h := ite_f c5 h
        refine j_iload C 1 dX11_answer_47 rfl ?_
        refine j_iconst C (1 : Int32) (by decide) dX11_answer_49 ?_
        refine j_icmp_ne C 84 dX11_answer_50 (by decide) (fun c32 => ?_) (fun c32 => ?_)
        · have h := ite_f c32 h
          refine j_iload C 1 dX11_answer_84 rfl ?_
          refine j_bipush C (9 : Int32) (by decide) dX11_answer_86 ?_
          refine j_icmp_ne C 114 dX11_answer_88 (by decide) (fun c33 => ?_) (fun c33 => ?_)
          · have h := ite_f c33 h
            obtain ⟨v34, ev34, h⟩ := bnd_x h
            refine j_iinc C 5 [(4, .int v34), (7, .int v4), (6, .int v3), (0, .ref (ad G (11, 0, 0, 0))), (1, .int l1), (3, .int l3), (5, .int l5)] dX11_answer_114 rfl (Nat.le_of_ble_eq_true rfl) (ev34.trans (congrArg (l4 + ·) (by decide))) rfl ?_
            refine j_aload_n C 3 dX11_answer_117 rfl rfl ?_
            refine j_getS C (11, 0, 39, 0) fl_X11_97 dX11_answer_118 (by decide) ⟨rfl, rfl⟩ rfl rfl ?_
            refine j_iload C 0 dX11_answer_121 rfl ?_
            refine j_iconst C (1 : Int32) (by decide) dX11_answer_123 ?_
            refine j_isub C dX11_answer_124 ?_
            refine j_iload C 2 dX11_answer_125 rfl ?_
            refine j_aload_n C 3 dX11_answer_127 rfl rfl ?_
            refine j_getS C (11, 0, 39, 0) fl_X11_97 dX11_answer_128 (by decide) ⟨rfl, rfl⟩ rfl rfl ?_
            refine j_iload C 0 dX11_answer_131 rfl ?_
            refine j_iconst C (1 : Int32) (by decide) dX11_answer_133 ?_
            refine j_isub C dX11_answer_134 ?_
            obtain ⟨g35, h⟩ := grd_x h
            refine j_laldK C 300 ((v34 - (1 : Int32)).toNatClampNeg) dX11_answer_135 (V_f 38 (by decide) (by decide)) rfl g35 rfl ?_
            refine j_aload_n C 3 dX11_answer_136 rfl rfl ?_
            refine j_getS C (11, 0, 39, 0) fl_X11_97 dX11_answer_137 (by decide) ⟨rfl, rfl⟩ rfl rfl ?_
            refine j_iload C 0 dX11_answer_140 rfl ?_
            obtain ⟨g36, h⟩ := grd_x h
            refine j_laldK C 300 (v34.toNatClampNeg) dX11_answer_142 (V_f 38 (by decide) (by decide)) rfl g36 rfl ?_
            obtain ⟨r38, D39, h37, h⟩ := cbd_x h
            refine j_callS C [.int v3, .long (D.2.1 (11, 0, 39, 0) ((v34 - (1 : Int32)).toNatClampNeg)), .long (D.2.1 (11, 0, 39, 0) (v34.toNatClampNeg))] [.int (v34 - (1 : Int32)), .ref (ad G (11, 0, 39, 0))] cl_X11_327 (M_X11_both (lv := lv - 1) hG (by omega) h37) (by omega) dX11_answer_143 rfl rfl (Nat.le_of_ble_eq_true rfl) ?_
            refine j_st (st' := [.long r38, .int (v34 - (1 : Int32)), .ref (ad G (11, 0, 39, 0))]) rfl ?_
            obtain ⟨D40, eD40, h⟩ := bnd_x h
            refine j_lastK C 300 ((v34 - (1 : Int32)).toNatClampNeg) dX11_answer_146 (V_f 38 (by decide) (by decide)) rfl g35 rfl ?_
            refine j_rep eD40 ?_
            refine j_sub [3, 4, 5, 0, 6] [(0, .ref (ad G (11, 0, 0, 0))), (1, .int l1), (3, .int l3), (4, .int v34), (5, .int l5)] rfl ?_
            refine T_X11_answer_b147 hG hlv  C (fun l1_41 l3_42 l4_43 l5_44 D45 h => ?_) l1 l3 v34 l5 D40 h
            · exact ih l1_41 l3_42 l4_43 l5_44 D45 h
          · have h := ite_t c33 h
            refine j_aload_n C 2 dX11_answer_91 rfl rfl ?_
            refine j_getS C (11, 0, 39, 0) fl_X11_97 dX11_answer_92 (by decide) ⟨rfl, rfl⟩ rfl rfl ?_
            refine j_iload C 5 dX11_answer_95 rfl ?_
            refine j_iconst C (1 : Int32) (by decide) dX11_answer_97 ?_
            refine j_isub C dX11_answer_98 ?_
            refine j_lconst C (1 : Int64) (by decide) dX11_answer_99 ?_
            refine j_aload_n C 2 dX11_answer_100 rfl rfl ?_
            refine j_getS C (11, 0, 39, 0) fl_X11_97 dX11_answer_101 (by decide) ⟨rfl, rfl⟩ rfl rfl ?_
            refine j_iload C 5 dX11_answer_104 rfl ?_
            refine j_iconst C (1 : Int32) (by decide) dX11_answer_106 ?_
            refine j_isub C dX11_answer_107 ?_
            obtain ⟨g46, h⟩ := grd_x h
            refine j_laldK C 300 ((l4 - (1 : Int32)).toNatClampNeg) dX11_answer_108 (V_f 38 (by decide) (by decide)) rfl g46 rfl ?_
            refine j_lsub C dX11_answer_109 ?_
            obtain ⟨D47, eD47, h⟩ := bnd_x h
            refine j_lastK C 300 ((l4 - (1 : Int32)).toNatClampNeg) dX11_answer_110 (V_f 38 (by decide) (by decide)) rfl g46 rfl ?_
            refine j_rep eD47 ?_
            refine j_goto C 147 dX11_answer_111 (by decide) ?_
            refine j_sub [2, 3, 4, 5, 6] [(0, .ref (ad G (11, 0, 0, 0))), (1, .int l1), (3, .int l3), (4, .int l4), (5, .int l5)] rfl ?_
            refine T_X11_answer_b147 hG hlv  C (fun l1_48 l3_49 l4_50 l5_51 D52 h => ?_) l1 l3 l4 l5 D47 h
            · exact ih l1_48 l3_49 l4_50 l5_51 D52 h
        · have h := ite_t c32 h
          refine j_sub [2, 3, 4, 5, 6, 1, 0] [(0, .ref (ad G (11, 0, 0, 0))), (1, .int l1), (3, .int l3), (4, .int l4), (5, .int l5), (6, .int v3), (7, .int v4)] rfl ?_
          refine T_X11_answer_b53 hG hlv  C (fun l1_53 l3_54 l4_55 l5_56 D57 h => ?_) l1 l3 l4 l5 v3 v4 D h
          · exact ih l1_53 l3_54 l4_55 l5_56 D57 h
def F_X11_answer (a1 : Int32) (a2 : Int32) (a3 : Int32) (D : Dt) : Option (Int64 × Dt) := (F_X11_answer_b6 a1 a2 a3 2000 a1 a3 (0 : Int32) a2 D)
set_option maxRecDepth 100000 in
set_option maxHeartbeats 4000000 in
theorem M_X11_answer {l : Launch} {G : Gt} {A : Nat → Prop} {lv : Nat} {a1 : Int32} {a2 : Int32} {a3 : Int32} {D : Dt} {r : Int64} {D' : Dt} (hG : Gok G A) (hlv : 3 ≤ lv)  (h : F_X11_answer a1 a2 a3 D = some (r, D')) : MD l G A lv yX11_answer cX11_answer 8 (some .long) [.ref (ad G (11, 0, 0, 0)), .int a1, .int a2, .int a3] D (some (.long r)) D' := by
  unfold F_X11_answer at h
  refine md_start RX11 hG (by decide +kernel) rfl (Nat.le_of_ble_eq_true rfl) (L := [(0, .ref (ad G (11, 0, 0, 0))), (1, .int a1), (2, .int a2), (3, .int a3)]) rfl (fun X C => ?_)
  refine j_iconst C (0 : Int32) (by decide) dX11_answer_0 ?_
  refine j_istore C [(4, .int (0 : Int32)), (0, .ref (ad G (11, 0, 0, 0))), (1, .int a1), (2, .int a2), (3, .int a3)] dX11_answer_1 (Nat.le_of_ble_eq_true rfl) rfl rfl ?_
  refine j_iload_n C 3 dX11_answer_3 rfl rfl ?_
  refine j_istore C [(5, .int a2), (4, .int (0 : Int32)), (0, .ref (ad G (11, 0, 0, 0))), (1, .int a1), (2, .int a2), (3, .int a3)] dX11_answer_4 (Nat.le_of_ble_eq_true rfl) rfl rfl ?_
  refine j_sub [2, 3, 5, 1, 0] [(0, .ref (ad G (11, 0, 0, 0))), (1, .int a1), (3, .int a3), (4, .int (0 : Int32)), (5, .int a2)] rfl ?_
  refine T_X11_answer_b6 hG hlv  C  2000 a1 a3 (0 : Int32) a2 D h
def F_X11_wanted_b13  (k65 : Int32 → Int32 → Dt → Option (Int64 × Dt)) : Nat → Int32 → Int32 → Dt → Option (Int64 × Dt)
  | 0, _, _, _ => none
  | f + 1, l1, l2, D => (grd (inB l1 6 = true) (if (((12 : Int32) * l1) + (D.1 (11, 0, 33, 0) (l1.toNatClampNeg))) ≤ l2 then (some ((0 : Int64), D)) else (grd (inB l2 72 = true) (if (D.1 (11, 0, 35, 0) (l2.toNatClampNeg)) = (D.1 (11, 0, 36, 0) (l2.toNatClampNeg)) then (k65 l1 l2 D) else (cbd (F_X11_answer l1 (D.1 (11, 0, 35, 0) (l2.toNatClampNeg)) (D.1 (11, 0, 36, 0) (l2.toNatClampNeg)) D) (fun r8 D9 => (if (lg_cmp r8 (1 : Int64)) = 0 then (k65 l1 l2 D9) else (bnd (l2 + (1 : Int32)) (fun v11 => (F_X11_wanted_b13 k65 f l1 v11 D9))))))))))
set_option maxRecDepth 100000 in
set_option maxHeartbeats 4000000 in
theorem T_X11_wanted_b13 {r : Int64} {D' : Dt} {X : Ctx} {l : Launch} {G : Gt} {A : Nat → Prop} {lv : Nat}   {k65 : Int32 → Int32 → Dt → Option (Int64 × Dt)} (hG : Gok G A) (hlv : 4 ≤ lv)   (C : Cx X cX11_wanted RX11 G l A lv 3 (some .long) (some (.long r)) D') (hk65 : ∀ (l1 : Int32) (l2 : Int32) (D : Dt), k65 l1 l2 D = some (r, D') → J X (Rep G D) 65 [(0, .ref (ad G (11, 0, 0, 0))), (1, .int l1), (2, .int l2)] []) : ∀ (f : Nat) (l1 : Int32) (l2 : Int32) (D : Dt), F_X11_wanted_b13 k65 f l1 l2 D = some (r, D') → J X (Rep G D) 13 [(0, .ref (ad G (11, 0, 0, 0))), (1, .int l1), (2, .int l2)] [] := by
  intro f
  induction f with
  | zero =>
    intro l1 l2 D h
    exact nomatch h
  | succ f ih =>
    intro l1 l2 D h
    rw [F_X11_wanted_b13] at h
    refine j_iload_n C 2 dX11_wanted_13 rfl rfl ?_
    refine j_bipush C (12 : Int32) (by decide) dX11_wanted_14 ?_
    refine j_iload_n C 1 dX11_wanted_16 rfl rfl ?_
    refine j_imul C dX11_wanted_17 ?_
    refine j_aload_n C 0 dX11_wanted_18 rfl rfl ?_
    refine j_getS C (11, 0, 33, 0) fl_X11_78 dX11_wanted_19 (by decide) ⟨rfl, rfl⟩ rfl rfl ?_
    refine j_iload_n C 1 dX11_wanted_22 rfl rfl ?_
    obtain ⟨g3, h⟩ := grd_x h
    refine j_ialdK C 6 (l1.toNatClampNeg) dX11_wanted_23 (V_f 32 (by decide) (by decide)) rfl g3 rfl ?_
    refine j_iadd C dX11_wanted_24 ?_
    refine j_icmp_ge C 89 dX11_wanted_25 (by decide) (fun c4 => ?_) (fun c4 => ?_)
    · have h := ite_t c4 h
      refine j_lconst C (0 : Int64) (by decide) dX11_wanted_89 ?_
      obtain ⟨rfl, rfl⟩ := pr_x h
      exact j_lret C dX11_wanted_90
    · have h := ite_f c4 h
      refine j_aload_n C 0 dX11_wanted_28 rfl rfl ?_
      refine j_getS C (11, 0, 35, 0) fl_X11_84 dX11_wanted_29 (by decide) ⟨rfl, rfl⟩ rfl rfl ?_
      refine j_iload_n C 2 dX11_wanted_32 rfl rfl ?_
      obtain ⟨g5, h⟩ := grd_x h
      refine j_ialdK C 72 (l2.toNatClampNeg) dX11_wanted_33 (V_f 34 (by decide) (by decide)) rfl g5 rfl ?_
      refine j_aload_n C 0 dX11_wanted_34 rfl rfl ?_
      refine j_getS C (11, 0, 36, 0) fl_X11_87 dX11_wanted_35 (by decide) ⟨rfl, rfl⟩ rfl rfl ?_
      refine j_iload_n C 2 dX11_wanted_38 rfl rfl ?_
      refine j_ialdK C 72 (l2.toNatClampNeg) dX11_wanted_39 (V_f 35 (by decide) (by decide)) rfl g5 rfl ?_
      refine j_icmp_eq C 65 dX11_wanted_40 (by decide) (fun c6 => ?_) (fun c6 => ?_)
      · have h := ite_t c6 h
        exact hk65 l1 l2 D h
      · have h := ite_f c6 h
        refine j_aload_n C 0 dX11_wanted_43 rfl rfl ?_
        refine j_iload_n C 1 dX11_wanted_44 rfl rfl ?_
        refine j_aload_n C 0 dX11_wanted_45 rfl rfl ?_
        refine j_getS C (11, 0, 35, 0) fl_X11_84 dX11_wanted_46 (by decide) ⟨rfl, rfl⟩ rfl rfl ?_
        refine j_iload_n C 2 dX11_wanted_49 rfl rfl ?_
        refine j_ialdK C 72 (l2.toNatClampNeg) dX11_wanted_50 (V_f 34 (by decide) (by decide)) rfl g5 rfl ?_
        refine j_aload_n C 0 dX11_wanted_51 rfl rfl ?_
        refine j_getS C (11, 0, 36, 0) fl_X11_87 dX11_wanted_52 (by decide) ⟨rfl, rfl⟩ rfl rfl ?_
        refine j_iload_n C 2 dX11_wanted_55 rfl rfl ?_
        refine j_ialdK C 72 (l2.toNatClampNeg) dX11_wanted_56 (V_f 35 (by decide) (by decide)) rfl g5 rfl ?_
        obtain ⟨r8, D9, h7, h⟩ := cbd_x h
        refine j_callV C [.int l1, .int (D.1 (11, 0, 35, 0) (l2.toNatClampNeg)), .int (D.1 (11, 0, 36, 0) (l2.toNatClampNeg))] [] cl_X11_319 (M_X11_answer (lv := lv - 1) hG (by omega) h7) (by omega) dX11_wanted_57 (by decide) ⟨rfl, rfl⟩ rfl rfl (Nat.le_of_ble_eq_true rfl) ?_
        refine j_st (st' := [.long r8]) rfl ?_
        refine j_lconst C (1 : Int64) (by decide) dX11_wanted_60 ?_
        refine j_lcmp C dX11_wanted_61 ?_
        refine j_if_ne C 83 dX11_wanted_62 (by decide) (fun c10 => ?_) (fun c10 => ?_)
        · have h := ite_f c10 h
          obtain ⟨v11, ev11, h⟩ := bnd_x h
          refine j_iinc C 2 [(2, .int v11), (0, .ref (ad G (11, 0, 0, 0))), (1, .int l1)] dX11_wanted_83 rfl (Nat.le_of_ble_eq_true rfl) (ev11.trans (congrArg (l2 + ·) (by decide))) rfl ?_
          refine j_goto C 13 dX11_wanted_86 (by decide) ?_
          refine j_sub [1, 2, 0] [(0, .ref (ad G (11, 0, 0, 0))), (1, .int l1), (2, .int v11)] rfl ?_
          exact ih l1 v11 D9 h
        · have h := ite_t c10 h
          exact hk65 l1 l2 D9 h
def F_X11_wanted  (D : Dt) : Option (Int64 × Dt) := (bnd (D.1 (11, 0, 2, 0) 8) (fun v1 => (bnd ((12 : Int32) * v1) (fun v2 => (F_X11_wanted_b13 (fun l1_12 l2_13 D14 => (grd (inB l2_13 72 = true) (cbd (F_X11_answer l1_12 (D14.1 (11, 0, 34, 0) (l2_13.toNatClampNeg)) (D14.1 (11, 0, 35, 0) (l2_13.toNatClampNeg)) D14) (fun r17 D18 => (some (r17, D18)))))) 2000 v1 v2 D)))))
set_option maxRecDepth 100000 in
set_option maxHeartbeats 4000000 in
theorem M_X11_wanted {l : Launch} {G : Gt} {A : Nat → Prop} {lv : Nat}  {D : Dt} {r : Int64} {D' : Dt} (hG : Gok G A) (hlv : 4 ≤ lv)  (h : F_X11_wanted  D = some (r, D')) : MD l G A lv yX11_wanted cX11_wanted 3 (some .long) [.ref (ad G (11, 0, 0, 0))] D (some (.long r)) D' := by
  unfold F_X11_wanted at h
  refine md_start RX11 hG (by decide +kernel) rfl (Nat.le_of_ble_eq_true rfl) (L := [(0, .ref (ad G (11, 0, 0, 0)))]) rfl (fun X C => ?_)
  refine j_aload_n C 0 dX11_wanted_0 rfl rfl ?_
  refine j_getS C (11, 0, 2, 0) fl_X11_9 dX11_wanted_1 (by decide) ⟨rfl, rfl⟩ rfl rfl ?_
  refine j_bipush C (8 : Int32) (by decide) dX11_wanted_4 ?_
  refine j_ialdK C 9 8 dX11_wanted_6 (V_f 1 (by decide) (by decide)) rfl (by decide) (by decide) ?_
  obtain ⟨v1, ev1, h⟩ := bnd_x h
  refine j_istore_n C [(1, .int v1), (0, .ref (ad G (11, 0, 0, 0)))] dX11_wanted_7 rfl (Nat.le_of_ble_eq_true rfl) ev1 rfl ?_
  refine j_bipush C (12 : Int32) (by decide) dX11_wanted_8 ?_
  refine j_iload_n C 0 dX11_wanted_10 rfl rfl ?_
  refine j_imul C dX11_wanted_11 ?_
  obtain ⟨v2, ev2, h⟩ := bnd_x h
  refine j_istore_n C [(2, .int v2), (1, .int v1), (0, .ref (ad G (11, 0, 0, 0)))] dX11_wanted_12 rfl (Nat.le_of_ble_eq_true rfl) ev2 rfl ?_
  refine j_sub [2, 1, 0] [(0, .ref (ad G (11, 0, 0, 0))), (1, .int v1), (2, .int v2)] rfl ?_
  refine T_X11_wanted_b13 hG hlv  C (fun l1_12 l2_13 D14 h => ?_) 2000 v1 v2 D h
  · refine j_aload_n C 0 dX11_wanted_65 rfl rfl ?_
    refine j_iload_n C 1 dX11_wanted_66 rfl rfl ?_
    refine j_aload_n C 0 dX11_wanted_67 rfl rfl ?_
    refine j_getS C (11, 0, 34, 0) fl_X11_81 dX11_wanted_68 (by decide) ⟨rfl, rfl⟩ rfl rfl ?_
    refine j_iload_n C 2 dX11_wanted_71 rfl rfl ?_
    obtain ⟨g15, h⟩ := grd_x h
    refine j_ialdK C 72 (l2_13.toNatClampNeg) dX11_wanted_72 (V_f 33 (by decide) (by decide)) rfl g15 rfl ?_
    refine j_aload_n C 0 dX11_wanted_73 rfl rfl ?_
    refine j_getS C (11, 0, 35, 0) fl_X11_84 dX11_wanted_74 (by decide) ⟨rfl, rfl⟩ rfl rfl ?_
    refine j_iload_n C 2 dX11_wanted_77 rfl rfl ?_
    refine j_ialdK C 72 (l2_13.toNatClampNeg) dX11_wanted_78 (V_f 34 (by decide) (by decide)) rfl g15 rfl ?_
    obtain ⟨r17, D18, h16, h⟩ := cbd_x h
    refine j_callV C [.int l1_12, .int (D14.1 (11, 0, 34, 0) (l2_13.toNatClampNeg)), .int (D14.1 (11, 0, 35, 0) (l2_13.toNatClampNeg))] [] cl_X11_319 (M_X11_answer (lv := lv - 1) hG (by omega) h16) (by omega) dX11_wanted_79 (by decide) ⟨rfl, rfl⟩ rfl rfl (Nat.le_of_ble_eq_true rfl) ?_
    refine j_st (st' := [.long r17]) rfl ?_
    obtain ⟨rfl, rfl⟩ := pr_x h
    exact j_lret C dX11_wanted_82
def F_X11_canBuy (a1 : Int32) (a2 : Int32) (D : Dt) : Option (Int32 × Dt) := (if a1 = a2 then (some ((0 : Int32), D)) else (grd (inB a1 5 = true) (if (D.1 (11, 0, 3, 0) (a1.toNatClampNeg)) < (D.1 (11, 0, 2, 0) 3) then (some ((0 : Int32), D)) else (grd (inB a2 5 = true) (if (D.1 (11, 0, 4, 0) (a2.toNatClampNeg)) ≤ 0 then (some ((0 : Int32), D)) else (cbd (F_X11_has (D.1 (11, 0, 0, 0) 39) a2 D) (fun r7 D8 => (if r7 = 0 then (some ((1 : Int32), D8)) else (some ((0 : Int32), D8))))))))))
set_option maxRecDepth 100000 in
set_option maxHeartbeats 4000000 in
theorem M_X11_canBuy {l : Launch} {G : Gt} {A : Nat → Prop} {lv : Nat} {a1 : Int32} {a2 : Int32} {D : Dt} {r : Int32} {D' : Dt} (hG : Gok G A) (hlv : 2 ≤ lv)  (h : F_X11_canBuy a1 a2 D = some (r, D')) : MD l G A lv yX11_canBuy cX11_canBuy 3 (some .boolean) [.ref (ad G (11, 0, 0, 0)), .int a1, .int a2] D (some (.int r)) D' := by
  unfold F_X11_canBuy at h
  refine md_start RX11 hG (by decide +kernel) rfl (Nat.le_of_ble_eq_true rfl) (L := [(0, .ref (ad G (11, 0, 0, 0))), (1, .int a1), (2, .int a2)]) rfl (fun X C => ?_)
  refine j_iload_n C 1 dX11_canBuy_0 rfl rfl ?_
  refine j_iload_n C 2 dX11_canBuy_1 rfl rfl ?_
  refine j_icmp_eq C 44 dX11_canBuy_2 (by decide) (fun c1 => ?_) (fun c1 => ?_)
  · have h := ite_t c1 h
    refine j_iconst C (0 : Int32) (by decide) dX11_canBuy_44 ?_
    obtain ⟨rfl, rfl⟩ := pr_x h
    exact j_zret C (Or.inl rfl) dX11_canBuy_45
  · have h := ite_f c1 h
    refine j_aload_n C 0 dX11_canBuy_5 rfl rfl ?_
    refine j_getS C (11, 0, 3, 0) fl_X11_13 dX11_canBuy_6 (by decide) ⟨rfl, rfl⟩ rfl rfl ?_
    refine j_iload_n C 1 dX11_canBuy_9 rfl rfl ?_
    obtain ⟨g2, h⟩ := grd_x h
    refine j_ialdK C 5 (a1.toNatClampNeg) dX11_canBuy_10 (V_f 2 (by decide) (by decide)) rfl g2 rfl ?_
    refine j_aload_n C 0 dX11_canBuy_11 rfl rfl ?_
    refine j_getS C (11, 0, 2, 0) fl_X11_9 dX11_canBuy_12 (by decide) ⟨rfl, rfl⟩ rfl rfl ?_
    refine j_iconst C (3 : Int32) (by decide) dX11_canBuy_15 ?_
    refine j_ialdK C 9 3 dX11_canBuy_16 (V_f 1 (by decide) (by decide)) rfl (by decide) (by decide) ?_
    refine j_icmp_lt C 44 dX11_canBuy_17 (by decide) (fun c3 => ?_) (fun c3 => ?_)
    · have h := ite_t c3 h
      refine j_iconst C (0 : Int32) (by decide) dX11_canBuy_44 ?_
      obtain ⟨rfl, rfl⟩ := pr_x h
      exact j_zret C (Or.inl rfl) dX11_canBuy_45
    · have h := ite_f c3 h
      refine j_aload_n C 0 dX11_canBuy_20 rfl rfl ?_
      refine j_getS C (11, 0, 4, 0) fl_X11_16 dX11_canBuy_21 (by decide) ⟨rfl, rfl⟩ rfl rfl ?_
      refine j_iload_n C 2 dX11_canBuy_24 rfl rfl ?_
      obtain ⟨g4, h⟩ := grd_x h
      refine j_ialdK C 5 (a2.toNatClampNeg) dX11_canBuy_25 (V_f 3 (by decide) (by decide)) rfl g4 rfl ?_
      refine j_if_le C 44 dX11_canBuy_26 (by decide) (fun c5 => ?_) (fun c5 => ?_)
      · have h := ite_t c5 h
        refine j_iconst C (0 : Int32) (by decide) dX11_canBuy_44 ?_
        obtain ⟨rfl, rfl⟩ := pr_x h
        exact j_zret C (Or.inl rfl) dX11_canBuy_45
      · have h := ite_f c5 h
        refine j_aload_n C 0 dX11_canBuy_29 rfl rfl ?_
        refine j_getI C fl_X11_331 dX11_canBuy_30 (by decide) ⟨rfl, rfl⟩ rfl ?_
        refine j_iload_n C 2 dX11_canBuy_33 rfl rfl ?_
        obtain ⟨r7, D8, h6, h⟩ := cbd_x h
        refine j_callS C [.int (D.1 (11, 0, 0, 0) 39), .int a2] [] cl_X11_334 (M_X11_has (lv := lv - 1) hG (by omega) h6) (by omega) dX11_canBuy_34 rfl rfl (Nat.le_of_ble_eq_true rfl) ?_
        refine j_st (st' := [.int r7]) rfl ?_
        refine j_if_ne C 44 dX11_canBuy_37 (by decide) (fun c9 => ?_) (fun c9 => ?_)
        · have h := ite_f c9 h
          refine j_iconst C (0 : Int32) (by decide) dX11_canBuy_44 ?_
          obtain ⟨rfl, rfl⟩ := pr_x h
          exact j_zret C (Or.inl rfl) dX11_canBuy_45
        · have h := ite_t c9 h
          refine j_iconst C (1 : Int32) (by decide) dX11_canBuy_40 ?_
          refine j_goto C 45 dX11_canBuy_41 (by decide) ?_
          obtain ⟨rfl, rfl⟩ := pr_x h
          exact j_zret C (Or.inr rfl) dX11_canBuy_45
def F_X11_canFrom_b31 (a1 : Int32) (k4 : Int32 → Int32 → Int32 → Dt → Option (Int32 × Dt)) (l1 : Int32) (l3 : Int32) (s0 : Int32) (s1 : Int32) (D : Dt) : Option (Int32 × Dt) := (bnd (s0 ||| s1) (fun v6 => (bnd (l3 + (1 : Int32)) (fun v7 => (k4 l1 v6 v7 D)))))
set_option maxRecDepth 100000 in
set_option maxHeartbeats 4000000 in
theorem T_X11_canFrom_b31 {r : Int32} {D' : Dt} {X : Ctx} {l : Launch} {G : Gt} {A : Nat → Prop} {lv : Nat} {a1 : Int32}  {k4 : Int32 → Int32 → Int32 → Dt → Option (Int32 × Dt)} (hG : Gok G A) (hlv : 3 ≤ lv)   (C : Cx X cX11_canFrom RX11 G l A lv 4 (some .int) (some (.int r)) D') (hk4 : ∀ (l1 : Int32) (l2 : Int32) (l3 : Int32) (D : Dt), k4 l1 l2 l3 D = some (r, D') → J X (Rep G D) 4 [(0, .ref (ad G (11, 0, 0, 0))), (1, .int l1), (2, .int l2), (3, .int l3)] []) : ∀ (l1 : Int32) (l3 : Int32) (s0 : Int32) (s1 : Int32) (D : Dt), F_X11_canFrom_b31 a1 k4 l1 l3 s0 s1 D = some (r, D') → J X (Rep G D) 31 [(0, .ref (ad G (11, 0, 0, 0))), (1, .int l1), (3, .int l3)] [.int s1, .int s0] := by
  intro l1 l3 s0 s1 D h
  unfold F_X11_canFrom_b31 at h
  refine j_ior C dX11_canFrom_31 ?_
  obtain ⟨v6, ev6, h⟩ := bnd_x h
  refine j_istore_n C [(2, .int v6), (0, .ref (ad G (11, 0, 0, 0))), (1, .int l1), (3, .int l3)] dX11_canFrom_32 rfl (Nat.le_of_ble_eq_true rfl) ev6 rfl ?_
  obtain ⟨v7, ev7, h⟩ := bnd_x h
  refine j_iinc C 3 [(3, .int v7), (2, .int v6), (0, .ref (ad G (11, 0, 0, 0))), (1, .int l1)] dX11_canFrom_33 rfl (Nat.le_of_ble_eq_true rfl) (ev7.trans (congrArg (l3 + ·) (by decide))) rfl ?_
  refine j_goto C 4 dX11_canFrom_36 (by decide) ?_
  refine j_sub [2, 3, 1, 0] [(0, .ref (ad G (11, 0, 0, 0))), (1, .int l1), (2, .int v6), (3, .int v7)] rfl ?_
  exact hk4 l1 v6 v7 D h
def F_X11_canFrom_b4 (a1 : Int32)  : Nat → Int32 → Int32 → Int32 → Dt → Option (Int32 × Dt)
  | 0, _, _, _, _ => none
  | f + 1, l1, l2, l3, D => (if (D.1 (11, 0, 2, 0) 2) ≤ l3 then (some (l2, D)) else (cbd (F_X11_canBuy l1 l3 D) (fun r3 D4 => (if r3 = 0 then (F_X11_canFrom_b31 a1 (fun l1_8 l2_9 l3_10 D11 => (F_X11_canFrom_b4 a1 f l1_8 l2_9 l3_10 D11)) l1 l3 l2 (0 : Int32) D4) else (F_X11_canFrom_b31 a1 (fun l1_12 l2_13 l3_14 D15 => (F_X11_canFrom_b4 a1 f l1_12 l2_13 l3_14 D15)) l1 l3 l2 ((1 : Int32) <<< (l3 &&& 31)) D4)))))
set_option maxRecDepth 100000 in
set_option maxHeartbeats 4000000 in
theorem T_X11_canFrom_b4 {r : Int32} {D' : Dt} {X : Ctx} {l : Launch} {G : Gt} {A : Nat → Prop} {lv : Nat} {a1 : Int32}   (hG : Gok G A) (hlv : 3 ≤ lv)   (C : Cx X cX11_canFrom RX11 G l A lv 4 (some .int) (some (.int r)) D')  : ∀ (f : Nat) (l1 : Int32) (l2 : Int32) (l3 : Int32) (D : Dt), F_X11_canFrom_b4 a1 f l1 l2 l3 D = some (r, D') → J X (Rep G D) 4 [(0, .ref (ad G (11, 0, 0, 0))), (1, .int l1), (2, .int l2), (3, .int l3)] [] := by
  intro f
  induction f with
  | zero =>
    intro l1 l2 l3 D h
    exact nomatch h
  | succ f ih =>
    intro l1 l2 l3 D h
    rw [F_X11_canFrom_b4] at h
    refine j_iload_n C 3 dX11_canFrom_4 rfl rfl ?_
    refine j_aload_n C 0 dX11_canFrom_5 rfl rfl ?_
    refine j_getS C (11, 0, 2, 0) fl_X11_9 dX11_canFrom_6 (by decide) ⟨rfl, rfl⟩ rfl rfl ?_
    refine j_iconst C (2 : Int32) (by decide) dX11_canFrom_9 ?_
    refine j_ialdK C 9 2 dX11_canFrom_10 (V_f 1 (by decide) (by decide)) rfl (by decide) (by decide) ?_
    refine j_icmp_ge C 39 dX11_canFrom_11 (by decide) (fun c1 => ?_) (fun c1 => ?_)
    · have h := ite_t c1 h
      refine j_iload_n C 2 dX11_canFrom_39 rfl rfl ?_
      obtain ⟨rfl, rfl⟩ := pr_x h
      exact j_iret C dX11_canFrom_40
    · have h := ite_f c1 h
      refine j_iload_n C 2 dX11_canFrom_14 rfl rfl ?_
      refine j_aload_n C 0 dX11_canFrom_15 rfl rfl ?_
      refine j_iload_n C 1 dX11_canFrom_16 rfl rfl ?_
      refine j_iload_n C 3 dX11_canFrom_17 rfl rfl ?_
      obtain ⟨r3, D4, h2, h⟩ := cbd_x h
      refine j_callV C [.int l1, .int l3] [.int l2] cl_X11_337 (M_X11_canBuy (lv := lv - 1) hG (by omega) h2) (by omega) dX11_canFrom_18 (by decide) ⟨rfl, rfl⟩ rfl rfl (Nat.le_of_ble_eq_true rfl) ?_
      refine j_st (st' := [.int r3, .int l2]) rfl ?_
      refine j_if_eq C 30 dX11_canFrom_21 (by decide) (fun c5 => ?_) (fun c5 => ?_)
      · have h := ite_t c5 h
        refine j_iconst C (0 : Int32) (by decide) dX11_canFrom_30 ?_
        refine j_sub [0, 1, 3] [(0, .ref (ad G (11, 0, 0, 0))), (1, .int l1), (3, .int l3)] rfl ?_
        refine T_X11_canFrom_b31 hG hlv  C (fun l1_8 l2_9 l3_10 D11 h => ?_) l1 l3 l2 (0 : Int32) D4 h
        · exact ih l1_8 l2_9 l3_10 D11 h
      · have h := ite_f c5 h
        refine j_iconst C (1 : Int32) (by decide) dX11_canFrom_24 ?_
        refine j_iload_n C 3 dX11_canFrom_25 rfl rfl ?_
        refine j_ishl C dX11_canFrom_26 ?_
        refine j_goto C 31 dX11_canFrom_27 (by decide) ?_
        refine j_sub [0, 1, 3] [(0, .ref (ad G (11, 0, 0, 0))), (1, .int l1), (3, .int l3)] rfl ?_
        refine T_X11_canFrom_b31 hG hlv  C (fun l1_12 l2_13 l3_14 D15 h => ?_) l1 l3 l2 ((1 : Int32) <<< (l3 &&& 31)) D4 h
        · exact ih l1_12 l2_13 l3_14 D15 h
def F_X11_canFrom (a1 : Int32) (D : Dt) : Option (Int32 × Dt) := (F_X11_canFrom_b4 a1 2000 a1 (0 : Int32) (0 : Int32) D)
set_option maxRecDepth 100000 in
set_option maxHeartbeats 4000000 in
theorem M_X11_canFrom {l : Launch} {G : Gt} {A : Nat → Prop} {lv : Nat} {a1 : Int32} {D : Dt} {r : Int32} {D' : Dt} (hG : Gok G A) (hlv : 3 ≤ lv)  (h : F_X11_canFrom a1 D = some (r, D')) : MD l G A lv yX11_canFrom cX11_canFrom 4 (some .int) [.ref (ad G (11, 0, 0, 0)), .int a1] D (some (.int r)) D' := by
  unfold F_X11_canFrom at h
  refine md_start RX11 hG (by decide +kernel) rfl (Nat.le_of_ble_eq_true rfl) (L := [(0, .ref (ad G (11, 0, 0, 0))), (1, .int a1)]) rfl (fun X C => ?_)
  refine j_iconst C (0 : Int32) (by decide) dX11_canFrom_0 ?_
  refine j_istore_n C [(2, .int (0 : Int32)), (0, .ref (ad G (11, 0, 0, 0))), (1, .int a1)] dX11_canFrom_1 rfl (Nat.le_of_ble_eq_true rfl) rfl rfl ?_
  refine j_iconst C (0 : Int32) (by decide) dX11_canFrom_2 ?_
  refine j_istore_n C [(3, .int (0 : Int32)), (2, .int (0 : Int32)), (0, .ref (ad G (11, 0, 0, 0))), (1, .int a1)] dX11_canFrom_3 rfl (Nat.le_of_ble_eq_true rfl) rfl rfl ?_
  refine j_sub [2, 3, 1, 0] [(0, .ref (ad G (11, 0, 0, 0))), (1, .int a1), (2, .int (0 : Int32)), (3, .int (0 : Int32))] rfl ?_
  refine T_X11_canFrom_b4 hG hlv  C  2000 a1 (0 : Int32) (0 : Int32) D h
def F_X11_land (a1 : Int32) (a2 : Int32) (D : Dt) : Option (Int32 × Dt) := (cbd (F_X11_isLand a1 D) (fun r2 D3 => (if r2 = 0 then (some ((-2 : Int32), D3)) else (if a2 = (0 : Int32) then (grd (inB a1 5 = true) (some ((D3.1 (11, 0, 3, 0) (a1.toNatClampNeg)), D3))) else if a2 = (1 : Int32) then (grd (inB a1 5 = true) (some ((D3.1 (11, 0, 4, 0) (a1.toNatClampNeg)), D3))) else if a2 = (2 : Int32) then (grd (inB a1 5 = true) (some ((D3.1 (11, 0, 5, 0) (a1.toNatClampNeg)), D3))) else if a2 = (3 : Int32) then (grd (inB a1 5 = true) (some ((D3.1 (11, 0, 6, 0) (a1.toNatClampNeg)), D3))) else if a2 = (4 : Int32) then (cbd (F_X11_canFrom a1 D3) (fun r15 D16 => (some (r15, D16)))) else if a2 = (5 : Int32) then (grd (inB a1 5 = true) (some ((D3.1 (11, 0, 7, 0) (a1.toNatClampNeg)), D3))) else (some ((-2 : Int32), D3))))))
set_option maxRecDepth 100000 in
set_option maxHeartbeats 4000000 in
theorem M_X11_land {l : Launch} {G : Gt} {A : Nat → Prop} {lv : Nat} {a1 : Int32} {a2 : Int32} {D : Dt} {r : Int32} {D' : Dt} (hG : Gok G A) (hlv : 4 ≤ lv)  (h : F_X11_land a1 a2 D = some (r, D')) : MD l G A lv yX11_land cX11_land 3 (some .int) [.ref (ad G (11, 0, 0, 0)), .int a1, .int a2] D (some (.int r)) D' := by
  unfold F_X11_land at h
  refine md_start RX11 hG (by decide +kernel) rfl (Nat.le_of_ble_eq_true rfl) (L := [(0, .ref (ad G (11, 0, 0, 0))), (1, .int a1), (2, .int a2)]) rfl (fun X C => ?_)
  refine j_aload_n C 0 dX11_land_0 rfl rfl ?_
  refine j_iload_n C 1 dX11_land_1 rfl rfl ?_
  obtain ⟨r2, D3, h1, h⟩ := cbd_x h
  refine j_callV C [.int a1] [] cl_X11_340 (M_X11_isLand (lv := lv - 1) hG (by omega) h1) (by omega) dX11_land_2 (by decide) ⟨rfl, rfl⟩ rfl rfl (Nat.le_of_ble_eq_true rfl) ?_
  refine j_st (st' := [.int r2]) rfl ?_
  refine j_if_ne C 11 dX11_land_5 (by decide) (fun c4 => ?_) (fun c4 => ?_)
  · have h := ite_f c4 h
    refine j_iload_n C 2 dX11_land_11 rfl rfl ?_
    by_cases c5 : a2 = (0 : Int32)
    · have h := ite_t c5 h
      refine j_tabIn C (off := 40) (0 : Int32) 52 dX11_land_12 c5 ⟨by decide, by decide⟩ (by decide +kernel) (by decide) ?_
      refine j_aload_n C 0 dX11_land_52 rfl rfl ?_
      refine j_getS C (11, 0, 3, 0) fl_X11_13 dX11_land_53 (by decide) ⟨rfl, rfl⟩ rfl rfl ?_
      refine j_iload_n C 1 dX11_land_56 rfl rfl ?_
      obtain ⟨g6, h⟩ := grd_x h
      refine j_ialdK C 5 (a1.toNatClampNeg) dX11_land_57 (V_f 2 (by decide) (by decide)) rfl g6 rfl ?_
      obtain ⟨rfl, rfl⟩ := pr_x h
      exact j_iret C dX11_land_58
    have h := ite_f c5 h
    by_cases c7 : a2 = (1 : Int32)
    · have h := ite_t c7 h
      refine j_tabIn C (off := 47) (1 : Int32) 59 dX11_land_12 c7 ⟨by decide, by decide⟩ (by decide +kernel) (by decide) ?_
      refine j_aload_n C 0 dX11_land_59 rfl rfl ?_
      refine j_getS C (11, 0, 4, 0) fl_X11_16 dX11_land_60 (by decide) ⟨rfl, rfl⟩ rfl rfl ?_
      refine j_iload_n C 1 dX11_land_63 rfl rfl ?_
      obtain ⟨g8, h⟩ := grd_x h
      refine j_ialdK C 5 (a1.toNatClampNeg) dX11_land_64 (V_f 3 (by decide) (by decide)) rfl g8 rfl ?_
      obtain ⟨rfl, rfl⟩ := pr_x h
      exact j_iret C dX11_land_65
    have h := ite_f c7 h
    by_cases c9 : a2 = (2 : Int32)
    · have h := ite_t c9 h
      refine j_tabIn C (off := 54) (2 : Int32) 66 dX11_land_12 c9 ⟨by decide, by decide⟩ (by decide +kernel) (by decide) ?_
      refine j_aload_n C 0 dX11_land_66 rfl rfl ?_
      refine j_getS C (11, 0, 5, 0) fl_X11_19 dX11_land_67 (by decide) ⟨rfl, rfl⟩ rfl rfl ?_
      refine j_iload_n C 1 dX11_land_70 rfl rfl ?_
      obtain ⟨g10, h⟩ := grd_x h
      refine j_ialdK C 5 (a1.toNatClampNeg) dX11_land_71 (V_f 4 (by decide) (by decide)) rfl g10 rfl ?_
      obtain ⟨rfl, rfl⟩ := pr_x h
      exact j_iret C dX11_land_72
    have h := ite_f c9 h
    by_cases c11 : a2 = (3 : Int32)
    · have h := ite_t c11 h
      refine j_tabIn C (off := 61) (3 : Int32) 73 dX11_land_12 c11 ⟨by decide, by decide⟩ (by decide +kernel) (by decide) ?_
      refine j_aload_n C 0 dX11_land_73 rfl rfl ?_
      refine j_getS C (11, 0, 6, 0) fl_X11_22 dX11_land_74 (by decide) ⟨rfl, rfl⟩ rfl rfl ?_
      refine j_iload_n C 1 dX11_land_77 rfl rfl ?_
      obtain ⟨g12, h⟩ := grd_x h
      refine j_ialdK C 5 (a1.toNatClampNeg) dX11_land_78 (V_f 5 (by decide) (by decide)) rfl g12 rfl ?_
      obtain ⟨rfl, rfl⟩ := pr_x h
      exact j_iret C dX11_land_79
    have h := ite_f c11 h
    by_cases c13 : a2 = (4 : Int32)
    · have h := ite_t c13 h
      refine j_tabIn C (off := 68) (4 : Int32) 80 dX11_land_12 c13 ⟨by decide, by decide⟩ (by decide +kernel) (by decide) ?_
      refine j_aload_n C 0 dX11_land_80 rfl rfl ?_
      refine j_iload_n C 1 dX11_land_81 rfl rfl ?_
      obtain ⟨r15, D16, h14, h⟩ := cbd_x h
      refine j_callV C [.int a1] [] cl_X11_344 (M_X11_canFrom (lv := lv - 1) hG (by omega) h14) (by omega) dX11_land_82 (by decide) ⟨rfl, rfl⟩ rfl rfl (Nat.le_of_ble_eq_true rfl) ?_
      refine j_st (st' := [.int r15]) rfl ?_
      obtain ⟨rfl, rfl⟩ := pr_x h
      exact j_iret C dX11_land_85
    have h := ite_f c13 h
    by_cases c17 : a2 = (5 : Int32)
    · have h := ite_t c17 h
      refine j_tabIn C (off := 74) (5 : Int32) 86 dX11_land_12 c17 ⟨by decide, by decide⟩ (by decide +kernel) (by decide) ?_
      refine j_aload_n C 0 dX11_land_86 rfl rfl ?_
      refine j_getS C (11, 0, 7, 0) fl_X11_25 dX11_land_87 (by decide) ⟨rfl, rfl⟩ rfl rfl ?_
      refine j_iload_n C 1 dX11_land_90 rfl rfl ?_
      obtain ⟨g18, h⟩ := grd_x h
      refine j_ialdK C 5 (a1.toNatClampNeg) dX11_land_91 (V_f 6 (by decide) (by decide)) rfl g18 rfl ?_
      obtain ⟨rfl, rfl⟩ := pr_x h
      exact j_iret C dX11_land_92
    have h := ite_f c17 h
    refine j_tabOut C 93 dX11_land_12 (by have z0 : a2.toInt ≠ 0 := ne_toInt c5; have z1 : a2.toInt ≠ 1 := ne_toInt c7; have z2 : a2.toInt ≠ 2 := ne_toInt c9; have z3 : a2.toInt ≠ 3 := ne_toInt c11; have z4 : a2.toInt ≠ 4 := ne_toInt c13; have z5 : a2.toInt ≠ 5 := ne_toInt c17; omega) (by decide) ?_
    refine j_bipush C (-2 : Int32) (by decide) dX11_land_93 ?_
    obtain ⟨rfl, rfl⟩ := pr_x h
    exact j_iret C dX11_land_95
  · have h := ite_t c4 h
    refine j_bipush C (-2 : Int32) (by decide) dX11_land_8 ?_
    obtain ⟨rfl, rfl⟩ := pr_x h
    exact j_iret C dX11_land_10
def F_X11_told (a1 : Int32) (a2 : Int32) (D : Dt) : Option (Int32 × Dt) := (cbd (F_X11_isLand a1 D) (fun r2 D3 => (if r2 = 0 then (some ((-1 : Int32), D3)) else (cbd (F_X11_in a2.toInt64 (0 : Int64) (60 : Int64) D3) (fun r6 D7 => (if r6 = 0 then (some ((-1 : Int32), D7)) else (grd (inB (((61 : Int32) * a1) + a2) 305 = true) (some ((D7.1 (11, 0, 8, 0) ((((61 : Int32) * a1) + a2).toNatClampNeg)), D7)))))))))
set_option maxRecDepth 100000 in
set_option maxHeartbeats 4000000 in
theorem M_X11_told {l : Launch} {G : Gt} {A : Nat → Prop} {lv : Nat} {a1 : Int32} {a2 : Int32} {D : Dt} {r : Int32} {D' : Dt} (hG : Gok G A) (hlv : 3 ≤ lv)  (h : F_X11_told a1 a2 D = some (r, D')) : MD l G A lv yX11_told cX11_told 3 (some .int) [.ref (ad G (11, 0, 0, 0)), .int a1, .int a2] D (some (.int r)) D' := by
  unfold F_X11_told at h
  refine md_start RX11 hG (by decide +kernel) rfl (Nat.le_of_ble_eq_true rfl) (L := [(0, .ref (ad G (11, 0, 0, 0))), (1, .int a1), (2, .int a2)]) rfl (fun X C => ?_)
  refine j_aload_n C 0 dX11_told_0 rfl rfl ?_
  refine j_iload_n C 1 dX11_told_1 rfl rfl ?_
  obtain ⟨r2, D3, h1, h⟩ := cbd_x h
  refine j_callV C [.int a1] [] cl_X11_340 (M_X11_isLand (lv := lv - 1) hG (by omega) h1) (by omega) dX11_told_2 (by decide) ⟨rfl, rfl⟩ rfl rfl (Nat.le_of_ble_eq_true rfl) ?_
  refine j_st (st' := [.int r2]) rfl ?_
  refine j_if_eq C 34 dX11_told_5 (by decide) (fun c4 => ?_) (fun c4 => ?_)
  · have h := ite_t c4 h
    refine j_iconst C (-1 : Int32) (by decide) dX11_told_34 ?_
    obtain ⟨rfl, rfl⟩ := pr_x h
    exact j_iret C dX11_told_35
  · have h := ite_f c4 h
    refine j_iload_n C 2 dX11_told_8 rfl rfl ?_
    refine j_i2l C dX11_told_9 ?_
    refine j_lconst C (0 : Int64) (by decide) dX11_told_10 ?_
    refine j_ldc2 C (60 : Int64) kc_X11_347 dX11_told_11 ?_
    obtain ⟨r6, D7, h5, h⟩ := cbd_x h
    refine j_callS C [.long a2.toInt64, .long (0 : Int64), .long (60 : Int64)] [] cl_X11_134 (M_X11_in (lv := lv - 1) hG (by omega) h5) (by omega) dX11_told_14 rfl rfl (Nat.le_of_ble_eq_true rfl) ?_
    refine j_st (st' := [.int r6]) rfl ?_
    refine j_if_eq C 34 dX11_told_17 (by decide) (fun c8 => ?_) (fun c8 => ?_)
    · have h := ite_t c8 h
      refine j_iconst C (-1 : Int32) (by decide) dX11_told_34 ?_
      obtain ⟨rfl, rfl⟩ := pr_x h
      exact j_iret C dX11_told_35
    · have h := ite_f c8 h
      refine j_aload_n C 0 dX11_told_20 rfl rfl ?_
      refine j_getS C (11, 0, 8, 0) fl_X11_28 dX11_told_21 (by decide) ⟨rfl, rfl⟩ rfl rfl ?_
      refine j_bipush C (61 : Int32) (by decide) dX11_told_24 ?_
      refine j_iload_n C 1 dX11_told_26 rfl rfl ?_
      refine j_imul C dX11_told_27 ?_
      refine j_iload_n C 2 dX11_told_28 rfl rfl ?_
      refine j_iadd C dX11_told_29 ?_
      obtain ⟨g9, h⟩ := grd_x h
      refine j_ialdK C 305 ((((61 : Int32) * a1) + a2).toNatClampNeg) dX11_told_30 (V_f 7 (by decide) (by decide)) rfl g9 rfl ?_
      refine j_goto C 35 dX11_told_31 (by decide) ?_
      obtain ⟨rfl, rfl⟩ := pr_x h
      exact j_iret C dX11_told_35
def F_X11_upTo (a1 : Int32) (a2 : Int32) (D : Dt) : Option (Int32 × Dt) := (if a1 ≤ a2 then (some (a1, D)) else (some (a2, D)))
set_option maxRecDepth 100000 in
set_option maxHeartbeats 4000000 in
theorem M_X11_upTo {l : Launch} {G : Gt} {A : Nat → Prop} {lv : Nat} {a1 : Int32} {a2 : Int32} {D : Dt} {r : Int32} {D' : Dt} (hG : Gok G A) (hlv : 1 ≤ lv)  (h : F_X11_upTo a1 a2 D = some (r, D')) : MD l G A lv yX11_upTo cX11_upTo 2 (some .int) [.int a1, .int a2] D (some (.int r)) D' := by
  unfold F_X11_upTo at h
  refine md_start RX11 hG (by decide +kernel) rfl (Nat.le_of_ble_eq_true rfl) (L := [(0, .int a1), (1, .int a2)]) rfl (fun X C => ?_)
  refine j_iload_n C 0 dX11_upTo_0 rfl rfl ?_
  refine j_iload_n C 1 dX11_upTo_1 rfl rfl ?_
  refine j_icmp_le C 9 dX11_upTo_2 (by decide) (fun c1 => ?_) (fun c1 => ?_)
  · have h := ite_t c1 h
    refine j_iload_n C 0 dX11_upTo_9 rfl rfl ?_
    obtain ⟨rfl, rfl⟩ := pr_x h
    exact j_iret C dX11_upTo_10
  · have h := ite_f c1 h
    refine j_iload_n C 1 dX11_upTo_5 rfl rfl ?_
    refine j_goto C 10 dX11_upTo_6 (by decide) ?_
    obtain ⟨rfl, rfl⟩ := pr_x h
    exact j_iret C dX11_upTo_10
def F_X11_buys (a1 : Int32) (a2 : Int32) (D : Dt) : Option Dt := (grd (inB a1 5 = true) (bnd (setI D (11, 0, 3, 0) (a1.toNatClampNeg) ((D.1 (11, 0, 3, 0) (a1.toNatClampNeg)) - (D.1 (11, 0, 2, 0) 3))) (fun D2 => (grd (inB a2 5 = true) (cbd (F_X11_upTo ((D2.1 (11, 0, 3, 0) (a2.toNatClampNeg)) + (D2.1 (11, 0, 2, 0) 3)) (999 : Int32) D2) (fun r5 D6 => (bnd (setI D6 (11, 0, 3, 0) (a2.toNatClampNeg) r5) (fun D7 => (bnd (setI D7 (11, 0, 4, 0) (a2.toNatClampNeg) ((D7.1 (11, 0, 4, 0) (a2.toNatClampNeg)) - (1 : Int32))) (fun D8 => (cbd (F_X11_upTo ((D8.1 (11, 0, 4, 0) (a1.toNatClampNeg)) + (1 : Int32)) (99 : Int32) D8) (fun r10 D11 => (bnd (setI D11 (11, 0, 4, 0) (a1.toNatClampNeg) r10) (fun D12 => (bnd (setI D12 (11, 0, 2, 0) 5 ((D12.1 (11, 0, 2, 0) 5) + (1 : Int32))) (fun D13 => (some D13)))))))))))))))))
set_option maxRecDepth 100000 in
set_option maxHeartbeats 4000000 in
theorem M_X11_buys {l : Launch} {G : Gt} {A : Nat → Prop} {lv : Nat} {a1 : Int32} {a2 : Int32} {D : Dt} {D' : Dt} (hG : Gok G A) (hlv : 2 ≤ lv)  (h : F_X11_buys a1 a2 D = some D') : MD l G A lv yX11_buys cX11_buys 3 none [.ref (ad G (11, 0, 0, 0)), .int a1, .int a2] D none D' := by
  unfold F_X11_buys at h
  refine md_start RX11 hG (by decide +kernel) rfl (Nat.le_of_ble_eq_true rfl) (L := [(0, .ref (ad G (11, 0, 0, 0))), (1, .int a1), (2, .int a2)]) rfl (fun X C => ?_)
  refine j_aload_n C 0 dX11_buys_0 rfl rfl ?_
  refine j_getS C (11, 0, 3, 0) fl_X11_13 dX11_buys_1 (by decide) ⟨rfl, rfl⟩ rfl rfl ?_
  refine j_iload_n C 1 dX11_buys_4 rfl rfl ?_
  refine j_dup2 C rfl rfl dX11_buys_5 ?_
  obtain ⟨g1, h⟩ := grd_x h
  refine j_ialdK C 5 (a1.toNatClampNeg) dX11_buys_6 (V_f 2 (by decide) (by decide)) rfl g1 rfl ?_
  refine j_aload_n C 0 dX11_buys_7 rfl rfl ?_
  refine j_getS C (11, 0, 2, 0) fl_X11_9 dX11_buys_8 (by decide) ⟨rfl, rfl⟩ rfl rfl ?_
  refine j_iconst C (3 : Int32) (by decide) dX11_buys_11 ?_
  refine j_ialdK C 9 3 dX11_buys_12 (V_f 1 (by decide) (by decide)) rfl (by decide) (by decide) ?_
  refine j_isub C dX11_buys_13 ?_
  obtain ⟨D2, eD2, h⟩ := bnd_x h
  refine j_iastK C 5 (a1.toNatClampNeg) dX11_buys_14 (V_f 2 (by decide) (by decide)) rfl g1 rfl ?_
  refine j_rep eD2 ?_
  refine j_aload_n C 0 dX11_buys_15 rfl rfl ?_
  refine j_getS C (11, 0, 3, 0) fl_X11_13 dX11_buys_16 (by decide) ⟨rfl, rfl⟩ rfl rfl ?_
  refine j_iload_n C 2 dX11_buys_19 rfl rfl ?_
  refine j_aload_n C 0 dX11_buys_20 rfl rfl ?_
  refine j_getS C (11, 0, 3, 0) fl_X11_13 dX11_buys_21 (by decide) ⟨rfl, rfl⟩ rfl rfl ?_
  refine j_iload_n C 2 dX11_buys_24 rfl rfl ?_
  obtain ⟨g3, h⟩ := grd_x h
  refine j_ialdK C 5 (a2.toNatClampNeg) dX11_buys_25 (V_f 2 (by decide) (by decide)) rfl g3 rfl ?_
  refine j_aload_n C 0 dX11_buys_26 rfl rfl ?_
  refine j_getS C (11, 0, 2, 0) fl_X11_9 dX11_buys_27 (by decide) ⟨rfl, rfl⟩ rfl rfl ?_
  refine j_iconst C (3 : Int32) (by decide) dX11_buys_30 ?_
  refine j_ialdK C 9 3 dX11_buys_31 (V_f 1 (by decide) (by decide)) rfl (by decide) (by decide) ?_
  refine j_iadd C dX11_buys_32 ?_
  refine j_sipush C (999 : Int32) (by decide) dX11_buys_33 ?_
  obtain ⟨r5, D6, h4, h⟩ := cbd_x h
  refine j_callS C [.int ((D2.1 (11, 0, 3, 0) (a2.toNatClampNeg)) + (D2.1 (11, 0, 2, 0) 3)), .int (999 : Int32)] [.int a2, .ref (ad G (11, 0, 3, 0))] cl_X11_349 (M_X11_upTo (lv := lv - 1) hG (by omega) h4) (by omega) dX11_buys_36 rfl rfl (Nat.le_of_ble_eq_true rfl) ?_
  refine j_st (st' := [.int r5, .int a2, .ref (ad G (11, 0, 3, 0))]) rfl ?_
  obtain ⟨D7, eD7, h⟩ := bnd_x h
  refine j_iastK C 5 (a2.toNatClampNeg) dX11_buys_39 (V_f 2 (by decide) (by decide)) rfl g3 rfl ?_
  refine j_rep eD7 ?_
  refine j_aload_n C 0 dX11_buys_40 rfl rfl ?_
  refine j_getS C (11, 0, 4, 0) fl_X11_16 dX11_buys_41 (by decide) ⟨rfl, rfl⟩ rfl rfl ?_
  refine j_iload_n C 2 dX11_buys_44 rfl rfl ?_
  refine j_dup2 C rfl rfl dX11_buys_45 ?_
  refine j_ialdK C 5 (a2.toNatClampNeg) dX11_buys_46 (V_f 3 (by decide) (by decide)) rfl g3 rfl ?_
  refine j_iconst C (1 : Int32) (by decide) dX11_buys_47 ?_
  refine j_isub C dX11_buys_48 ?_
  obtain ⟨D8, eD8, h⟩ := bnd_x h
  refine j_iastK C 5 (a2.toNatClampNeg) dX11_buys_49 (V_f 3 (by decide) (by decide)) rfl g3 rfl ?_
  refine j_rep eD8 ?_
  refine j_aload_n C 0 dX11_buys_50 rfl rfl ?_
  refine j_getS C (11, 0, 4, 0) fl_X11_16 dX11_buys_51 (by decide) ⟨rfl, rfl⟩ rfl rfl ?_
  refine j_iload_n C 1 dX11_buys_54 rfl rfl ?_
  refine j_aload_n C 0 dX11_buys_55 rfl rfl ?_
  refine j_getS C (11, 0, 4, 0) fl_X11_16 dX11_buys_56 (by decide) ⟨rfl, rfl⟩ rfl rfl ?_
  refine j_iload_n C 1 dX11_buys_59 rfl rfl ?_
  refine j_ialdK C 5 (a1.toNatClampNeg) dX11_buys_60 (V_f 3 (by decide) (by decide)) rfl g1 rfl ?_
  refine j_iconst C (1 : Int32) (by decide) dX11_buys_61 ?_
  refine j_iadd C dX11_buys_62 ?_
  refine j_bipush C (99 : Int32) (by decide) dX11_buys_63 ?_
  obtain ⟨r10, D11, h9, h⟩ := cbd_x h
  refine j_callS C [.int ((D8.1 (11, 0, 4, 0) (a1.toNatClampNeg)) + (1 : Int32)), .int (99 : Int32)] [.int a1, .ref (ad G (11, 0, 4, 0))] cl_X11_349 (M_X11_upTo (lv := lv - 1) hG (by omega) h9) (by omega) dX11_buys_65 rfl rfl (Nat.le_of_ble_eq_true rfl) ?_
  refine j_st (st' := [.int r10, .int a1, .ref (ad G (11, 0, 4, 0))]) rfl ?_
  obtain ⟨D12, eD12, h⟩ := bnd_x h
  refine j_iastK C 5 (a1.toNatClampNeg) dX11_buys_68 (V_f 3 (by decide) (by decide)) rfl g1 rfl ?_
  refine j_rep eD12 ?_
  refine j_aload_n C 0 dX11_buys_69 rfl rfl ?_
  refine j_getS C (11, 0, 2, 0) fl_X11_9 dX11_buys_70 (by decide) ⟨rfl, rfl⟩ rfl rfl ?_
  refine j_iconst C (5 : Int32) (by decide) dX11_buys_73 ?_
  refine j_dup2 C rfl rfl dX11_buys_74 ?_
  refine j_ialdK C 9 5 dX11_buys_75 (V_f 1 (by decide) (by decide)) rfl (by decide) (by decide) ?_
  refine j_iconst C (1 : Int32) (by decide) dX11_buys_76 ?_
  refine j_iadd C dX11_buys_77 ?_
  obtain ⟨D13, eD13, h⟩ := bnd_x h
  refine j_iastK C 9 5 dX11_buys_78 (V_f 1 (by decide) (by decide)) rfl (by decide) (by decide) ?_
  refine j_rep eD13 ?_
  obtain rfl := Option.some.inj h
  exact j_vret C dX11_buys_79
