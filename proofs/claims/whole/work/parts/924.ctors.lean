theorem cc_X9_18 : Cond.classLink RX9 18 (cR 6) ∈ tg := tg_of (tbl_1 (List.mem_of_getElem? (i := 188) (by decide +kernel))) (by decide +kernel)
theorem cc_X9_25 : Cond.classLink RX9 25 (cR 0) ∈ tg := tg_of (tbl_1 (List.mem_of_getElem? (i := 239) (by decide +kernel))) (by decide +kernel)
theorem cc_X9_9 : Cond.classLink RX9 9 (cR 5) ∈ tg := tg_of (tbl_1 (List.mem_of_getElem? (i := 186) (by decide +kernel))) (by decide +kernel)
theorem cd_X0 : Cond.initialized (cR 0) ∈ tg := tg_of (tbl_1 (List.mem_of_getElem? (i := 9) (by decide +kernel))) (by decide +kernel)
theorem cd_X5 : Cond.initialized (cR 5) ∈ tg := tg_of (tbl_1 (List.mem_of_getElem? (i := 5) (by decide +kernel))) (by decide +kernel)
theorem cf_X9_12 : Cond.fieldLink RX9 12 (cT 9 0).1 (cT 9 0).2.1 (cT 9 0).2.2.1 ∈ tg := tg_of (tbl_2 (List.mem_of_getElem? (i := 17) (by decide +kernel))) (by decide +kernel)
theorem cf_X9_21 : Cond.fieldLink RX9 21 (cT 9 1).1 (cT 9 1).2.1 (cT 9 1).2.2.1 ∈ tg := tg_of (tbl_2 (List.mem_of_getElem? (i := 20) (by decide +kernel))) (by decide +kernel)
theorem cf_X9_28 : Cond.fieldLink RX9 28 (cT 9 2).1 (cT 9 2).2.1 (cT 9 2).2.2.1 ∈ tg := tg_of (tbl_2 (List.mem_of_getElem? (i := 23) (by decide +kernel))) (by decide +kernel)
theorem cf_X9_32 : Cond.fieldLink RX9 32 (cT 9 3).1 (cT 9 3).2.1 (cT 9 3).2.2.1 ∈ tg := tg_of (tbl_2 (List.mem_of_getElem? (i := 25) (by decide +kernel))) (by decide +kernel)
theorem cf_X9_36 : Cond.fieldLink RX9 36 (cT 9 4).1 (cT 9 4).2.1 (cT 9 4).2.2.1 ∈ tg := tg_of (tbl_2 (List.mem_of_getElem? (i := 26) (by decide +kernel))) (by decide +kernel)
theorem cf_X9_39 : Cond.fieldLink RX9 39 (cT 9 5).1 (cT 9 5).2.1 (cT 9 5).2.2.1 ∈ tg := tg_of (tbl_2 (List.mem_of_getElem? (i := 27) (by decide +kernel))) (by decide +kernel)
theorem cf_X9_42 : Cond.fieldLink RX9 42 (cT 9 7).1 (cT 9 7).2.1 (cT 9 7).2.2.1 ∈ tg := tg_of (tbl_2 (List.mem_of_getElem? (i := 30) (by decide +kernel))) (by decide +kernel)
theorem ci_X9_11 : CI RX9 11 yX5_init cX5_init 1 0 := ⟨Or.inr ⟨"SunTable", nw_of (tbl_1 (List.mem_of_getElem? (i := 187) (by decide +kernel))) rfl⟩, tg_of (tbl_1 (List.mem_of_getElem? (i := 94) (by decide +kernel))) (by decide +kernel), tg_of (tbl_1 (List.mem_of_getElem? (i := 5) (by decide +kernel))) (by decide +kernel), tg_of (tbl_1 (List.mem_of_getElem? (i := 95) (by decide +kernel))) (by decide +kernel), rfl, ⟨by decide, by decide, by decide +kernel⟩, by decide⟩
theorem ci_X9_20 : CI RX9 20 yX6_init cX6_init 1 0 := ⟨Or.inr ⟨"SunTable", nw_of (tbl_1 (List.mem_of_getElem? (i := 190) (by decide +kernel))) rfl⟩, tg_of (tbl_1 (List.mem_of_getElem? (i := 191) (by decide +kernel))) (by decide +kernel), tg_of (tbl_1 (List.mem_of_getElem? (i := 8) (by decide +kernel))) (by decide +kernel), tg_of (tbl_1 (List.mem_of_getElem? (i := 192) (by decide +kernel))) (by decide +kernel), rfl, ⟨by decide, by decide, by decide +kernel⟩, by decide⟩
theorem ci_X9_27 : CI RX9 27 yX0_init cX0_init 2 0 := ⟨Or.inl (tg_of (tbl_2 (List.mem_of_getElem? (i := 1) (by decide +kernel))) (by decide +kernel)), tg_of (tbl_2 (List.mem_of_getElem? (i := 2) (by decide +kernel))) (by decide +kernel), tg_of (tbl_1 (List.mem_of_getElem? (i := 9) (by decide +kernel))) (by decide +kernel), tg_of (tbl_2 (List.mem_of_getElem? (i := 3) (by decide +kernel))) (by decide +kernel), rfl, ⟨by decide, by decide, by decide +kernel⟩, by decide⟩
theorem cn_X0 : Cond.instantiable (cR 0) (cN 0) ∈ tg := tg_of (tbl_2 (List.mem_of_getElem? (i := 0) (by decide +kernel))) (by decide +kernel)
theorem cn_X5 : Cond.instantiable (cR 5) (cN 5) ∈ tg := tg_of (tbl_1 (List.mem_of_getElem? (i := 92) (by decide +kernel))) (by decide +kernel)
theorem co_X9_3 : Cond.methodLink RX9 3 objectInit ∈ tg := tg_of (tbl_1 (List.mem_of_getElem? (i := 185) (by decide +kernel))) (by decide +kernel)
theorem ps_no {w : Nat} {n q : Nat} : ¬ (9, n, q, 0) ∈ ((0, w, 0, 0) :: (psS w 20 ++ [(0, w, 1, 0)]) : List LA) := by
  intro h
  rcases List.mem_cons.mp h with h | h
  · simp at h
  rcases List.mem_append.mp h with h | h
  · unfold psS at h
    obtain ⟨j, -, hj⟩ := List.mem_flatMap.mp h
    simp [ctS6] at hj
  · simp at h
def ctS9 (w : Nat) : List LA := [] ++ ((5, w, 0, 0) :: ctS5 w) ++ ((6, 21 * w, 0, 0) :: ctS6 (21 * w)) ++ ((0, w, 0, 0) :: (psS w 20 ++ [(0, w, 1, 0)])) ++ [(9, w, 4, 0)] ++ [(9, w, 5, 0)] ++ [(9, w, 6, 0)]
set_option maxRecDepth 100000 in
set_option maxHeartbeats 8000000 in
theorem ci_X9 {l : Launch} {G : Gt} {A : Nat → Prop} {B t k0 w : Nat} {E : LA → va_E} (hB : GB G B A) (hG : Gok G A) (hlS : ∀ j, j < 1 → (lyG G)[t + j]? = some (5, w, 0, 0)) (hlS5 : ∀ (j : Nat) (la : LA), (ctS5 w)[j]? = some la → (lyG G)[t + 1 + j]? = some la) (hlT : ∀ j, j < 1 → (lyG G)[t + 1 + 15 + j]? = some (6, 21 * w, 0, 0)) (hlT6 : ∀ (j : Nat) (la : LA), (ctS6 (21 * w))[j]? = some la → (lyG G)[t + 1 + 15 + 1 + j]? = some la) (hlP : (lyG G)[t + 1 + 15 + 1 + 5]? = some (0, w, 0, 0)) (hlP1 : (lyG G)[t + 1 + 15 + 1 + 5 + 1]? = some (0, w, 1, 0)) (hlP2 : ∀ j q, j < 20 → q < 6 → (lyG G)[t + 1 + 15 + 1 + 5 + 1 + 1 + 6 * j + q]? = some (6, 21 * w + 1 + j, q, 0)) (hlN : ∀ j, j < 3 → (lyG G)[t + 1 + 15 + 1 + 5 + 1 + 121 + j]? = some (9, w, 4 + j, 0)) (hk0 : (lyG G)[k0]? = some (9, w, 0, 0)) (hlt : k0 < t) (aE : E (9, w, 0, 0) = blk 9) : MC l G A B 3 yX9_init cX9_init 1 [.ref (ad G (9, w, 0, 0))] t E (t + 147) (ovl G ((9, w, 0, 0) :: ctS9 w) E) 147 1500 := by
  refine mc_start RX9 hB hG (by decide +kernel) rfl rfl (Nat.le_of_ble_eq_true rfl) (L := [(0, .ref (ad G (9, w, 0, 0)))]) rfl (fun p e s m args below meth c C => ?_)
  have aE : E (9, w, 0, 0) = .inr (9, [Value.null, Value.null, Value.null, Value.null, Value.null, Value.null, Value.int 0, Value.int 0, Value.int 0]) := aE
  refine c_E (Eb := nE G ([]) E (9, w, 0, 0) (.inr (9, [Value.null, Value.null, Value.null, Value.null, Value.null, Value.null, Value.int 0, Value.int 0, Value.int 0]))) (nE_0 aE) ?_
  refine j_aload_n (C.x (D := D0) (by decide) (by decide)) 0 dX9_init_0 rfl rfl ?_
  refine c_obj C co_X9_3 (by decide) (Nat.le_of_ble_eq_true rfl) dX9_init_1 ?_
  refine j_aload_n (C.x (D := D0) (by decide) (by decide)) 0 dX9_init_4 rfl rfl ?_
  refine c_new C (ci := 5) (5, w, 0, 0) (hlS 0 (by decide)) (by decide) cc_X9_9 cn_X5 cd_X5 (by decide) (by decide) dX9_init_5 ?_
  refine j_dup (C.x (D := D0) (by decide) (by decide)) rfl dX9_init_8 ?_
  refine c_init C (lv' := 1) (la := (5, w, 0, 0)) (mc := 15) (ms := 635) [] [.ref (ad G (5, w, 0, 0)), .ref (ad G (9, w, 0, 0))] ci_X9_11 (ci_X5 (lv := 1) (n := w) (t := t + 1) (k0 := t) hB hG hlS5 (hlS 0 (by decide)) (by omega) setE_eq) (by decide) dX9_init_9 rfl rfl (Nat.le_of_ble_eq_true rfl) (by decide) (by decide) ?_
  refine c_E (Eb := nE G ([] ++ ((5, w, 0, 0) :: ctS5 w)) E (9, w, 0, 0) (.inr (9, [Value.null, Value.null, Value.null, Value.null, Value.null, Value.null, Value.int 0, Value.int 0, Value.int 0]))) (nE_call (by simp [ctS5])) ?_
  refine c_putK C cf_X9_12 (by decide) rfl hk0 (by omega) nE_at (by decide) (Nat.le_of_ble_eq_true rfl) rfl rfl dX9_init_12 ?_
  refine c_E (Eb := nE G ([] ++ ((5, w, 0, 0) :: ctS5 w)) E (9, w, 0, 0) (.inr (9, [Value.ref (ad G (5, w, 0, 0)), Value.null, Value.null, Value.null, Value.null, Value.null, Value.int 0, Value.int 0, Value.int 0]))) nE_put ?_
  refine j_aload_n (C.x (D := D0) (by decide) (by decide)) 0 dX9_init_15 rfl rfl ?_
  refine c_new C (ci := 6) (6, 21 * w, 0, 0) (hlT 0 (by decide)) (by decide) cc_X9_18 cn_X6 cd_X6 (by decide) (by decide) dX9_init_16 ?_
  refine j_dup (C.x (D := D0) (by decide) (by decide)) rfl dX9_init_19 ?_
  refine c_init C (lv' := 1) (la := (6, 21 * w, 0, 0)) (mc := 5) (ms := 25) [] [.ref (ad G (6, 21 * w, 0, 0)), .ref (ad G (9, w, 0, 0))] ci_X9_20 (ci_X6 (lv := 1) (n := 21 * w) (t := t + 1 + 15 + 1) (k0 := t + 16) hB hG hlT6 (hlT 0 (by decide)) (by omega) setE_eq) (by decide) dX9_init_20 rfl rfl (Nat.le_of_ble_eq_true rfl) (by decide) (by decide) ?_
  refine c_E (Eb := nE G ([] ++ ((5, w, 0, 0) :: ctS5 w) ++ ((6, 21 * w, 0, 0) :: ctS6 (21 * w))) E (9, w, 0, 0) (.inr (9, [Value.ref (ad G (5, w, 0, 0)), Value.null, Value.null, Value.null, Value.null, Value.null, Value.int 0, Value.int 0, Value.int 0]))) (nE_call (by simp [ctS6])) ?_
  refine c_putK C cf_X9_21 (by decide) rfl hk0 (by omega) nE_at (by decide) (Nat.le_of_ble_eq_true rfl) rfl rfl dX9_init_23 ?_
  refine c_E (Eb := nE G ([] ++ ((5, w, 0, 0) :: ctS5 w) ++ ((6, 21 * w, 0, 0) :: ctS6 (21 * w))) E (9, w, 0, 0) (.inr (9, [Value.ref (ad G (5, w, 0, 0)), Value.ref (ad G (6, 21 * w, 0, 0)), Value.null, Value.null, Value.null, Value.null, Value.int 0, Value.int 0, Value.int 0]))) nE_put ?_
  refine j_aload_n (C.x (D := D0) (by decide) (by decide)) 0 dX9_init_26 rfl rfl ?_
  refine c_new C (ci := 0) (0, w, 0, 0) (hlP) (by decide) cc_X9_25 cn_X0 cd_X0 (by decide) (by decide) dX9_init_27 ?_
  refine j_dup (C.x (D := D0) (by decide) (by decide)) rfl dX9_init_30 ?_
  refine c_init C (lv' := 2) (la := (0, w, 0, 0)) (mc := 121) (ms := 680) [] [.ref (ad G (0, w, 0, 0)), .ref (ad G (9, w, 0, 0))] ci_X9_27 (ci_X0 (w := w) (t := t + 1 + 15 + 1 + 5 + 1) (k0 := t + 22) hB hG hlP1 hlP2 hlP (by omega) setE_eq) (by decide) dX9_init_31 rfl rfl (Nat.le_of_ble_eq_true rfl) (by decide) (by decide) ?_
  refine c_E (Eb := nE G ([] ++ ((5, w, 0, 0) :: ctS5 w) ++ ((6, 21 * w, 0, 0) :: ctS6 (21 * w)) ++ ((0, w, 0, 0) :: (psS w 20 ++ [(0, w, 1, 0)]))) E (9, w, 0, 0) (.inr (9, [Value.ref (ad G (5, w, 0, 0)), Value.ref (ad G (6, 21 * w, 0, 0)), Value.null, Value.null, Value.null, Value.null, Value.int 0, Value.int 0, Value.int 0]))) (nE_call (by exact ps_no)) ?_
  refine c_putK C cf_X9_28 (by decide) rfl hk0 (by omega) nE_at (by decide) (Nat.le_of_ble_eq_true rfl) rfl rfl dX9_init_34 ?_
  refine c_E (Eb := nE G ([] ++ ((5, w, 0, 0) :: ctS5 w) ++ ((6, 21 * w, 0, 0) :: ctS6 (21 * w)) ++ ((0, w, 0, 0) :: (psS w 20 ++ [(0, w, 1, 0)]))) E (9, w, 0, 0) (.inr (9, [Value.ref (ad G (5, w, 0, 0)), Value.ref (ad G (6, 21 * w, 0, 0)), Value.ref (ad G (0, w, 0, 0)), Value.null, Value.null, Value.null, Value.int 0, Value.int 0, Value.int 0]))) nE_put ?_
  refine j_aload_n (C.x (D := D0) (by decide) (by decide)) 0 dX9_init_37 rfl rfl ?_
  refine j_bipush (C.x (D := D0) (by decide) (by decide)) (10 : Int32) (by decide) dX9_init_38 ?_
  refine c_newa C (atype := .int) (ty := .int) 0 10 (9, w, 4, 0) (hlN 0 (by decide)) rfl rfl tm_aI (fun _ => vc_i _ _) (by decide) (by decide) (by decide) (by decide) (by decide) dX9_init_40 ?_
  refine c_E (Eb := nE G ([] ++ ((5, w, 0, 0) :: ctS5 w) ++ ((6, 21 * w, 0, 0) :: ctS6 (21 * w)) ++ ((0, w, 0, 0) :: (psS w 20 ++ [(0, w, 1, 0)])) ++ [(9, w, 4, 0)]) E (9, w, 0, 0) (.inr (9, [Value.ref (ad G (5, w, 0, 0)), Value.ref (ad G (6, 21 * w, 0, 0)), Value.ref (ad G (0, w, 0, 0)), Value.null, Value.null, Value.null, Value.int 0, Value.int 0, Value.int 0]))) (nE_add (by simp) rfl) ?_
  refine c_putK C cf_X9_32 (by decide) rfl hk0 (by omega) nE_at (by decide) (Nat.le_of_ble_eq_true rfl) rfl rfl dX9_init_42 ?_
  refine c_E (Eb := nE G ([] ++ ((5, w, 0, 0) :: ctS5 w) ++ ((6, 21 * w, 0, 0) :: ctS6 (21 * w)) ++ ((0, w, 0, 0) :: (psS w 20 ++ [(0, w, 1, 0)])) ++ [(9, w, 4, 0)]) E (9, w, 0, 0) (.inr (9, [Value.ref (ad G (5, w, 0, 0)), Value.ref (ad G (6, 21 * w, 0, 0)), Value.ref (ad G (0, w, 0, 0)), Value.ref (ad G (9, w, 4, 0)), Value.null, Value.null, Value.int 0, Value.int 0, Value.int 0]))) nE_put ?_
  refine j_aload_n (C.x (D := D0) (by decide) (by decide)) 0 dX9_init_45 rfl rfl ?_
  refine j_bipush (C.x (D := D0) (by decide) (by decide)) (10 : Int32) (by decide) dX9_init_46 ?_
  refine c_newa C (atype := .int) (ty := .int) 0 10 (9, w, 5, 0) (hlN 1 (by decide)) rfl rfl tm_aI (fun _ => vc_i _ _) (by decide) (by decide) (by decide) (by decide) (by decide) dX9_init_48 ?_
  refine c_E (Eb := nE G ([] ++ ((5, w, 0, 0) :: ctS5 w) ++ ((6, 21 * w, 0, 0) :: ctS6 (21 * w)) ++ ((0, w, 0, 0) :: (psS w 20 ++ [(0, w, 1, 0)])) ++ [(9, w, 4, 0)] ++ [(9, w, 5, 0)]) E (9, w, 0, 0) (.inr (9, [Value.ref (ad G (5, w, 0, 0)), Value.ref (ad G (6, 21 * w, 0, 0)), Value.ref (ad G (0, w, 0, 0)), Value.ref (ad G (9, w, 4, 0)), Value.null, Value.null, Value.int 0, Value.int 0, Value.int 0]))) (nE_add (by simp) rfl) ?_
  refine c_putK C cf_X9_36 (by decide) rfl hk0 (by omega) nE_at (by decide) (Nat.le_of_ble_eq_true rfl) rfl rfl dX9_init_50 ?_
  refine c_E (Eb := nE G ([] ++ ((5, w, 0, 0) :: ctS5 w) ++ ((6, 21 * w, 0, 0) :: ctS6 (21 * w)) ++ ((0, w, 0, 0) :: (psS w 20 ++ [(0, w, 1, 0)])) ++ [(9, w, 4, 0)] ++ [(9, w, 5, 0)]) E (9, w, 0, 0) (.inr (9, [Value.ref (ad G (5, w, 0, 0)), Value.ref (ad G (6, 21 * w, 0, 0)), Value.ref (ad G (0, w, 0, 0)), Value.ref (ad G (9, w, 4, 0)), Value.ref (ad G (9, w, 5, 0)), Value.null, Value.int 0, Value.int 0, Value.int 0]))) nE_put ?_
  refine j_aload_n (C.x (D := D0) (by decide) (by decide)) 0 dX9_init_53 rfl rfl ?_
  refine j_bipush (C.x (D := D0) (by decide) (by decide)) (10 : Int32) (by decide) dX9_init_54 ?_
  refine c_newa C (atype := .int) (ty := .int) 0 10 (9, w, 6, 0) (hlN 2 (by decide)) rfl rfl tm_aI (fun _ => vc_i _ _) (by decide) (by decide) (by decide) (by decide) (by decide) dX9_init_56 ?_
  refine c_E (Eb := nE G ([] ++ ((5, w, 0, 0) :: ctS5 w) ++ ((6, 21 * w, 0, 0) :: ctS6 (21 * w)) ++ ((0, w, 0, 0) :: (psS w 20 ++ [(0, w, 1, 0)])) ++ [(9, w, 4, 0)] ++ [(9, w, 5, 0)] ++ [(9, w, 6, 0)]) E (9, w, 0, 0) (.inr (9, [Value.ref (ad G (5, w, 0, 0)), Value.ref (ad G (6, 21 * w, 0, 0)), Value.ref (ad G (0, w, 0, 0)), Value.ref (ad G (9, w, 4, 0)), Value.ref (ad G (9, w, 5, 0)), Value.null, Value.int 0, Value.int 0, Value.int 0]))) (nE_add (by simp) rfl) ?_
  refine c_putK C cf_X9_39 (by decide) rfl hk0 (by omega) nE_at (by decide) (Nat.le_of_ble_eq_true rfl) rfl rfl dX9_init_58 ?_
  refine c_E (Eb := nE G ([] ++ ((5, w, 0, 0) :: ctS5 w) ++ ((6, 21 * w, 0, 0) :: ctS6 (21 * w)) ++ ((0, w, 0, 0) :: (psS w 20 ++ [(0, w, 1, 0)])) ++ [(9, w, 4, 0)] ++ [(9, w, 5, 0)] ++ [(9, w, 6, 0)]) E (9, w, 0, 0) (.inr (9, [Value.ref (ad G (5, w, 0, 0)), Value.ref (ad G (6, 21 * w, 0, 0)), Value.ref (ad G (0, w, 0, 0)), Value.ref (ad G (9, w, 4, 0)), Value.ref (ad G (9, w, 5, 0)), Value.ref (ad G (9, w, 6, 0)), Value.int 0, Value.int 0, Value.int 0]))) nE_put ?_
  refine j_aload_n (C.x (D := D0) (by decide) (by decide)) 0 dX9_init_61 rfl rfl ?_
  refine j_iconst (C.x (D := D0) (by decide) (by decide)) (-1 : Int32) (by decide) dX9_init_62 ?_
  refine c_putK C cf_X9_42 (by decide) rfl hk0 (by omega) nE_at (by decide) (Nat.le_of_ble_eq_true rfl) rfl rfl dX9_init_63 ?_
  refine c_E (Eb := nE G ([] ++ ((5, w, 0, 0) :: ctS5 w) ++ ((6, 21 * w, 0, 0) :: ctS6 (21 * w)) ++ ((0, w, 0, 0) :: (psS w 20 ++ [(0, w, 1, 0)])) ++ [(9, w, 4, 0)] ++ [(9, w, 5, 0)] ++ [(9, w, 6, 0)]) E (9, w, 0, 0) (.inr (9, [Value.ref (ad G (5, w, 0, 0)), Value.ref (ad G (6, 21 * w, 0, 0)), Value.ref (ad G (0, w, 0, 0)), Value.ref (ad G (9, w, 4, 0)), Value.ref (ad G (9, w, 5, 0)), Value.ref (ad G (9, w, 6, 0)), Value.int 0, Value.int (-1), Value.int 0]))) nE_put ?_
  exact c_ret C (by decide) (by decide) rfl (fun k la hk hla H hv => nE_end (S' := ctS9 w) rfl rfl hv) dX9_init_66
