def HW (G : Gt) (w T : Nat) : Prop := (∀ j, j < 1 → (lyG G)[T + j]? = some (5, w, 0, 0)) ∧ (∀ (j : Nat) (la : LA), (ctS5 w)[j]? = some la → (lyG G)[T + 1 + j]? = some la) ∧ (∀ j, j < 1 → (lyG G)[T + 1 + 15 + j]? = some (6, 21 * w, 0, 0)) ∧ (∀ (j : Nat) (la : LA), (ctS6 (21 * w))[j]? = some la → (lyG G)[T + 1 + 15 + 1 + j]? = some la) ∧ (lyG G)[T + 1 + 15 + 1 + 5]? = some (0, w, 0, 0) ∧ (lyG G)[T + 1 + 15 + 1 + 5 + 1]? = some (0, w, 1, 0) ∧ (∀ j q, j < 20 → q < 6 → (lyG G)[T + 1 + 15 + 1 + 5 + 1 + 1 + 6 * j + q]? = some (6, 21 * w + 1 + j, q, 0)) ∧ (∀ j, j < 3 → (lyG G)[T + 1 + 15 + 1 + 5 + 1 + 121 + j]? = some (9, w, 4 + j, 0))
theorem ci_W {l : Launch} {G : Gt} {A : Nat → Prop} {B t k0 w : Nat} {E : LA → va_E} (hB : GB G B A) (hG : Gok G A) (h : HW G w t) (hk0 : (lyG G)[k0]? = some (9, w, 0, 0)) (hlt : k0 < t) (aE : E (9, w, 0, 0) = blk 9) : MC l G A B 3 yX9_init cX9_init 1 [.ref (ad G (9, w, 0, 0))] t E (t + 147) (ovl G ((9, w, 0, 0) :: ctS9 w) E) 147 1500 := ci_X9 hB hG h.1 h.2.1 h.2.2.1 h.2.2.2.1 h.2.2.2.2.1 h.2.2.2.2.2.1 h.2.2.2.2.2.2.1 h.2.2.2.2.2.2.2 hk0 hlt aE
theorem w9_no {w k : Nat} (q : Nat) (h : ¬ 10 = k ∨ True) : ¬ (10, 0, q, 0) ∈ ((9, w, 0, 0) :: ctS9 w : List LA) := by
  intro h
  rcases List.mem_cons.mp h with h | h
  · simp at h
  unfold ctS9 at h
  simp only [List.mem_append, List.mem_cons, List.not_mem_nil, false_or, or_false] at h
  rcases h with ((((h | h) | (h | h)) | (h | (h | h))) | h) | h | h
  all_goals first | (simp at h; done) | (simp [ctS5, ctS6] at h; done) | (unfold psS at h; obtain ⟨j, -, hj⟩ := List.mem_flatMap.mp h; simp [ctS6] at hj; done) | (rcases h with h | h <;> first | (simp at h; done) | (unfold psS at h; obtain ⟨j, -, hj⟩ := List.mem_flatMap.mp h; simp [ctS6] at hj; done))
theorem cc_X10_16 : Cond.classLink RX10 16 (cR 7) ∈ tg := tg_of (tbl_1 (List.mem_of_getElem? (i := 68) (by decide +kernel))) (by decide +kernel)
theorem cc_X10_25 : Cond.classLink RX10 25 (cR 4) ∈ tg := tg_of (tbl_1 (List.mem_of_getElem? (i := 78) (by decide +kernel))) (by decide +kernel)
theorem cc_X10_32 : Cond.classLink RX10 32 (cR 5) ∈ tg := tg_of (tbl_1 (List.mem_of_getElem? (i := 91) (by decide +kernel))) (by decide +kernel)
theorem cc_X10_39 : Cond.classLink RX10 39 (cR 3) ∈ tg := tg_of (tbl_1 (List.mem_of_getElem? (i := 146) (by decide +kernel))) (by decide +kernel)
theorem cc_X10_46 : Cond.classLink RX10 46 (cR 9) ∈ tg := tg_of (tbl_1 (List.mem_of_getElem? (i := 180) (by decide +kernel))) (by decide +kernel)
theorem cc_X10_61 : Cond.classLink RX10 61 (cR 8) ∈ tg := tg_of (tbl_2 (List.mem_of_getElem? (i := 56) (by decide +kernel))) (by decide +kernel)
theorem cc_X10_68 : Cond.classLink RX10 68 (cR 1) ∈ tg := tg_of (tbl_2 (List.mem_of_getElem? (i := 97) (by decide +kernel))) (by decide +kernel)
theorem cc_X10_9 : Cond.classLink RX10 9 (cR 2) ∈ tg := tg_of (tbl_1 (List.mem_of_getElem? (i := 29) (by decide +kernel))) (by decide +kernel)
theorem cd_X1 : Cond.initialized (cR 1) ∈ tg := tg_of (tbl_1 (List.mem_of_getElem? (i := 11) (by decide +kernel))) (by decide +kernel)
theorem cd_X2 : Cond.initialized (cR 2) ∈ tg := tg_of (tbl_1 (List.mem_of_getElem? (i := 2) (by decide +kernel))) (by decide +kernel)
theorem cd_X3 : Cond.initialized (cR 3) ∈ tg := tg_of (tbl_1 (List.mem_of_getElem? (i := 6) (by decide +kernel))) (by decide +kernel)
theorem cd_X4 : Cond.initialized (cR 4) ∈ tg := tg_of (tbl_1 (List.mem_of_getElem? (i := 4) (by decide +kernel))) (by decide +kernel)
theorem cd_X7 : Cond.initialized (cR 7) ∈ tg := tg_of (tbl_1 (List.mem_of_getElem? (i := 3) (by decide +kernel))) (by decide +kernel)
theorem cd_X9 : Cond.initialized (cR 9) ∈ tg := tg_of (tbl_1 (List.mem_of_getElem? (i := 7) (by decide +kernel))) (by decide +kernel)
theorem cf_X10_12 : Cond.fieldLink RX10 12 (cT 10 0).1 (cT 10 0).2.1 (cT 10 0).2.2.1 ∈ tg := tg_of (tbl_2 (List.mem_of_getElem? (i := 148) (by decide +kernel))) (by decide +kernel)
theorem cf_X10_21 : Cond.fieldLink RX10 21 (cT 10 1).1 (cT 10 1).2.1 (cT 10 1).2.2.1 ∈ tg := tg_of (tbl_2 (List.mem_of_getElem? (i := 149) (by decide +kernel))) (by decide +kernel)
theorem cf_X10_28 : Cond.fieldLink RX10 28 (cT 10 2).1 (cT 10 2).2.1 (cT 10 2).2.2.1 ∈ tg := tg_of (tbl_2 (List.mem_of_getElem? (i := 150) (by decide +kernel))) (by decide +kernel)
theorem cf_X10_35 : Cond.fieldLink RX10 35 (cT 10 3).1 (cT 10 3).2.1 (cT 10 3).2.2.1 ∈ tg := tg_of (tbl_2 (List.mem_of_getElem? (i := 151) (by decide +kernel))) (by decide +kernel)
theorem cf_X10_41 : Cond.fieldLink RX10 41 (cT 10 4).1 (cT 10 4).2.1 (cT 10 4).2.2.1 ∈ tg := tg_of (tbl_2 (List.mem_of_getElem? (i := 152) (by decide +kernel))) (by decide +kernel)
theorem cf_X10_49 : Cond.fieldLink RX10 49 (cT 10 6).1 (cT 10 6).2.1 (cT 10 6).2.2.1 ∈ tg := tg_of (tbl_2 (List.mem_of_getElem? (i := 154) (by decide +kernel))) (by decide +kernel)
theorem cf_X10_53 : Cond.fieldLink RX10 53 (cT 10 7).1 (cT 10 7).2.1 (cT 10 7).2.2.1 ∈ tg := tg_of (tbl_2 (List.mem_of_getElem? (i := 155) (by decide +kernel))) (by decide +kernel)
theorem cf_X10_57 : Cond.fieldLink RX10 57 (cT 10 8).1 (cT 10 8).2.1 (cT 10 8).2.2.1 ∈ tg := tg_of (tbl_2 (List.mem_of_getElem? (i := 156) (by decide +kernel))) (by decide +kernel)
theorem cf_X10_64 : Cond.fieldLink RX10 64 (cT 10 9).1 (cT 10 9).2.1 (cT 10 9).2.2.1 ∈ tg := tg_of (tbl_2 (List.mem_of_getElem? (i := 157) (by decide +kernel))) (by decide +kernel)
theorem cf_X10_73 : Cond.fieldLink RX10 73 (cT 10 10).1 (cT 10 10).2.1 (cT 10 10).2.2.1 ∈ tg := tg_of (tbl_2 (List.mem_of_getElem? (i := 158) (by decide +kernel))) (by decide +kernel)
theorem cg_X10_12 : FL RX10 12 10 0 := ⟨by decide, Or.inl (tg_of (tbl_2 (List.mem_of_getElem? (i := 148) (by decide +kernel))) (by decide +kernel))⟩
theorem cg_X10_41 : FL RX10 41 10 4 := ⟨by decide, Or.inl (tg_of (tbl_2 (List.mem_of_getElem? (i := 152) (by decide +kernel))) (by decide +kernel))⟩
theorem cg_X10_49 : FL RX10 49 10 6 := ⟨by decide, Or.inl (tg_of (tbl_2 (List.mem_of_getElem? (i := 154) (by decide +kernel))) (by decide +kernel))⟩
theorem cg_X10_53 : FL RX10 53 10 7 := ⟨by decide, Or.inl (tg_of (tbl_2 (List.mem_of_getElem? (i := 155) (by decide +kernel))) (by decide +kernel))⟩
theorem ci_X10_11 : CI RX10 11 yX2_init cX2_init 1 0 := ⟨Or.inr ⟨"SunTable", nw_of (tbl_1 (List.mem_of_getElem? (i := 31) (by decide +kernel))) rfl⟩, tg_of (tbl_1 (List.mem_of_getElem? (i := 32) (by decide +kernel))) (by decide +kernel), tg_of (tbl_1 (List.mem_of_getElem? (i := 2) (by decide +kernel))) (by decide +kernel), tg_of (tbl_1 (List.mem_of_getElem? (i := 33) (by decide +kernel))) (by decide +kernel), rfl, ⟨by decide, by decide, by decide +kernel⟩, by decide⟩
theorem ci_X10_18 : CI RX10 18 yX7_init cX7_init 2 1 := ⟨Or.inl (tg_of (tbl_1 (List.mem_of_getElem? (i := 70) (by decide +kernel))) (by decide +kernel)), tg_of (tbl_1 (List.mem_of_getElem? (i := 71) (by decide +kernel))) (by decide +kernel), tg_of (tbl_1 (List.mem_of_getElem? (i := 3) (by decide +kernel))) (by decide +kernel), tg_of (tbl_1 (List.mem_of_getElem? (i := 72) (by decide +kernel))) (by decide +kernel), rfl, ⟨by decide, by decide, by decide +kernel⟩, by decide⟩
theorem ci_X10_27 : CI RX10 27 yX4_init cX4_init 2 1 := ⟨Or.inl (tg_of (tbl_1 (List.mem_of_getElem? (i := 80) (by decide +kernel))) (by decide +kernel)), tg_of (tbl_1 (List.mem_of_getElem? (i := 81) (by decide +kernel))) (by decide +kernel), tg_of (tbl_1 (List.mem_of_getElem? (i := 4) (by decide +kernel))) (by decide +kernel), tg_of (tbl_1 (List.mem_of_getElem? (i := 82) (by decide +kernel))) (by decide +kernel), rfl, ⟨by decide, by decide, by decide +kernel⟩, by decide⟩
theorem ci_X10_34 : CI RX10 34 yX5_init cX5_init 1 0 := ⟨Or.inr ⟨"SunTable", nw_of (tbl_1 (List.mem_of_getElem? (i := 93) (by decide +kernel))) rfl⟩, tg_of (tbl_1 (List.mem_of_getElem? (i := 94) (by decide +kernel))) (by decide +kernel), tg_of (tbl_1 (List.mem_of_getElem? (i := 5) (by decide +kernel))) (by decide +kernel), tg_of (tbl_1 (List.mem_of_getElem? (i := 95) (by decide +kernel))) (by decide +kernel), rfl, ⟨by decide, by decide, by decide +kernel⟩, by decide⟩
theorem ci_X10_45 : CI RX10 45 yX3_init cX3_init 1 0 := ⟨Or.inr ⟨"SunTable", nw_of (tbl_1 (List.mem_of_getElem? (i := 149) (by decide +kernel))) rfl⟩, tg_of (tbl_1 (List.mem_of_getElem? (i := 150) (by decide +kernel))) (by decide +kernel), tg_of (tbl_1 (List.mem_of_getElem? (i := 6) (by decide +kernel))) (by decide +kernel), tg_of (tbl_1 (List.mem_of_getElem? (i := 151) (by decide +kernel))) (by decide +kernel), rfl, ⟨by decide, by decide, by decide +kernel⟩, by decide⟩
theorem ci_X10_48 : CI RX10 48 yX9_init cX9_init 1 0 := ⟨Or.inr ⟨"SunTable", nw_of (tbl_1 (List.mem_of_getElem? (i := 182) (by decide +kernel))) rfl⟩, tg_of (tbl_1 (List.mem_of_getElem? (i := 183) (by decide +kernel))) (by decide +kernel), tg_of (tbl_1 (List.mem_of_getElem? (i := 7) (by decide +kernel))) (by decide +kernel), tg_of (tbl_1 (List.mem_of_getElem? (i := 184) (by decide +kernel))) (by decide +kernel), rfl, ⟨by decide, by decide, by decide +kernel⟩, by decide⟩
theorem ci_X10_63 : CI RX10 63 yX8_init cX8_init 1 0 := ⟨Or.inr ⟨"SunTable", nw_of (tbl_2 (List.mem_of_getElem? (i := 58) (by decide +kernel))) rfl⟩, tg_of (tbl_2 (List.mem_of_getElem? (i := 59) (by decide +kernel))) (by decide +kernel), tg_of (tbl_1 (List.mem_of_getElem? (i := 10) (by decide +kernel))) (by decide +kernel), tg_of (tbl_2 (List.mem_of_getElem? (i := 60) (by decide +kernel))) (by decide +kernel), rfl, ⟨by decide, by decide, by decide +kernel⟩, by decide⟩
theorem ci_X10_70 : CI RX10 70 yX1_init cX1_init 4 2 := ⟨Or.inl (tg_of (tbl_2 (List.mem_of_getElem? (i := 99) (by decide +kernel))) (by decide +kernel)), tg_of (tbl_2 (List.mem_of_getElem? (i := 100) (by decide +kernel))) (by decide +kernel), tg_of (tbl_1 (List.mem_of_getElem? (i := 11) (by decide +kernel))) (by decide +kernel), tg_of (tbl_2 (List.mem_of_getElem? (i := 101) (by decide +kernel))) (by decide +kernel), rfl, ⟨by decide, by decide, by decide +kernel⟩, by decide⟩
theorem cn_X1 : Cond.instantiable (cR 1) (cN 1) ∈ tg := tg_of (tbl_2 (List.mem_of_getElem? (i := 98) (by decide +kernel))) (by decide +kernel)
theorem cn_X2 : Cond.instantiable (cR 2) (cN 2) ∈ tg := tg_of (tbl_1 (List.mem_of_getElem? (i := 30) (by decide +kernel))) (by decide +kernel)
theorem cn_X3 : Cond.instantiable (cR 3) (cN 3) ∈ tg := tg_of (tbl_1 (List.mem_of_getElem? (i := 148) (by decide +kernel))) (by decide +kernel)
theorem cn_X4 : Cond.instantiable (cR 4) (cN 4) ∈ tg := tg_of (tbl_1 (List.mem_of_getElem? (i := 79) (by decide +kernel))) (by decide +kernel)
theorem cn_X7 : Cond.instantiable (cR 7) (cN 7) ∈ tg := tg_of (tbl_1 (List.mem_of_getElem? (i := 69) (by decide +kernel))) (by decide +kernel)
theorem cn_X9 : Cond.instantiable (cR 9) (cN 9) ∈ tg := tg_of (tbl_1 (List.mem_of_getElem? (i := 181) (by decide +kernel))) (by decide +kernel)
theorem co_X10_3 : Cond.methodLink RX10 3 objectInit ∈ tg := tg_of (tbl_1 (List.mem_of_getElem? (i := 26) (by decide +kernel))) (by decide +kernel)
def srS (j : Nat) : List LA := (List.range j).flatMap (fun j => (3, j, 0, 0) :: ctS3 (j))
theorem srS_succ (j : Nat) : srS (j + 1) = srS j ++ ((3, j, 0, 0) :: ctS3 (j)) := by
  unfold srS
  rw [List.range_succ, List.flatMap_append, List.flatMap_singleton]
def srF (G : Gt) (j : Nat) : Nat → Option Nat := fun k => if k < j then some (ad G (3, k, 0, 0)) else none
theorem srF_up (G : Gt) (j : Nat) : va_up (srF G j) j (some (ad G (3, j, 0, 0))) = srF G (j + 1) := by
  funext k
  unfold va_up srF
  by_cases h : k = j
  · subst h
    rw [if_pos rfl, if_pos (Nat.lt_succ_self k)]
  · rw [if_neg h]
    by_cases h2 : k < j
    · rw [if_pos h2, if_pos (by omega)]
    · rw [if_neg h2, if_neg (by omega)]
set_option maxRecDepth 100000 in
set_option maxHeartbeats 8000000 in
theorem sr_loop {p : Program} {l : Launch} {e : Env} {s : State} {m : MethodId} {args : Array Value} {below : List Frame} {meth : Method} {c : Code} {A : Nat → Prop} {G : Gt} {B t k0 : Nat} {S0 : List LA} {t1 p1 : Nat} {E : LA → va_E} {Q : State → Prop} (C : Cz p l e (rmC 4 862 16000) s m args below meth c A 2 cX10_init RX10 G B 4)
    (hl0 : (lyG G)[p1]? = some (10, 0, 5, 0)) (hl1 : p1 < t1) (ht1 : t ≤ t1) (hln : ∀ j, j < 6 → (lyG G)[t1 + 7 * j]? = some (3, j, 0, 0)) (hl : ∀ j, j < 6 → ∀ (q : Nat) (la : LA), (ctS3 j)[q]? = some la → (lyG G)[t1 + 7 * j + 1 + q]? = some la) (hk0 : (lyG G)[k0]? = some (10, 0, 0, 0)) (hlt : k0 < t)
    (kk : J (p, l, e, (rmC 4 862 16000), s, m, args, below, meth, c, A, 2, Q, 24 + 7 * 6, 2265 + 908 * 6) (RepC G B (t1 + 7 * 6) (setE (nE G (S0 ++ srS 6) E (10, 0, 0, 0) (.inr (10, [Value.ref (ad G (2, 0, 0, 0)), Value.ref (ad G (7, 0, 0, 0)), Value.ref (ad G (4, 0, 0, 0)), Value.ref (ad G (5, 5, 0, 0)), Value.ref (ad G (10, 0, 5, 0)), Value.int 0, Value.null, Value.null, Value.null, Value.null, Value.null]))) (10, 0, 5, 0) (.inl (G.2.2.1 5, 6, .inr (.inr (.inr (.inr (srF G 6)))))))) 92 [(0, .ref (ad G (10, 0, 0, 0)))] []) :
    ∀ (n j : Nat), j + n = 6 → J (p, l, e, (rmC 4 862 16000), s, m, args, below, meth, c, A, 2, Q, 24 + 7 * j, 2265 + 908 * j) (RepC G B (t1 + 7 * j) (setE (nE G (S0 ++ srS j) E (10, 0, 0, 0) (.inr (10, [Value.ref (ad G (2, 0, 0, 0)), Value.ref (ad G (7, 0, 0, 0)), Value.ref (ad G (4, 0, 0, 0)), Value.ref (ad G (5, 5, 0, 0)), Value.ref (ad G (10, 0, 5, 0)), Value.int 0, Value.null, Value.null, Value.null, Value.null, Value.null]))) (10, 0, 5, 0) (.inl (G.2.2.1 5, 6, .inr (.inr (.inr (.inr (srF G j)))))))) 67 [(0, .ref (ad G (10, 0, 0, 0))), (1, .int (nI j))] [] := by
  have hB : GB G B A := C.2.2.2.2.2.2.2.1
  have hG : Gok G A := C.2.2.2.2.2.2.2.2.2.2.2.2.2.2
  intro n
  induction n with
  | zero =>
    intro j hj
    have hj : j = 6 := by omega
    subst hj
    refine j_iload_n (C.x (D := D0) (by decide) (by decide)) 1 dX10_init_67 rfl rfl ?_
    refine j_bipush (C.x (D := D0) (by decide) (by decide)) (6 : Int32) (by decide) dX10_init_68 ?_
    refine j_icmp_ge (C.x (D := D0) (by decide) (by decide)) 92 dX10_init_70 (by decide) (fun _ => ?_) (fun h => absurd h (by decide))
    exact j_sub [0] _ rfl kk
  | succ n ih =>
    intro j hj
    have hjN : j < 6 := by omega
    have h1 : 24 + 7 * j ≤ ((rmC 4 862 16000)).cells := by simp only [rmC]; omega
    have h2 : 2265 + 908 * j ≤ ((rmC 4 862 16000)).slots := by simp only [rmC]; omega
    have hne : ¬ (6 : Int32) ≤ nI j := by
      have e4 : (6 : Int32).toInt = 6 := by decide
      rw [Int32.le_iff_toInt_le, nI_toInt (by omega), e4]
      omega
    refine j_iload_n (C.x (D := D0) h1 h2) 1 dX10_init_67 rfl rfl ?_
    refine j_bipush (C.x (D := D0) h1 h2) (6 : Int32) (by decide) dX10_init_68 ?_
    refine j_icmp_ge (C.x (D := D0) h1 h2) 92 dX10_init_70 (by decide) (fun h => absurd h hne) (fun _ => ?_)
    refine j_aload_n (C.x (D := D0) h1 h2) 0 dX10_init_73 rfl rfl ?_
    refine c_get C cg_X10_41 hk0 (by omega) ((setE_ne (by decide)).trans nE_at) (by decide) rfl dX10_init_74 ?_
    refine j_iload_n (C.x (D := D0) h1 h2) 1 dX10_init_77 rfl rfl ?_
    refine c_new C (ci := 3) (3, j, 0, 0) (hln j hjN) (by decide) cc_X10_39 cn_X3 cd_X3 (by simp only [rmC]; omega) (by simp only [rmC, cN]; omega) dX10_init_78 ?_
    have h3 : 24 + 7 * j + 1 ≤ ((rmC 4 862 16000)).cells := by simp only [rmC]; omega
    have h4 : 2265 + 908 * j + cN 3 ≤ ((rmC 4 862 16000)).slots := by simp only [rmC, cN]; omega
    refine j_dup (C.x (D := D0) h3 h4) rfl dX10_init_81 ?_
    refine c_init C (lv' := 1) (la := (3, j, 0, 0)) (mc := 6) (ms := 900) [] [.ref (ad G (3, j, 0, 0)), .int (nI j), .ref (ad G (10, 0, 5, 0))] ci_X10_45 (ci_X3 (lv := 1) (n := j) (t := t1 + 7 * j + 1) (k0 := t1 + 7 * j) hB hG (hl j hjN) (hln j hjN) (by omega) setE_eq) (by decide) dX10_init_82 rfl rfl (Nat.le_of_ble_eq_true rfl) (by simp only [rmC]; omega) (by simp only [rmC, cN]; omega) ?_
    refine c_E (Eb := setE (nE G (S0 ++ srS (j + 1)) E (10, 0, 0, 0) (.inr (10, [Value.ref (ad G (2, 0, 0, 0)), Value.ref (ad G (7, 0, 0, 0)), Value.ref (ad G (4, 0, 0, 0)), Value.ref (ad G (5, 5, 0, 0)), Value.ref (ad G (10, 0, 5, 0)), Value.int 0, Value.null, Value.null, Value.null, Value.null, Value.null]))) (10, 0, 5, 0) (.inl (G.2.2.1 5, 6, .inr (.inr (.inr (.inr (srF G j))))))) (by rw [srS_succ, ← List.append_assoc]; exact ovl_2 (by simp [ctS3]) (by simp [ctS3])) ?_
    have h5 : 24 + 7 * j + 1 + 6 ≤ ((rmC 4 862 16000)).cells := by simp only [rmC]; omega
    have h6 : 2265 + 908 * j + cN 3 + 900 ≤ ((rmC 4 862 16000)).slots := by simp only [rmC, cN]; omega
    have e6 : (setE (nE G (S0 ++ srS (j + 1)) E (10, 0, 0, 0) (.inr (10, [Value.ref (ad G (2, 0, 0, 0)), Value.ref (ad G (7, 0, 0, 0)), Value.ref (ad G (4, 0, 0, 0)), Value.ref (ad G (5, 5, 0, 0)), Value.ref (ad G (10, 0, 5, 0)), Value.int 0, Value.null, Value.null, Value.null, Value.null, Value.null]))) (10, 0, 5, 0) (.inl (G.2.2.1 5, 6, .inr (.inr (.inr (.inr (srF G j))))))) (3, j, 0, 0) = .inr (3, fvs G D0 (3, j, 0, 0) (fk 3)) := by
      rw [setE_ne (by simp)]
      unfold nE
      rw [setE_ne (by simp), ovl_in (by rw [srS_succ]; exact List.mem_append_right _ (List.mem_append_right _ List.mem_cons_self))]
      rfl
    refine c_aast C hl0 (by omega) (hln j hjN) (by omega) setE_eq e6 (by decide) rfl (inB_iff.mpr (by rw [nI_toInt (by omega)]; omega)) (nI_clamp (by omega)) dX10_init_85 ?_
    refine c_E (Eb := setE (nE G (S0 ++ srS (j + 1)) E (10, 0, 0, 0) (.inr (10, [Value.ref (ad G (2, 0, 0, 0)), Value.ref (ad G (7, 0, 0, 0)), Value.ref (ad G (4, 0, 0, 0)), Value.ref (ad G (5, 5, 0, 0)), Value.ref (ad G (10, 0, 5, 0)), Value.int 0, Value.null, Value.null, Value.null, Value.null, Value.null]))) (10, 0, 5, 0) (.inl (G.2.2.1 5, 6, .inr (.inr (.inr (.inr (srF G (j + 1)))))))) (by rw [srF_up]; exact setE_2) ?_
    refine j_iinc (C.x (D := D0) h5 h6) 1 [(1, .int (nI (j + 1))), (0, .ref (ad G (10, 0, 0, 0)))] dX10_init_86 rfl (Nat.le_of_ble_eq_true rfl) (by rw [← nI_1]; rfl) rfl ?_
    refine j_goto (C.x (D := D0) h5 h6) 67 dX10_init_89 (by decide) ?_
    refine j_sub [1, 0] [(0, .ref (ad G (10, 0, 0, 0))), (1, .int (nI (j + 1)))] rfl ?_
    have k := ih (j + 1) (by omega)
    rw [show t1 + 7 * (j + 1) = t1 + 7 * j + 1 + 6 by omega, show 24 + 7 * (j + 1) = 24 + 7 * j + 1 + 6 by omega, show 2265 + 908 * (j + 1) = 2265 + 908 * j + cN 3 + 900 by simp only [cN]; omega] at k
    exact k
def siS (j : Nat) : List LA := (List.range j).flatMap (fun j => (9, j + 1, 0, 0) :: ctS9 (j + 1))
theorem siS_succ (j : Nat) : siS (j + 1) = siS j ++ ((9, j + 1, 0, 0) :: ctS9 (j + 1)) := by
  unfold siS
  rw [List.range_succ, List.flatMap_append, List.flatMap_singleton]
def siF (G : Gt) (j : Nat) : Nat → Option Nat := fun k => if k < j then some (ad G (9, k + 1, 0, 0)) else none
theorem siF_up (G : Gt) (j : Nat) : va_up (siF G j) j (some (ad G (9, j + 1, 0, 0))) = siF G (j + 1) := by
  funext k
  unfold va_up siF
  by_cases h : k = j
  · subst h
    rw [if_pos rfl, if_pos (Nat.lt_succ_self k)]
  · rw [if_neg h]
    by_cases h2 : k < j
    · rw [if_pos h2, if_pos (by omega)]
    · rw [if_neg h2, if_neg (by omega)]
set_option maxRecDepth 100000 in
set_option maxHeartbeats 8000000 in
theorem si_loop {p : Program} {l : Launch} {e : Env} {s : State} {m : MethodId} {args : Array Value} {below : List Frame} {meth : Method} {c : Code} {A : Nat → Prop} {G : Gt} {B t k0 : Nat} {S0 : List LA} {t1 p1 : Nat} {E : LA → va_E} {Q : State → Prop} (C : Cz p l e (rmC 4 862 16000) s m args below meth c A 2 cX10_init RX10 G B 4)
    (hl0 : (lyG G)[p1]? = some (10, 0, 8, 0)) (hl1 : p1 < t1) (ht1 : t ≤ t1) (hln : ∀ j, j < 4 → (lyG G)[t1 + 148 * j]? = some (9, j + 1, 0, 0)) (hl : ∀ j, j < 4 → HW G (j + 1) (t1 + 148 * j + 1)) (hk0 : (lyG G)[k0]? = some (10, 0, 0, 0)) (hlt : k0 < t)
    (kk : J (p, l, e, (rmC 4 862 16000), s, m, args, below, meth, c, A, 2, Q, 215 + 148 * 4, 9226 + 1509 * 4) (RepC G B (t1 + 148 * 4) (setE (nE G (S0 ++ siS 4) E (10, 0, 0, 0) (.inr (10, [Value.ref (ad G (2, 0, 0, 0)), Value.ref (ad G (7, 0, 0, 0)), Value.ref (ad G (4, 0, 0, 0)), Value.ref (ad G (5, 5, 0, 0)), Value.ref (ad G (10, 0, 5, 0)), Value.int 0, Value.ref (ad G (9, 0, 0, 0)), Value.ref (ad G (10, 0, 8, 0)), Value.null, Value.null, Value.null]))) (10, 0, 8, 0) (.inl (G.2.2.1 6, 4, .inr (.inr (.inr (.inr (siF G 4)))))))) 137 [(0, .ref (ad G (10, 0, 0, 0)))] []) :
    ∀ (n j : Nat), j + n = 4 → J (p, l, e, (rmC 4 862 16000), s, m, args, below, meth, c, A, 2, Q, 215 + 148 * j, 9226 + 1509 * j) (RepC G B (t1 + 148 * j) (setE (nE G (S0 ++ siS j) E (10, 0, 0, 0) (.inr (10, [Value.ref (ad G (2, 0, 0, 0)), Value.ref (ad G (7, 0, 0, 0)), Value.ref (ad G (4, 0, 0, 0)), Value.ref (ad G (5, 5, 0, 0)), Value.ref (ad G (10, 0, 5, 0)), Value.int 0, Value.ref (ad G (9, 0, 0, 0)), Value.ref (ad G (10, 0, 8, 0)), Value.null, Value.null, Value.null]))) (10, 0, 8, 0) (.inl (G.2.2.1 6, 4, .inr (.inr (.inr (.inr (siF G j)))))))) 113 [(0, .ref (ad G (10, 0, 0, 0))), (1, .int (nI j))] [] := by
  have hB : GB G B A := C.2.2.2.2.2.2.2.1
  have hG : Gok G A := C.2.2.2.2.2.2.2.2.2.2.2.2.2.2
  intro n
  induction n with
  | zero =>
    intro j hj
    have hj : j = 4 := by omega
    subst hj
    refine j_iload_n (C.x (D := D0) (by decide) (by decide)) 1 dX10_init_113 rfl rfl ?_
    refine j_iconst (C.x (D := D0) (by decide) (by decide)) (4 : Int32) (by decide) dX10_init_114 ?_
    refine j_icmp_ge (C.x (D := D0) (by decide) (by decide)) 137 dX10_init_115 (by decide) (fun _ => ?_) (fun h => absurd h (by decide))
    exact j_sub [0] _ rfl kk
  | succ n ih =>
    intro j hj
    have hjN : j < 4 := by omega
    have h1 : 215 + 148 * j ≤ ((rmC 4 862 16000)).cells := by simp only [rmC]; omega
    have h2 : 9226 + 1509 * j ≤ ((rmC 4 862 16000)).slots := by simp only [rmC]; omega
    have hne : ¬ (4 : Int32) ≤ nI j := by
      have e4 : (4 : Int32).toInt = 4 := by decide
      rw [Int32.le_iff_toInt_le, nI_toInt (by omega), e4]
      omega
    refine j_iload_n (C.x (D := D0) h1 h2) 1 dX10_init_113 rfl rfl ?_
    refine j_iconst (C.x (D := D0) h1 h2) (4 : Int32) (by decide) dX10_init_114 ?_
    refine j_icmp_ge (C.x (D := D0) h1 h2) 137 dX10_init_115 (by decide) (fun h => absurd h hne) (fun _ => ?_)
    refine j_aload_n (C.x (D := D0) h1 h2) 0 dX10_init_118 rfl rfl ?_
    refine c_get C cg_X10_53 hk0 (by omega) ((setE_ne (by decide)).trans nE_at) (by decide) rfl dX10_init_119 ?_
    refine j_iload_n (C.x (D := D0) h1 h2) 1 dX10_init_122 rfl rfl ?_
    refine c_new C (ci := 9) (9, j + 1, 0, 0) (hln j hjN) (by decide) cc_X10_46 cn_X9 cd_X9 (by simp only [rmC]; omega) (by simp only [rmC, cN]; omega) dX10_init_123 ?_
    have h3 : 215 + 148 * j + 1 ≤ ((rmC 4 862 16000)).cells := by simp only [rmC]; omega
    have h4 : 9226 + 1509 * j + cN 9 ≤ ((rmC 4 862 16000)).slots := by simp only [rmC, cN]; omega
    refine j_dup (C.x (D := D0) h3 h4) rfl dX10_init_126 ?_
    refine c_init C (lv' := 3) (la := (9, j + 1, 0, 0)) (mc := 147) (ms := 1500) [] [.ref (ad G (9, j + 1, 0, 0)), .int (nI j), .ref (ad G (10, 0, 8, 0))] ci_X10_48 (ci_W (w := j + 1) (t := t1 + 148 * j + 1) (k0 := t1 + 148 * j) hB hG (hl j hjN) (hln j hjN) (by omega) setE_eq) (by decide) dX10_init_127 rfl rfl (Nat.le_of_ble_eq_true rfl) (by simp only [rmC]; omega) (by simp only [rmC, cN]; omega) ?_
    refine c_E (Eb := setE (nE G (S0 ++ siS (j + 1)) E (10, 0, 0, 0) (.inr (10, [Value.ref (ad G (2, 0, 0, 0)), Value.ref (ad G (7, 0, 0, 0)), Value.ref (ad G (4, 0, 0, 0)), Value.ref (ad G (5, 5, 0, 0)), Value.ref (ad G (10, 0, 5, 0)), Value.int 0, Value.ref (ad G (9, 0, 0, 0)), Value.ref (ad G (10, 0, 8, 0)), Value.null, Value.null, Value.null]))) (10, 0, 8, 0) (.inl (G.2.2.1 6, 4, .inr (.inr (.inr (.inr (siF G j))))))) (by rw [siS_succ, ← List.append_assoc]; exact ovl_2 (w9_no 0 (k := 0) (Or.inr trivial)) (w9_no 8 (k := 0) (Or.inr trivial))) ?_
    have h5 : 215 + 148 * j + 1 + 147 ≤ ((rmC 4 862 16000)).cells := by simp only [rmC]; omega
    have h6 : 9226 + 1509 * j + cN 9 + 1500 ≤ ((rmC 4 862 16000)).slots := by simp only [rmC, cN]; omega
    have e6 : (setE (nE G (S0 ++ siS (j + 1)) E (10, 0, 0, 0) (.inr (10, [Value.ref (ad G (2, 0, 0, 0)), Value.ref (ad G (7, 0, 0, 0)), Value.ref (ad G (4, 0, 0, 0)), Value.ref (ad G (5, 5, 0, 0)), Value.ref (ad G (10, 0, 5, 0)), Value.int 0, Value.ref (ad G (9, 0, 0, 0)), Value.ref (ad G (10, 0, 8, 0)), Value.null, Value.null, Value.null]))) (10, 0, 8, 0) (.inl (G.2.2.1 6, 4, .inr (.inr (.inr (.inr (siF G j))))))) (9, j + 1, 0, 0) = .inr (9, fvs G D0 (9, j + 1, 0, 0) (fk 9)) := by
      rw [setE_ne (by simp)]
      unfold nE
      rw [setE_ne (by simp), ovl_in (by rw [siS_succ]; exact List.mem_append_right _ (List.mem_append_right _ List.mem_cons_self))]
      rfl
    refine c_aast C hl0 (by omega) (hln j hjN) (by omega) setE_eq e6 (by decide) rfl (inB_iff.mpr (by rw [nI_toInt (by omega)]; omega)) (nI_clamp (by omega)) dX10_init_130 ?_
    refine c_E (Eb := setE (nE G (S0 ++ siS (j + 1)) E (10, 0, 0, 0) (.inr (10, [Value.ref (ad G (2, 0, 0, 0)), Value.ref (ad G (7, 0, 0, 0)), Value.ref (ad G (4, 0, 0, 0)), Value.ref (ad G (5, 5, 0, 0)), Value.ref (ad G (10, 0, 5, 0)), Value.int 0, Value.ref (ad G (9, 0, 0, 0)), Value.ref (ad G (10, 0, 8, 0)), Value.null, Value.null, Value.null]))) (10, 0, 8, 0) (.inl (G.2.2.1 6, 4, .inr (.inr (.inr (.inr (siF G (j + 1)))))))) (by rw [siF_up]; exact setE_2) ?_
    refine j_iinc (C.x (D := D0) h5 h6) 1 [(1, .int (nI (j + 1))), (0, .ref (ad G (10, 0, 0, 0)))] dX10_init_131 rfl (Nat.le_of_ble_eq_true rfl) (by rw [← nI_1]; rfl) rfl ?_
    refine j_goto (C.x (D := D0) h5 h6) 113 dX10_init_134 (by decide) ?_
    refine j_sub [1, 0] [(0, .ref (ad G (10, 0, 0, 0))), (1, .int (nI (j + 1)))] rfl ?_
    have k := ih (j + 1) (by omega)
    rw [show t1 + 148 * (j + 1) = t1 + 148 * j + 1 + 147 by omega, show 215 + 148 * (j + 1) = 215 + 148 * j + 1 + 147 by omega, show 9226 + 1509 * (j + 1) = 9226 + 1509 * j + cN 9 + 1500 by simp only [cN]; omega] at k
    exact k
