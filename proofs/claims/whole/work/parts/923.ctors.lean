/-! ===== Past: twenty States ===== -/
def ctS0 (w : Nat) : List LA := (List.range 20).flatMap (fun j => (6, 21 * w + 1 + j, 0, 0) :: ctS6 (21 * w + 1 + j))
def psS (w j : Nat) : List LA := (List.range j).flatMap (fun j => (6, 21 * w + 1 + j, 0, 0) :: ctS6 (21 * w + 1 + j))
theorem psS_succ (w j : Nat) : psS w (j + 1) = psS w j ++ ((6, 21 * w + 1 + j, 0, 0) :: ctS6 (21 * w + 1 + j)) := by
  unfold psS
  rw [List.range_succ, List.flatMap_append, List.flatMap_singleton]
def psF (G : Gt) (w j : Nat) : Nat → Option Nat := fun k => if k < j then some (ad G (6, 21 * w + 1 + k, 0, 0)) else none
theorem psF_up (G : Gt) (w j : Nat) : va_up (psF G w j) j (some (ad G (6, 21 * w + 1 + j, 0, 0))) = psF G w (j + 1) := by
  funext k
  unfold va_up psF
  by_cases h : k = j
  · subst h
    rw [if_pos rfl, if_pos (Nat.lt_succ_self k)]
  · rw [if_neg h]
    by_cases h2 : k < j
    · rw [if_pos h2, if_pos (by omega)]
    · rw [if_neg h2, if_neg (by omega)]
theorem ovl_2 {G : Gt} {S S1 : List LA} {E : LA → va_E} {la0 la1 lb : LA} {o v b : va_E} (h0 : ¬ la0 ∈ lb :: S1) (h1 : ¬ la1 ∈ lb :: S1) : setE (nE G (S ++ (lb :: S1)) E la0 o) la1 v = ovl G (lb :: S1) (setE (setE (nE G S E la0 o) la1 v) lb b) := by
  funext l
  have e := congrFun (nE_call (G := G) (S := S) (S1 := S1) (E := E) (la0 := la0) (lb := lb) (o := o) (b := b) h0) l
  unfold setE ovl at e ⊢
  try dsimp only at e ⊢
  by_cases hl : l = la1
  · subst hl
    rw [if_pos rfl, if_neg h1, if_neg (fun h => h1 (by rw [h]; exact List.mem_cons_self)), if_pos rfl]
  · rw [if_neg hl, e]
    by_cases hm : l ∈ lb :: S1
    · rw [if_pos hm, if_pos hm]
    · rw [if_neg hm, if_neg hm, if_neg (fun h : l = lb => hm (by rw [h]; exact List.mem_cons_self)), if_neg (fun h : l = lb => hm (by rw [h]; exact List.mem_cons_self)), if_neg hl]
theorem cc_X0_9 : Cond.classLink RX0 9 (cR 6) ∈ tg := tg_of (tbl_2 (List.mem_of_getElem? (i := 5) (by decide +kernel))) (by decide +kernel)
theorem cd_X6 : Cond.initialized (cR 6) ∈ tg := tg_of (tbl_1 (List.mem_of_getElem? (i := 8) (by decide +kernel))) (by decide +kernel)
theorem cf_X0_11 : Cond.fieldLink RX0 11 (cT 0 0).1 (cT 0 0).2.1 (cT 0 0).2.2.1 ∈ tg := tg_of (tbl_2 (List.mem_of_getElem? (i := 8) (by decide +kernel))) (by decide +kernel)
theorem cg_X0_11 : FL RX0 11 0 0 := ⟨by decide, Or.inl (tg_of (tbl_2 (List.mem_of_getElem? (i := 8) (by decide +kernel))) (by decide +kernel))⟩
theorem ci_X0_17 : CI RX0 17 yX6_init cX6_init 1 0 := ⟨Or.inr ⟨"SunTable", nw_of (tbl_2 (List.mem_of_getElem? (i := 7) (by decide +kernel))) rfl⟩, tg_of (tbl_1 (List.mem_of_getElem? (i := 191) (by decide +kernel))) (by decide +kernel), tg_of (tbl_1 (List.mem_of_getElem? (i := 8) (by decide +kernel))) (by decide +kernel), tg_of (tbl_1 (List.mem_of_getElem? (i := 192) (by decide +kernel))) (by decide +kernel), rfl, ⟨by decide, by decide, by decide +kernel⟩, by decide⟩
theorem cn_X6 : Cond.instantiable (cR 6) (cN 6) ∈ tg := tg_of (tbl_1 (List.mem_of_getElem? (i := 189) (by decide +kernel))) (by decide +kernel)
theorem co_X0_3 : Cond.methodLink RX0 3 objectInit ∈ tg := tg_of (tbl_2 (List.mem_of_getElem? (i := 4) (by decide +kernel))) (by decide +kernel)
set_option maxRecDepth 100000 in
set_option maxHeartbeats 8000000 in
theorem cl_Past {p : Program} {l : Launch} {e : Env} {s : State} {m : MethodId} {args : Array Value} {below : List Frame} {meth : Method} {c : Code} {A : Nat → Prop} {G : Gt} {B t k0 w : Nat} {E : LA → va_E} {Q : State → Prop} (C : Cz p l e (rmC 2 121 680) s m args below meth c A 2 cX0_init RX0 G B 2)
    (hl0 : (lyG G)[t]? = some (0, w, 1, 0)) (hl : ∀ j q, j < 20 → q < 6 → (lyG G)[t + 1 + 6 * j + q]? = some (6, 21 * w + 1 + j, q, 0)) (hk0 : (lyG G)[k0]? = some (0, w, 0, 0)) (hlt : k0 < t)
    (kk : J (p, l, e, rmC 2 121 680, s, m, args, below, meth, c, A, 2, Q, 121, 680) (RepC G B (t + 121) (setE (nE G (psS w 20) E (0, w, 0, 0) (.inr (0, [Value.ref (ad G (0, w, 1, 0)), Value.int 0]))) (0, w, 1, 0) (.inl (G.2.2.1 4, 20, .inr (.inr (.inr (.inr (psF G w 20)))))))) 40 [] []) :
    ∀ (n j : Nat), j + n = 20 → J (p, l, e, rmC 2 121 680, s, m, args, below, meth, c, A, 2, Q, 1 + 6 * j, 20 + 33 * j) (RepC G B (t + 1 + 6 * j) (setE (nE G (psS w j) E (0, w, 0, 0) (.inr (0, [Value.ref (ad G (0, w, 1, 0)), Value.int 0]))) (0, w, 1, 0) (.inl (G.2.2.1 4, 20, .inr (.inr (.inr (.inr (psF G w j)))))))) 15 [(0, .ref (ad G (0, w, 0, 0))), (1, .int (nI j))] [] := by
  have hB : GB G B A := C.2.2.2.2.2.2.2.1
  have hG : Gok G A := C.2.2.2.2.2.2.2.2.2.2.2.2.2.2
  intro n
  induction n with
  | zero =>
    intro j hj
    have hj : j = 20 := by omega
    subst hj
    refine j_iload_n (C.x (D := D0) (by decide) (by decide)) 1 dX0_init_15 rfl rfl ?_
    refine j_bipush (C.x (D := D0) (by decide) (by decide)) (20 : Int32) (by decide) dX0_init_16 ?_
    refine j_icmp_ge (C.x (D := D0) (by decide) (by decide)) 40 dX0_init_18 (by decide) (fun _ => ?_) (fun h => absurd h (by decide))
    exact j_sub [] [] rfl kk
  | succ n ih =>
    intro j hj
    have hj20 : j < 20 := by omega
    have h1 : 1 + 6 * j ≤ (rmC 2 121 680).cells := by simp only [rmC]; omega
    have h2 : 20 + 33 * j ≤ (rmC 2 121 680).slots := by simp only [rmC]; omega
    have hne : ¬ (20 : Int32) ≤ nI j := nI_ge hj20 (by decide)
    refine j_iload_n (C.x (D := D0) h1 h2) 1 dX0_init_15 rfl rfl ?_
    refine j_bipush (C.x (D := D0) h1 h2) (20 : Int32) (by decide) dX0_init_16 ?_
    refine j_icmp_ge (C.x (D := D0) h1 h2) 40 dX0_init_18 (by decide) (fun h => absurd h hne) (fun _ => ?_)
    refine j_aload_n (C.x (D := D0) h1 h2) 0 dX0_init_21 rfl rfl ?_
    refine c_get C cg_X0_11 hk0 (by omega) ((setE_ne (by simp)).trans nE_at) (by decide) (k := 0) rfl dX0_init_22 ?_
    refine j_iload_n (C.x (D := D0) h1 h2) 1 dX0_init_25 rfl rfl ?_
    refine c_new C (ci := 6) (6, 21 * w + 1 + j, 0, 0) (hl j 0 hj20 (by decide)) (by decide) cc_X0_9 cn_X6 cd_X6 (by simp only [rmC]; omega) (by simp only [rmC, cN]; omega) dX0_init_26 ?_
    have h3 : 1 + 6 * j + 1 ≤ (rmC 2 121 680).cells := by simp only [rmC]; omega
    have h4 : 20 + 33 * j + cN 6 ≤ (rmC 2 121 680).slots := by simp only [rmC, cN]; omega
    refine j_dup (C.x (D := D0) h3 h4) rfl dX0_init_29 ?_
    refine c_init C (lv' := 1) (la := (6, 21 * w + 1 + j, 0, 0)) (mc := 5) (ms := 25) [] [.ref (ad G (6, 21 * w + 1 + j, 0, 0)), .int (nI j), .ref (ad G (0, w, 1, 0))] ci_X0_17 (ci_X6 (t := t + 1 + 6 * j + 1) (k0 := t + 1 + 6 * j) (lv := 1) hB hG (fun q la hq => by
      match q, hq with
      | 0, hq => cases hq; exact hl j 1 hj20 (by decide)
      | 1, hq => cases hq; exact hl j 2 hj20 (by decide)
      | 2, hq => cases hq; exact hl j 3 hj20 (by decide)
      | 3, hq => cases hq; exact hl j 4 hj20 (by decide)
      | 4, hq => cases hq; exact hl j 5 hj20 (by decide)
      | q + 5, hq => exact absurd hq (by simp [ctS6])) (hl j 0 hj20 (by decide)) (by omega) setE_eq) (by decide) dX0_init_30 rfl rfl (Nat.le_of_ble_eq_true rfl) (by simp only [rmC]; omega) (by simp only [rmC, cN]; omega) ?_
    refine c_E (Eb := setE (nE G (psS w (j + 1)) E (0, w, 0, 0) (.inr (0, [Value.ref (ad G (0, w, 1, 0)), Value.int 0]))) (0, w, 1, 0) (.inl (G.2.2.1 4, 20, .inr (.inr (.inr (.inr (psF G w j))))))) (by rw [psS_succ]; exact ovl_2 (by simp [ctS6]) (by simp [ctS6])) ?_
    have h5 : 1 + 6 * j + 1 + 5 ≤ (rmC 2 121 680).cells := by simp only [rmC]; omega
    have h6 : 20 + 33 * j + cN 6 + 25 ≤ (rmC 2 121 680).slots := by simp only [rmC, cN]; omega
    have e6 : (setE (nE G (psS w (j + 1)) E (0, w, 0, 0) (.inr (0, [Value.ref (ad G (0, w, 1, 0)), Value.int 0]))) (0, w, 1, 0) (.inl (G.2.2.1 4, 20, .inr (.inr (.inr (.inr (psF G w j))))))) (6, 21 * w + 1 + j, 0, 0) = .inr (6, fvs G D0 (6, 21 * w + 1 + j, 0, 0) (fk 6)) := by
      rw [setE_ne (by simp)]
      unfold nE
      rw [setE_ne (by simp), ovl_in (by rw [psS_succ]; exact List.mem_append_right _ List.mem_cons_self)]
      rfl
    refine c_aast C hl0 (by omega) (hl j 0 hj20 (by decide)) (by omega) setE_eq e6 (by decide) rfl (inB_iff.mpr (by rw [nI_toInt (by omega)]; omega)) (nI_clamp (by omega)) dX0_init_33 ?_
    refine c_E (Eb := setE (nE G (psS w (j + 1)) E (0, w, 0, 0) (.inr (0, [Value.ref (ad G (0, w, 1, 0)), Value.int 0]))) (0, w, 1, 0) (.inl (G.2.2.1 4, 20, .inr (.inr (.inr (.inr (psF G w (j + 1)))))))) (by rw [psF_up]; exact setE_2) ?_
    refine j_iinc (C.x (D := D0) h5 h6) 1 [(1, .int (nI (j + 1))), (0, .ref (ad G (0, w, 0, 0)))] dX0_init_34 rfl (Nat.le_of_ble_eq_true rfl) (by rw [← nI_1]; rfl) rfl ?_
    refine j_goto (C.x (D := D0) h5 h6) 15 dX0_init_37 (by decide) ?_
    refine j_sub [1, 0] [(0, .ref (ad G (0, w, 0, 0))), (1, .int (nI (j + 1)))] rfl ?_
    have k := ih (j + 1) (by omega)
    rw [show t + 1 + 6 * (j + 1) = t + 1 + 6 * j + 1 + 5 by omega, show 1 + 6 * (j + 1) = 1 + 6 * j + 1 + 5 by omega, show 20 + 33 * (j + 1) = 20 + 33 * j + cN 6 + 25 by simp only [cN]; omega] at k
    exact k
theorem ps_fin {G : Gt} {w : Nat} : (.inl (G.2.2.1 4, 20, .inr (.inr (.inr (.inr (psF G w 20))))) : va_E) = cellOf G D0 (0, w, 1, 0) := by
  show (.inl (G.2.2.1 4, 20, .inr (.inr (.inr (.inr _)))) : va_E) = .inl (G.2.2.1 4, 20, .inr (.inr (.inr (.inr (fun j => (D0R (0, w, 1, 0) j).map (fun n => ad G (6, n, 0, 0)))))))
  refine congrArg (fun f => (.inl (G.2.2.1 4, 20, .inr (.inr (.inr (.inr f)))) : va_E)) (funext fun k => ?_)
  unfold psF D0R
  by_cases h : k < 20
  · simp [h]
  · simp [h]
set_option maxRecDepth 100000 in
set_option maxHeartbeats 8000000 in
theorem ci_X0 {l : Launch} {G : Gt} {A : Nat → Prop} {B t k0 w : Nat} {E : LA → va_E} (hB : GB G B A) (hG : Gok G A) (hl0 : (lyG G)[t]? = some (0, w, 1, 0)) (hl : ∀ j q, j < 20 → q < 6 → (lyG G)[t + 1 + 6 * j + q]? = some (6, 21 * w + 1 + j, q, 0)) (hk0 : (lyG G)[k0]? = some (0, w, 0, 0)) (hlt : k0 < t) (aE : E (0, w, 0, 0) = blk 0) : MC l G A B 2 yX0_init cX0_init 2 [.ref (ad G (0, w, 0, 0))] t E (t + 121) (ovl G ((0, w, 0, 0) :: (psS w 20 ++ [(0, w, 1, 0)])) E) 121 680 := by
  refine mc_start RX0 hB hG (by decide +kernel) rfl rfl (Nat.le_of_ble_eq_true rfl) (L := [(0, .ref (ad G (0, w, 0, 0)))]) rfl (fun p e s m args below meth c C => ?_)
  have aE : E (0, w, 0, 0) = .inr (0, [Value.null, Value.int 0]) := aE
  refine c_E (Eb := nE G [] E (0, w, 0, 0) (.inr (0, [Value.null, Value.int 0]))) (nE_0 aE) ?_
  refine j_aload_n (C.x (D := D0) (by decide) (by decide)) 0 dX0_init_0 rfl rfl ?_
  refine c_obj C co_X0_3 (by decide) (Nat.le_of_ble_eq_true rfl) dX0_init_1 ?_
  refine j_aload_n (C.x (D := D0) (by decide) (by decide)) 0 dX0_init_4 rfl rfl ?_
  refine j_bipush (C.x (D := D0) (by decide) (by decide)) (20 : Int32) (by decide) dX0_init_5 ?_
  refine c_anew C (Cn := "SunTable$State") 4 20 (0, w, 1, 0) hl0 rfl cc_X0_9 (C.2.2.2.2.2.2.2.2.2.2.2.2.1).1 (by decide) (by decide) (by decide) (by decide) (by decide) dX0_init_7 ?_
  refine c_putK C cf_X0_11 (by decide) rfl hk0 (by omega) ((setE_ne (by simp)).trans nE_at) (by decide) (Nat.le_of_ble_eq_true rfl) rfl rfl dX0_init_10 ?_
  refine c_E (Eb := setE (nE G (psS w 0) E (0, w, 0, 0) (.inr (0, [Value.ref (ad G (0, w, 1, 0)), Value.int 0]))) (0, w, 1, 0) (.inl (G.2.2.1 4, 20, .inr (.inr (.inr (.inr (psF G w 0))))))) (by
    funext l
    unfold setE nE setE
    try dsimp only
    by_cases h1 : l = (0, w, 1, 0)
    · subst h1
      simp
      rfl
    · by_cases h2 : l = (0, w, 0, 0)
      · subst h2
        simp
      · simp [h1, h2, psS]) ?_
  refine j_iconst (C.x (D := D0) (by decide) (by decide)) (0 : Int32) (by decide) dX0_init_13 ?_
  refine j_istore_n (C.x (D := D0) (by decide) (by decide)) [(1, .int (0 : Int32)), (0, .ref (ad G (0, w, 0, 0)))] dX0_init_14 rfl (Nat.le_of_ble_eq_true rfl) rfl rfl ?_
  refine j_sub [1, 0] [(0, .ref (ad G (0, w, 0, 0))), (1, .int (nI 0))] rfl ?_
  refine cl_Past C hl0 hl hk0 hlt ?_ 20 0 rfl
  refine c_E (Eb := nE G (psS w 20 ++ [(0, w, 1, 0)]) E (0, w, 0, 0) (.inr (0, [Value.ref (ad G (0, w, 1, 0)), Value.int 0]))) (nE_add (by simp) ps_fin) ?_
  exact c_ret C (by decide) (by decide) rfl (fun k la hk hla H hv => nE_end rfl rfl hv) dX0_init_40
