theorem vp_q {cA : ClassId} {N : Nat} {f g : Nat → Option Nat} (h : ∀ j, j < N → f j = g j) : vp_cell cA (N, .inr (.inr (.inr (.inr f)))) = vp_cell cA (N, .inr (.inr (.inr (.inr g)))) := by
  rw [vp_cell_q, vp_cell_q]
  unfold arrV
  congr 2
  funext j
  show va_rf (f j.1) = va_rf (g j.1)
  rw [h j.1 j.2]
theorem c_Ev {X : Ctx} {G : Gt} {B t : Nat} {Ea Eb : LA → va_E} {pc : Nat} {L : List (Nat × Value)} {st : List Value} (h : ∀ (la : LA) (H : Heap), va_at (dG G) vwCl (ad G la, Ea la) H → va_at (dG G) vwCl (ad G la, Eb la) H) (k : J X (RepC G B t Eb) pc L st) : J X (RepC G B t Ea) pc L st := by
  obtain ⟨p, l, e, R, s, m, args, below, meth, c, A, nL, Q, cs, sl⟩ := X
  intro H locs ls h1 h2 h3
  exact k H locs ls ⟨h1.1, fun k la hk hl => h la H (h1.2 k la hk hl)⟩ h2 h3
theorem va_q {D : va_G} {cl : List vw_C} {G : Gt} {E : LA → va_E} {la1 la : LA} {cA : ClassId} {N : Nat} {f g : Nat → Option Nat} {a : Nat} {H : Heap} (h : ∀ j, j < N → f j = g j) (hv : va_at D cl (a, setE E la1 (.inl (cA, N, .inr (.inr (.inr (.inr f))))) la) H) : va_at D cl (a, setE E la1 (.inl (cA, N, .inr (.inr (.inr (.inr g))))) la) H := by
  unfold setE at hv ⊢
  by_cases hl : la = la1
  · rw [if_pos hl] at hv ⊢
    show H[a]? = some (vp_cell cA (N, .inr (.inr (.inr (.inr g)))))
    rw [← vp_q h]
    exact hv
  · rw [if_neg hl] at hv ⊢
    exact hv
theorem setE_comm {E : LA → va_E} {a b : LA} {x y : va_E} (h : ¬ a = b) : setE (setE E a x) b y = setE (setE E b y) a x := by
  funext l
  unfold setE
  by_cases h1 : l = a
  · subst h1
    simp [h]
  · by_cases h2 : l = b
    · subst h2
      simp [h1]
    · simp [h1, h2]
theorem nE_add2 {G : Gt} {S : List LA} {E : LA → va_E} {la0 la la1 : LA} {o v w : va_E} (hne : ¬ la = la0) (h1 : ¬ la1 = la) (hv : v = cellOf G D0 la) : setE (nE G (S ++ [la]) E la0 o) la1 w = setE (setE (nE G S E la0 o) la1 w) la v := by
  rw [setE_comm h1, nE_add hne hv]
theorem nE_put2 {G : Gt} {S : List LA} {E : LA → va_E} {la0 la1 : LA} {o o' w : va_E} (h1 : ¬ la1 = la0) : setE (nE G S E la0 o') la1 w = setE (setE (nE G S E la0 o) la1 w) la0 o' := by
  rw [setE_comm h1, ← nE_put]
theorem nE_mn2 {G : Gt} {S rs : List LA} {E : LA → va_E} {la0 la la1 : LA} {o vo vi w : va_E} (hne : ¬ la = la0) (h0 : ¬ la0 ∈ rs) (h1 : ¬ la1 = la) (h2 : ¬ la1 ∈ rs) (hv : vo = cellOf G D0 la) (hi : ∀ r ∈ rs, vi = cellOf G D0 r) : setE (nE G (S ++ (la :: rs)) E la0 o) la1 w = mnE (setE (nE G S E la0 o) la1 w) la rs vo vi := by
  rw [nE_mn hne h0 hv hi]
  funext l
  unfold mnE setE
  by_cases h : l = la1
  · subst h
    simp [h1, h2]
  · simp [h]
theorem cc_X1_18 : Cond.classLink RX1 18 (cR 6) ∈ tg := tg_of (tbl_2 (List.mem_of_getElem? (i := 105) (by decide +kernel))) (by decide +kernel)
theorem cc_X1_40 : Cond.classLink RX1 40 ("[" ++ (FieldType.array .int).toString) ∈ tg := tg_of (tbl_2 (List.mem_of_getElem? (i := 107) (by decide +kernel))) (by decide +kernel)
theorem cc_X1_9 : Cond.classLink RX1 9 (cR 8) ∈ tg := tg_of (tbl_2 (List.mem_of_getElem? (i := 103) (by decide +kernel))) (by decide +kernel)
theorem cd_X8 : Cond.initialized (cR 8) ∈ tg := tg_of (tbl_1 (List.mem_of_getElem? (i := 10) (by decide +kernel))) (by decide +kernel)
theorem cf_X1_12 : Cond.fieldLink RX1 12 (cT 1 2).1 (cT 1 2).2.1 (cT 1 2).2.2.1 ∈ tg := tg_of (tbl_2 (List.mem_of_getElem? (i := 110) (by decide +kernel))) (by decide +kernel)
theorem cf_X1_21 : Cond.fieldLink RX1 21 (cT 1 3).1 (cT 1 3).2.1 (cT 1 3).2.2.1 ∈ tg := tg_of (tbl_2 (List.mem_of_getElem? (i := 111) (by decide +kernel))) (by decide +kernel)
theorem cf_X1_25 : Cond.fieldLink RX1 25 (cT 1 4).1 (cT 1 4).2.1 (cT 1 4).2.2.1 ∈ tg := tg_of (tbl_2 (List.mem_of_getElem? (i := 112) (by decide +kernel))) (by decide +kernel)
theorem cf_X1_29 : Cond.fieldLink RX1 29 (cT 1 5).1 (cT 1 5).2.1 (cT 1 5).2.2.1 ∈ tg := tg_of (tbl_2 (List.mem_of_getElem? (i := 113) (by decide +kernel))) (by decide +kernel)
theorem cf_X1_33 : Cond.fieldLink RX1 33 (cT 1 6).1 (cT 1 6).2.1 (cT 1 6).2.2.1 ∈ tg := tg_of (tbl_2 (List.mem_of_getElem? (i := 114) (by decide +kernel))) (by decide +kernel)
theorem cf_X1_36 : Cond.fieldLink RX1 36 (cT 1 7).1 (cT 1 7).2.1 (cT 1 7).2.2.1 ∈ tg := tg_of (tbl_2 (List.mem_of_getElem? (i := 116) (by decide +kernel))) (by decide +kernel)
theorem cf_X1_42 : Cond.fieldLink RX1 42 (cT 1 8).1 (cT 1 8).2.1 (cT 1 8).2.2.1 ∈ tg := tg_of (tbl_2 (List.mem_of_getElem? (i := 117) (by decide +kernel))) (by decide +kernel)
theorem cf_X1_45 : Cond.fieldLink RX1 45 (cT 1 9).1 (cT 1 9).2.1 (cT 1 9).2.2.1 ∈ tg := tg_of (tbl_2 (List.mem_of_getElem? (i := 118) (by decide +kernel))) (by decide +kernel)
theorem cf_X1_48 : Cond.fieldLink RX1 48 (cT 1 0).1 (cT 1 0).2.1 (cT 1 0).2.2.1 ∈ tg := tg_of (tbl_2 (List.mem_of_getElem? (i := 108) (by decide +kernel))) (by decide +kernel)
theorem cf_X1_52 : Cond.fieldLink RX1 52 (cT 1 1).1 (cT 1 1).2.1 (cT 1 1).2.2.1 ∈ tg := tg_of (tbl_2 (List.mem_of_getElem? (i := 109) (by decide +kernel))) (by decide +kernel)
theorem cg_X1_25 : FL RX1 25 1 4 := ⟨by decide, Or.inl (tg_of (tbl_2 (List.mem_of_getElem? (i := 112) (by decide +kernel))) (by decide +kernel))⟩
theorem ci_X1_11 : CI RX1 11 yX8_init cX8_init 1 0 := ⟨Or.inr ⟨"SunTable", nw_of (tbl_2 (List.mem_of_getElem? (i := 104) (by decide +kernel))) rfl⟩, tg_of (tbl_2 (List.mem_of_getElem? (i := 59) (by decide +kernel))) (by decide +kernel), tg_of (tbl_1 (List.mem_of_getElem? (i := 10) (by decide +kernel))) (by decide +kernel), tg_of (tbl_2 (List.mem_of_getElem? (i := 60) (by decide +kernel))) (by decide +kernel), rfl, ⟨by decide, by decide, by decide +kernel⟩, by decide⟩
theorem ci_X1_20 : CI RX1 20 yX6_init cX6_init 1 0 := ⟨Or.inr ⟨"SunTable", nw_of (tbl_2 (List.mem_of_getElem? (i := 106) (by decide +kernel))) rfl⟩, tg_of (tbl_1 (List.mem_of_getElem? (i := 191) (by decide +kernel))) (by decide +kernel), tg_of (tbl_1 (List.mem_of_getElem? (i := 8) (by decide +kernel))) (by decide +kernel), tg_of (tbl_1 (List.mem_of_getElem? (i := 192) (by decide +kernel))) (by decide +kernel), rfl, ⟨by decide, by decide, by decide +kernel⟩, by decide⟩
theorem cn_X8 : Cond.instantiable (cR 8) (cN 8) ∈ tg := tg_of (tbl_2 (List.mem_of_getElem? (i := 57) (by decide +kernel))) (by decide +kernel)
theorem co_X1_3 : Cond.methodLink RX1 3 objectInit ∈ tg := tg_of (tbl_2 (List.mem_of_getElem? (i := 102) (by decide +kernel))) (by decide +kernel)
def qlS (j : Nat) : List LA := (List.range j).flatMap (fun j => (6, 106 + j, 0, 0) :: ctS6 (106 + j))
theorem qlS_succ (j : Nat) : qlS (j + 1) = qlS j ++ ((6, 106 + j, 0, 0) :: ctS6 (106 + j)) := by
  unfold qlS
  rw [List.range_succ, List.flatMap_append, List.flatMap_singleton]
def qlF (G : Gt) (j : Nat) : Nat → Option Nat := fun k => if k < j then some (ad G (6, 106 + k, 0, 0)) else none
theorem qlF_up (G : Gt) (j : Nat) : va_up (qlF G j) j (some (ad G (6, 106 + j, 0, 0))) = qlF G (j + 1) := by
  funext k
  unfold va_up qlF
  by_cases h : k = j
  · subst h
    rw [if_pos rfl, if_pos (Nat.lt_succ_self k)]
  · rw [if_neg h]
    by_cases h2 : k < j
    · rw [if_pos h2, if_pos (by omega)]
    · rw [if_neg h2, if_neg (by omega)]
set_option maxRecDepth 100000 in
set_option maxHeartbeats 8000000 in
theorem ql_loop {p : Program} {l : Launch} {e : Env} {s : State} {m : MethodId} {args : Array Value} {below : List Frame} {meth : Method} {c : Code} {A : Nat → Prop} {G : Gt} {B t k0 : Nat} {E : LA → va_E} {Q : State → Prop} (C : Cz p l e (rmC 2 51 420) s m args below meth c A 4 cX1_init RX1 G B 2)
    {S0 : List LA} {t1 p1 : Nat} (hl0 : (lyG G)[p1]? = some (1, 0, 5, 0)) (hl1 : p1 < t1) (ht1 : t ≤ t1) (hl : ∀ j q, j < 5 → q < 6 → (lyG G)[t1 + 6 * j + q]? = some (6, 106 + j, q, 0)) (hk0 : (lyG G)[k0]? = some (1, 0, 0, 0)) (hlt : k0 < t)
    (kk : J (p, l, e, (rmC 2 51 420), s, m, args, below, meth, c, A, 4, Q, 21 + 6 * 5, 148 + 33 * 5) (RepC G B (t1 + 6 * 5) (setE (nE G (S0 ++ qlS 5) E (1, 0, 0, 0) (.inr (1, [Value.ref (ad G (9, 0, 0, 0)), Value.ref (ad G (10, 0, 5, 0)), Value.ref (ad G (8, 1, 0, 0)), Value.ref (ad G (6, 105, 0, 0)), Value.ref (ad G (1, 0, 5, 0)), Value.ref (ad G (1, 0, 6, 0)), Value.ref (ad G (1, 0, 7, 0)), Value.ref (ad G (1, 0, 8, 0)), Value.ref (ad G (1, 0, 9, 0)), Value.ref (ad G (1, 0, 10, 0)), Value.int 0, Value.int 0]))) (1, 0, 5, 0) (.inl (G.2.2.1 8, 5, .inr (.inr (.inr (.inr (qlF G 5)))))))) 111 [(0, .ref (ad G (1, 0, 0, 0)))] []) :
    ∀ (n j : Nat), j + n = 5 → J (p, l, e, (rmC 2 51 420), s, m, args, below, meth, c, A, 4, Q, 21 + 6 * j, 148 + 33 * j) (RepC G B (t1 + 6 * j) (setE (nE G (S0 ++ qlS j) E (1, 0, 0, 0) (.inr (1, [Value.ref (ad G (9, 0, 0, 0)), Value.ref (ad G (10, 0, 5, 0)), Value.ref (ad G (8, 1, 0, 0)), Value.ref (ad G (6, 105, 0, 0)), Value.ref (ad G (1, 0, 5, 0)), Value.ref (ad G (1, 0, 6, 0)), Value.ref (ad G (1, 0, 7, 0)), Value.ref (ad G (1, 0, 8, 0)), Value.ref (ad G (1, 0, 9, 0)), Value.ref (ad G (1, 0, 10, 0)), Value.int 0, Value.int 0]))) (1, 0, 5, 0) (.inl (G.2.2.1 8, 5, .inr (.inr (.inr (.inr (qlF G j)))))))) 87 [(0, .ref (ad G (1, 0, 0, 0))), (3, .int (nI j))] [] := by
  have hB : GB G B A := C.2.2.2.2.2.2.2.1
  have hG : Gok G A := C.2.2.2.2.2.2.2.2.2.2.2.2.2.2
  intro n
  induction n with
  | zero =>
    intro j hj
    have hj : j = 5 := by omega
    subst hj
    refine j_iload_n (C.x (D := D0) (by decide) (by decide)) 1 dX1_init_87 rfl rfl ?_
    refine j_iconst (C.x (D := D0) (by decide) (by decide)) (4 : Int32) (by decide) dX1_init_88 ?_
    refine j_icmp_gt (C.x (D := D0) (by decide) (by decide)) 111 dX1_init_89 (by decide) (fun _ => ?_) (fun h => absurd h (by decide))
    exact j_sub [0] _ rfl kk
  | succ n ih =>
    intro j hj
    have hjN : j < 5 := by omega
    have h1 : 21 + 6 * j ≤ ((rmC 2 51 420)).cells := by simp only [rmC]; omega
    have h2 : 148 + 33 * j ≤ ((rmC 2 51 420)).slots := by simp only [rmC]; omega
    have hne : ¬ (4 : Int32) < nI j := by
      have e4 : (4 : Int32).toInt = 4 := by decide
      rw [Int32.lt_iff_toInt_lt, nI_toInt (by omega), e4]
      omega
    refine j_iload_n (C.x (D := D0) h1 h2) 1 dX1_init_87 rfl rfl ?_
    refine j_iconst (C.x (D := D0) h1 h2) (4 : Int32) (by decide) dX1_init_88 ?_
    refine j_icmp_gt (C.x (D := D0) h1 h2) 111 dX1_init_89 (by decide) (fun h => absurd h hne) (fun _ => ?_)
    refine j_aload_n (C.x (D := D0) h1 h2) 0 dX1_init_92 rfl rfl ?_
    refine c_get C cg_X1_25 hk0 (by omega) ((setE_ne (by decide)).trans nE_at) (by decide) rfl dX1_init_93 ?_
    refine j_iload_n (C.x (D := D0) h1 h2) 1 dX1_init_96 rfl rfl ?_
    refine c_new C (ci := 6) (6, 106 + j, 0, 0) (hl j 0 hjN (by decide)) (by decide) cc_X1_18 cn_X6 cd_X6 (by simp only [rmC]; omega) (by simp only [rmC, cN]; omega) dX1_init_97 ?_
    have h3 : 21 + 6 * j + 1 ≤ ((rmC 2 51 420)).cells := by simp only [rmC]; omega
    have h4 : 148 + 33 * j + cN 6 ≤ ((rmC 2 51 420)).slots := by simp only [rmC, cN]; omega
    refine j_dup (C.x (D := D0) h3 h4) rfl dX1_init_100 ?_
    refine c_init C (lv' := 1) (la := (6, 106 + j, 0, 0)) (mc := 5) (ms := 25) [] [.ref (ad G (6, 106 + j, 0, 0)), .int (nI j), .ref (ad G (1, 0, 5, 0))] ci_X1_20 (ci_X6 (lv := 1) (n := 106 + j) (t := t1 + 6 * j + 1) (k0 := t1 + 6 * j) hB hG (fun q la hq => by match q, hq with | 0, hq => cases hq; exact hl j 1 hjN (by decide) | 1, hq => cases hq; exact hl j 2 hjN (by decide) | 2, hq => cases hq; exact hl j 3 hjN (by decide) | 3, hq => cases hq; exact hl j 4 hjN (by decide) | 4, hq => cases hq; exact hl j 5 hjN (by decide) | q + 5, hq => exact absurd hq (by simp [ctS6])) (hl j 0 hjN (by decide)) (by omega) setE_eq) (by decide) dX1_init_101 rfl rfl (Nat.le_of_ble_eq_true rfl) (by simp only [rmC]; omega) (by simp only [rmC, cN]; omega) ?_
    refine c_E (Eb := setE (nE G (S0 ++ qlS (j + 1)) E (1, 0, 0, 0) (.inr (1, [Value.ref (ad G (9, 0, 0, 0)), Value.ref (ad G (10, 0, 5, 0)), Value.ref (ad G (8, 1, 0, 0)), Value.ref (ad G (6, 105, 0, 0)), Value.ref (ad G (1, 0, 5, 0)), Value.ref (ad G (1, 0, 6, 0)), Value.ref (ad G (1, 0, 7, 0)), Value.ref (ad G (1, 0, 8, 0)), Value.ref (ad G (1, 0, 9, 0)), Value.ref (ad G (1, 0, 10, 0)), Value.int 0, Value.int 0]))) (1, 0, 5, 0) (.inl (G.2.2.1 8, 5, .inr (.inr (.inr (.inr (qlF G j))))))) (by rw [qlS_succ, ← List.append_assoc]; exact ovl_2 (by simp [ctS6]) (by simp [ctS6])) ?_
    have h5 : 21 + 6 * j + 1 + 5 ≤ ((rmC 2 51 420)).cells := by simp only [rmC]; omega
    have h6 : 148 + 33 * j + cN 6 + 25 ≤ ((rmC 2 51 420)).slots := by simp only [rmC, cN]; omega
    have e6 : (setE (nE G (S0 ++ qlS (j + 1)) E (1, 0, 0, 0) (.inr (1, [Value.ref (ad G (9, 0, 0, 0)), Value.ref (ad G (10, 0, 5, 0)), Value.ref (ad G (8, 1, 0, 0)), Value.ref (ad G (6, 105, 0, 0)), Value.ref (ad G (1, 0, 5, 0)), Value.ref (ad G (1, 0, 6, 0)), Value.ref (ad G (1, 0, 7, 0)), Value.ref (ad G (1, 0, 8, 0)), Value.ref (ad G (1, 0, 9, 0)), Value.ref (ad G (1, 0, 10, 0)), Value.int 0, Value.int 0]))) (1, 0, 5, 0) (.inl (G.2.2.1 8, 5, .inr (.inr (.inr (.inr (qlF G j))))))) (6, 106 + j, 0, 0) = .inr (6, fvs G D0 (6, 106 + j, 0, 0) (fk 6)) := by
      rw [setE_ne (by simp)]
      unfold nE
      rw [setE_ne (by simp), ovl_in (by rw [qlS_succ]; exact List.mem_append_right _ (List.mem_append_right _ List.mem_cons_self))]
      rfl
    refine c_aast C hl0 (by omega) (hl j 0 hjN (by decide)) (by omega) setE_eq e6 (by decide) rfl (inB_iff.mpr (by rw [nI_toInt (by omega)]; omega)) (nI_clamp (by omega)) dX1_init_104 ?_
    refine c_E (Eb := setE (nE G (S0 ++ qlS (j + 1)) E (1, 0, 0, 0) (.inr (1, [Value.ref (ad G (9, 0, 0, 0)), Value.ref (ad G (10, 0, 5, 0)), Value.ref (ad G (8, 1, 0, 0)), Value.ref (ad G (6, 105, 0, 0)), Value.ref (ad G (1, 0, 5, 0)), Value.ref (ad G (1, 0, 6, 0)), Value.ref (ad G (1, 0, 7, 0)), Value.ref (ad G (1, 0, 8, 0)), Value.ref (ad G (1, 0, 9, 0)), Value.ref (ad G (1, 0, 10, 0)), Value.int 0, Value.int 0]))) (1, 0, 5, 0) (.inl (G.2.2.1 8, 5, .inr (.inr (.inr (.inr (qlF G (j + 1)))))))) (by rw [qlF_up]; exact setE_2) ?_
    refine j_iinc (C.x (D := D0) h5 h6) 1 [(3, .int (nI (j + 1))), (0, .ref (ad G (1, 0, 0, 0)))] dX1_init_105 rfl (Nat.le_of_ble_eq_true rfl) (by rw [← nI_1]; rfl) rfl ?_
    refine j_goto (C.x (D := D0) h5 h6) 87 dX1_init_108 (by decide) ?_
    refine j_sub [1, 0] [(0, .ref (ad G (1, 0, 0, 0))), (3, .int (nI (j + 1)))] rfl ?_
    have k := ih (j + 1) (by omega)
    rw [show t1 + 6 * (j + 1) = t1 + 6 * j + 1 + 5 by omega, show 21 + 6 * (j + 1) = 21 + 6 * j + 1 + 5 by omega, show 148 + 33 * (j + 1) = 148 + 33 * j + cN 6 + 25 by simp only [cN]; omega] at k
    exact k
theorem ql_0 {G : Gt} {S : List LA} {E : LA → va_E} {la0 la1 : LA} {o : va_E} : setE (nE G (S ++ qlS 0) E la0 o) la1 (.inl (G.2.2.1 8, 5, .inr (.inr (.inr (.inr (qlF G 0)))))) = setE (nE G S E la0 o) la1 (.inl (G.2.2.1 8, 5, .inr (.inr (.inr (.inr (fun _ => none)))))) := by
  have e1 : qlS 0 = [] := rfl
  have e2 : qlF G 0 = fun _ => none := by funext k; simp [qlF]
  rw [e1, e2, List.append_nil]
def ctL1 : List LA := [(8, 1, 0, 0), (8, 1, 9, 0), (6, 105, 0, 0), (6, 105, 1, 0), (6, 105, 2, 0), (6, 105, 3, 0), (6, 105, 4, 0), (6, 105, 5, 0), (1, 0, 5, 0), (1, 0, 6, 0), (1, 0, 7, 0), (1, 0, 8, 0), (1, 0, 9, 0), (1, 0, 9, 1), (1, 0, 9, 2), (1, 0, 9, 3), (1, 0, 9, 4), (1, 0, 9, 5), (1, 0, 9, 6), (1, 0, 9, 7), (1, 0, 10, 0)]
def ctS1 : List LA := [] ++ ((8, 1, 0, 0) :: ctS8 1) ++ ((6, 105, 0, 0) :: ctS6 105) ++ [(1, 0, 6, 0)] ++ [(1, 0, 7, 0)] ++ [(1, 0, 8, 0)] ++ ((1, 0, 9, 0) :: (List.range 7).map (fun j => (1, 0, 9, j + 1))) ++ [(1, 0, 10, 0)] ++ qlS 5 ++ [(1, 0, 5, 0)]
set_option maxRecDepth 100000 in
set_option maxHeartbeats 8000000 in
theorem ci_X1 {l : Launch} {G : Gt} {A : Nat → Prop} {B t k0 : Nat} {E : LA → va_E} (hB : GB G B A) (hG : Gok G A) (hl : ∀ (j : Nat) (la : LA), ctL1[j]? = some la → (lyG G)[t + j]? = some la) (hlL : ∀ j q, j < 5 → q < 6 → (lyG G)[t + 21 + 6 * j + q]? = some (6, 106 + j, q, 0)) (hk0 : (lyG G)[k0]? = some (1, 0, 0, 0)) (hlt : k0 < t) (aE : E (1, 0, 0, 0) = blk 1) : MC l G A B 2 yX1_init cX1_init 4 [.ref (ad G (1, 0, 0, 0)), .ref (ad G (9, 0, 0, 0)), .ref (ad G (10, 0, 5, 0))] t E (t + 51) (ovl G ((1, 0, 0, 0) :: ctS1) E) 51 420 := by
  refine mc_start RX1 hB hG (by decide +kernel) rfl rfl (Nat.le_of_ble_eq_true rfl) (L := [(0, .ref (ad G (1, 0, 0, 0))), (1, .ref (ad G (9, 0, 0, 0))), (2, .ref (ad G (10, 0, 5, 0)))]) rfl (fun p e s m args below meth c C => ?_)
  have aE : E (1, 0, 0, 0) = .inr (1, [Value.null, Value.null, Value.null, Value.null, Value.null, Value.null, Value.null, Value.null, Value.null, Value.null, Value.int 0, Value.int 0]) := aE
  refine c_E (Eb := nE G ([]) E (1, 0, 0, 0) (.inr (1, [Value.null, Value.null, Value.null, Value.null, Value.null, Value.null, Value.null, Value.null, Value.null, Value.null, Value.int 0, Value.int 0]))) (nE_0 aE) ?_
  refine j_aload_n (C.x (D := D0) (by decide) (by decide)) 0 dX1_init_0 rfl rfl ?_
  refine c_obj C co_X1_3 (by decide) (Nat.le_of_ble_eq_true rfl) dX1_init_1 ?_
  refine j_aload_n (C.x (D := D0) (by decide) (by decide)) 0 dX1_init_4 rfl rfl ?_
  refine c_new C (ci := 8) (8, 1, 0, 0) (hl 0 _ rfl) (by decide) cc_X1_9 cn_X8 cd_X8 (by decide) (by decide) dX1_init_5 ?_
  refine j_dup (C.x (D := D0) (by decide) (by decide)) rfl dX1_init_8 ?_
  refine c_init C (lv' := 1) (la := (8, 1, 0, 0)) (mc := 1) (ms := 12) [] [.ref (ad G (8, 1, 0, 0)), .ref (ad G (1, 0, 0, 0))] ci_X1_11 (ci_X8 (lv := 1) (n := 1) (t := t + 1) (k0 := t) hB hG (fun j la hj => by match j, hj with | 0, hj => cases hj; exact hl 1 _ rfl | j + 1, hj => exact absurd hj (by simp [ctS8])) (hl 0 _ rfl) (by omega) setE_eq) (by decide) dX1_init_9 rfl rfl (Nat.le_of_ble_eq_true rfl) (by decide) (by decide) ?_
  refine c_E (Eb := nE G ([] ++ ((8, 1, 0, 0) :: ctS8 1)) E (1, 0, 0, 0) (.inr (1, [Value.null, Value.null, Value.null, Value.null, Value.null, Value.null, Value.null, Value.null, Value.null, Value.null, Value.int 0, Value.int 0]))) (nE_call (by simp [ctS8])) ?_
  refine c_putK C cf_X1_12 (by decide) rfl hk0 (by omega) nE_at (by decide) (Nat.le_of_ble_eq_true rfl) rfl rfl dX1_init_12 ?_
  refine c_E (Eb := nE G ([] ++ ((8, 1, 0, 0) :: ctS8 1)) E (1, 0, 0, 0) (.inr (1, [Value.null, Value.null, Value.ref (ad G (8, 1, 0, 0)), Value.null, Value.null, Value.null, Value.null, Value.null, Value.null, Value.null, Value.int 0, Value.int 0]))) (nE_put) ?_
  refine j_aload_n (C.x (D := D0) (by decide) (by decide)) 0 dX1_init_15 rfl rfl ?_
  refine c_new C (ci := 6) (6, 105, 0, 0) (hl 2 _ rfl) (by decide) cc_X1_18 cn_X6 cd_X6 (by decide) (by decide) dX1_init_16 ?_
  refine j_dup (C.x (D := D0) (by decide) (by decide)) rfl dX1_init_19 ?_
  refine c_init C (lv' := 1) (la := (6, 105, 0, 0)) (mc := 5) (ms := 25) [] [.ref (ad G (6, 105, 0, 0)), .ref (ad G (1, 0, 0, 0))] ci_X1_20 (ci_X6 (lv := 1) (n := 105) (t := t + 1 + 1 + 1) (k0 := t + 2) hB hG (fun j la hj => by match j, hj with | 0, hj => cases hj; exact hl 3 _ rfl | 1, hj => cases hj; exact hl 4 _ rfl | 2, hj => cases hj; exact hl 5 _ rfl | 3, hj => cases hj; exact hl 6 _ rfl | 4, hj => cases hj; exact hl 7 _ rfl | j + 5, hj => exact absurd hj (by simp [ctS6])) (hl 2 _ rfl) (by omega) setE_eq) (by decide) dX1_init_20 rfl rfl (Nat.le_of_ble_eq_true rfl) (by decide) (by decide) ?_
  refine c_E (Eb := nE G ([] ++ ((8, 1, 0, 0) :: ctS8 1) ++ ((6, 105, 0, 0) :: ctS6 105)) E (1, 0, 0, 0) (.inr (1, [Value.null, Value.null, Value.ref (ad G (8, 1, 0, 0)), Value.null, Value.null, Value.null, Value.null, Value.null, Value.null, Value.null, Value.int 0, Value.int 0]))) (nE_call (by simp [ctS6])) ?_
  refine c_putK C cf_X1_21 (by decide) rfl hk0 (by omega) nE_at (by decide) (Nat.le_of_ble_eq_true rfl) rfl rfl dX1_init_23 ?_
  refine c_E (Eb := nE G ([] ++ ((8, 1, 0, 0) :: ctS8 1) ++ ((6, 105, 0, 0) :: ctS6 105)) E (1, 0, 0, 0) (.inr (1, [Value.null, Value.null, Value.ref (ad G (8, 1, 0, 0)), Value.ref (ad G (6, 105, 0, 0)), Value.null, Value.null, Value.null, Value.null, Value.null, Value.null, Value.int 0, Value.int 0]))) (nE_put) ?_
  refine j_aload_n (C.x (D := D0) (by decide) (by decide)) 0 dX1_init_26 rfl rfl ?_
  refine j_iconst (C.x (D := D0) (by decide) (by decide)) (5 : Int32) (by decide) dX1_init_27 ?_
  refine c_anew C (Cn := "SunTable$State") 8 5 (1, 0, 5, 0) (hl 8 _ rfl) rfl cc_X1_18 (C.2.2.2.2.2.2.2.2.2.2.2.2.1).1 (by decide) (by decide) (by decide) (by decide) (by decide) dX1_init_28 ?_
  refine c_putK C cf_X1_25 (by decide) rfl hk0 (by omega) ((setE_ne (by decide)).trans nE_at) (by decide) (Nat.le_of_ble_eq_true rfl) rfl rfl dX1_init_31 ?_
  refine c_E (Eb := setE (nE G ([] ++ ((8, 1, 0, 0) :: ctS8 1) ++ ((6, 105, 0, 0) :: ctS6 105)) E (1, 0, 0, 0) (.inr (1, [Value.null, Value.null, Value.ref (ad G (8, 1, 0, 0)), Value.ref (ad G (6, 105, 0, 0)), Value.ref (ad G (1, 0, 5, 0)), Value.null, Value.null, Value.null, Value.null, Value.null, Value.int 0, Value.int 0]))) (1, 0, 5, 0) (.inl (G.2.2.1 8, 5, .inr (.inr (.inr (.inr (fun _ => none))))))) (nE_put2 (by decide)) ?_
  refine j_aload_n (C.x (D := D0) (by decide) (by decide)) 0 dX1_init_34 rfl rfl ?_
  refine j_iconst (C.x (D := D0) (by decide) (by decide)) (4 : Int32) (by decide) dX1_init_35 ?_
  refine c_newa C (atype := .int) (ty := .int) (a0 := .inl (fun _ => 0)) 0 4 (1, 0, 6, 0) (hl 9 _ rfl) rfl rfl tm_aI (fun _ => vc_i _ _) (by decide) (by decide) (by decide) (by decide) (by decide) dX1_init_36 ?_
  refine c_E (Eb := setE (nE G ([] ++ ((8, 1, 0, 0) :: ctS8 1) ++ ((6, 105, 0, 0) :: ctS6 105) ++ [(1, 0, 6, 0)]) E (1, 0, 0, 0) (.inr (1, [Value.null, Value.null, Value.ref (ad G (8, 1, 0, 0)), Value.ref (ad G (6, 105, 0, 0)), Value.ref (ad G (1, 0, 5, 0)), Value.null, Value.null, Value.null, Value.null, Value.null, Value.int 0, Value.int 0]))) (1, 0, 5, 0) (.inl (G.2.2.1 8, 5, .inr (.inr (.inr (.inr (fun _ => none))))))) (nE_add2 (by decide) (by decide) rfl) ?_
  refine c_putK C cf_X1_29 (by decide) rfl hk0 (by omega) ((setE_ne (by decide)).trans nE_at) (by decide) (Nat.le_of_ble_eq_true rfl) rfl rfl dX1_init_38 ?_
  refine c_E (Eb := setE (nE G ([] ++ ((8, 1, 0, 0) :: ctS8 1) ++ ((6, 105, 0, 0) :: ctS6 105) ++ [(1, 0, 6, 0)]) E (1, 0, 0, 0) (.inr (1, [Value.null, Value.null, Value.ref (ad G (8, 1, 0, 0)), Value.ref (ad G (6, 105, 0, 0)), Value.ref (ad G (1, 0, 5, 0)), Value.ref (ad G (1, 0, 6, 0)), Value.null, Value.null, Value.null, Value.null, Value.int 0, Value.int 0]))) (1, 0, 5, 0) (.inl (G.2.2.1 8, 5, .inr (.inr (.inr (.inr (fun _ => none))))))) (nE_put2 (by decide)) ?_
  refine j_aload_n (C.x (D := D0) (by decide) (by decide)) 0 dX1_init_41 rfl rfl ?_
  refine j_iconst (C.x (D := D0) (by decide) (by decide)) (4 : Int32) (by decide) dX1_init_42 ?_
  refine c_newa C (atype := .int) (ty := .int) (a0 := .inl (fun _ => 0)) 0 4 (1, 0, 7, 0) (hl 10 _ rfl) rfl rfl tm_aI (fun _ => vc_i _ _) (by decide) (by decide) (by decide) (by decide) (by decide) dX1_init_43 ?_
  refine c_E (Eb := setE (nE G ([] ++ ((8, 1, 0, 0) :: ctS8 1) ++ ((6, 105, 0, 0) :: ctS6 105) ++ [(1, 0, 6, 0)] ++ [(1, 0, 7, 0)]) E (1, 0, 0, 0) (.inr (1, [Value.null, Value.null, Value.ref (ad G (8, 1, 0, 0)), Value.ref (ad G (6, 105, 0, 0)), Value.ref (ad G (1, 0, 5, 0)), Value.ref (ad G (1, 0, 6, 0)), Value.null, Value.null, Value.null, Value.null, Value.int 0, Value.int 0]))) (1, 0, 5, 0) (.inl (G.2.2.1 8, 5, .inr (.inr (.inr (.inr (fun _ => none))))))) (nE_add2 (by decide) (by decide) rfl) ?_
  refine c_putK C cf_X1_33 (by decide) rfl hk0 (by omega) ((setE_ne (by decide)).trans nE_at) (by decide) (Nat.le_of_ble_eq_true rfl) rfl rfl dX1_init_45 ?_
  refine c_E (Eb := setE (nE G ([] ++ ((8, 1, 0, 0) :: ctS8 1) ++ ((6, 105, 0, 0) :: ctS6 105) ++ [(1, 0, 6, 0)] ++ [(1, 0, 7, 0)]) E (1, 0, 0, 0) (.inr (1, [Value.null, Value.null, Value.ref (ad G (8, 1, 0, 0)), Value.ref (ad G (6, 105, 0, 0)), Value.ref (ad G (1, 0, 5, 0)), Value.ref (ad G (1, 0, 6, 0)), Value.ref (ad G (1, 0, 7, 0)), Value.null, Value.null, Value.null, Value.int 0, Value.int 0]))) (1, 0, 5, 0) (.inl (G.2.2.1 8, 5, .inr (.inr (.inr (.inr (fun _ => none))))))) (nE_put2 (by decide)) ?_
  refine j_aload_n (C.x (D := D0) (by decide) (by decide)) 0 dX1_init_48 rfl rfl ?_
  refine j_bipush (C.x (D := D0) (by decide) (by decide)) (7 : Int32) (by decide) dX1_init_49 ?_
  refine c_newa C (atype := .boolean) (ty := .boolean) (a0 := .inl (fun _ => 0)) 2 7 (1, 0, 8, 0) (hl 11 _ rfl) rfl rfl tm_aZ (fun _ => vc_z _ _) (by decide) (by decide) (by decide) (by decide) (by decide) dX1_init_51 ?_
  refine c_E (Eb := setE (nE G ([] ++ ((8, 1, 0, 0) :: ctS8 1) ++ ((6, 105, 0, 0) :: ctS6 105) ++ [(1, 0, 6, 0)] ++ [(1, 0, 7, 0)] ++ [(1, 0, 8, 0)]) E (1, 0, 0, 0) (.inr (1, [Value.null, Value.null, Value.ref (ad G (8, 1, 0, 0)), Value.ref (ad G (6, 105, 0, 0)), Value.ref (ad G (1, 0, 5, 0)), Value.ref (ad G (1, 0, 6, 0)), Value.ref (ad G (1, 0, 7, 0)), Value.null, Value.null, Value.null, Value.int 0, Value.int 0]))) (1, 0, 5, 0) (.inl (G.2.2.1 8, 5, .inr (.inr (.inr (.inr (fun _ => none))))))) (nE_add2 (by decide) (by decide) rfl) ?_
  refine c_putK C cf_X1_36 (by decide) rfl hk0 (by omega) ((setE_ne (by decide)).trans nE_at) (by decide) (Nat.le_of_ble_eq_true rfl) rfl rfl dX1_init_53 ?_
  refine c_E (Eb := setE (nE G ([] ++ ((8, 1, 0, 0) :: ctS8 1) ++ ((6, 105, 0, 0) :: ctS6 105) ++ [(1, 0, 6, 0)] ++ [(1, 0, 7, 0)] ++ [(1, 0, 8, 0)]) E (1, 0, 0, 0) (.inr (1, [Value.null, Value.null, Value.ref (ad G (8, 1, 0, 0)), Value.ref (ad G (6, 105, 0, 0)), Value.ref (ad G (1, 0, 5, 0)), Value.ref (ad G (1, 0, 6, 0)), Value.ref (ad G (1, 0, 7, 0)), Value.ref (ad G (1, 0, 8, 0)), Value.null, Value.null, Value.int 0, Value.int 0]))) (1, 0, 5, 0) (.inl (G.2.2.1 8, 5, .inr (.inr (.inr (.inr (fun _ => none))))))) (nE_put2 (by decide)) ?_
  refine j_aload_n (C.x (D := D0) (by decide) (by decide)) 0 dX1_init_56 rfl rfl ?_
  refine j_bipush (C.x (D := D0) (by decide) (by decide)) (7 : Int32) (by decide) dX1_init_57 ?_
  refine j_iconst (C.x (D := D0) (by decide) (by decide)) (5 : Int32) (by decide) dX1_init_59 ?_
  refine c_mna C 7 5 (1, 0, 9, 0) (fun j => (1, 0, 9, j + 1)) (hl 12 _ rfl) (fun j hj => match j, hj with | 0, _ => hl 13 _ rfl | 1, _ => hl 14 _ rfl | 2, _ => hl 15 _ rfl | 3, _ => hl 16 _ rfl | 4, _ => hl 17 _ rfl | 5, _ => hl 18 _ rfl | 6, _ => hl 19 _ rfl | j + 7, h => absurd h (by omega)) (fun j _ => by simp) (fun i j _ _ h => by simpa using h) cc_X1_40 (by decide) (by decide) (by decide) (by decide) (by decide) (by decide) (by decide) (by decide) (by decide) dX1_init_60 ?_
  refine c_E (Eb := setE (nE G ([] ++ ((8, 1, 0, 0) :: ctS8 1) ++ ((6, 105, 0, 0) :: ctS6 105) ++ [(1, 0, 6, 0)] ++ [(1, 0, 7, 0)] ++ [(1, 0, 8, 0)] ++ ((1, 0, 9, 0) :: (List.range 7).map (fun j => (1, 0, 9, j + 1)))) E (1, 0, 0, 0) (.inr (1, [Value.null, Value.null, Value.ref (ad G (8, 1, 0, 0)), Value.ref (ad G (6, 105, 0, 0)), Value.ref (ad G (1, 0, 5, 0)), Value.ref (ad G (1, 0, 6, 0)), Value.ref (ad G (1, 0, 7, 0)), Value.ref (ad G (1, 0, 8, 0)), Value.null, Value.null, Value.int 0, Value.int 0]))) (1, 0, 5, 0) (.inl (G.2.2.1 8, 5, .inr (.inr (.inr (.inr (fun _ => none))))))) (nE_mn2 (by decide) (by decide) (by decide) (by decide) rfl (fun r hr => by obtain ⟨j, -, rfl⟩ := List.mem_map.mp hr; rfl)) ?_
  refine c_putK C cf_X1_42 (by decide) rfl hk0 (by omega) ((setE_ne (by decide)).trans nE_at) (by decide) (Nat.le_of_ble_eq_true rfl) rfl rfl dX1_init_64 ?_
  refine c_E (Eb := setE (nE G ([] ++ ((8, 1, 0, 0) :: ctS8 1) ++ ((6, 105, 0, 0) :: ctS6 105) ++ [(1, 0, 6, 0)] ++ [(1, 0, 7, 0)] ++ [(1, 0, 8, 0)] ++ ((1, 0, 9, 0) :: (List.range 7).map (fun j => (1, 0, 9, j + 1)))) E (1, 0, 0, 0) (.inr (1, [Value.null, Value.null, Value.ref (ad G (8, 1, 0, 0)), Value.ref (ad G (6, 105, 0, 0)), Value.ref (ad G (1, 0, 5, 0)), Value.ref (ad G (1, 0, 6, 0)), Value.ref (ad G (1, 0, 7, 0)), Value.ref (ad G (1, 0, 8, 0)), Value.ref (ad G (1, 0, 9, 0)), Value.null, Value.int 0, Value.int 0]))) (1, 0, 5, 0) (.inl (G.2.2.1 8, 5, .inr (.inr (.inr (.inr (fun _ => none))))))) (nE_put2 (by decide)) ?_
  refine j_aload_n (C.x (D := D0) (by decide) (by decide)) 0 dX1_init_67 rfl rfl ?_
  refine j_bipush (C.x (D := D0) (by decide) (by decide)) (32 : Int32) (by decide) dX1_init_68 ?_
  refine c_newa C (atype := .int) (ty := .int) (a0 := .inl (fun _ => 0)) 0 32 (1, 0, 10, 0) (hl 20 _ rfl) rfl rfl tm_aI (fun _ => vc_i _ _) (by decide) (by decide) (by decide) (by decide) (by decide) dX1_init_70 ?_
  refine c_E (Eb := setE (nE G ([] ++ ((8, 1, 0, 0) :: ctS8 1) ++ ((6, 105, 0, 0) :: ctS6 105) ++ [(1, 0, 6, 0)] ++ [(1, 0, 7, 0)] ++ [(1, 0, 8, 0)] ++ ((1, 0, 9, 0) :: (List.range 7).map (fun j => (1, 0, 9, j + 1))) ++ [(1, 0, 10, 0)]) E (1, 0, 0, 0) (.inr (1, [Value.null, Value.null, Value.ref (ad G (8, 1, 0, 0)), Value.ref (ad G (6, 105, 0, 0)), Value.ref (ad G (1, 0, 5, 0)), Value.ref (ad G (1, 0, 6, 0)), Value.ref (ad G (1, 0, 7, 0)), Value.ref (ad G (1, 0, 8, 0)), Value.ref (ad G (1, 0, 9, 0)), Value.null, Value.int 0, Value.int 0]))) (1, 0, 5, 0) (.inl (G.2.2.1 8, 5, .inr (.inr (.inr (.inr (fun _ => none))))))) (nE_add2 (by decide) (by decide) rfl) ?_
  refine c_putK C cf_X1_45 (by decide) rfl hk0 (by omega) ((setE_ne (by decide)).trans nE_at) (by decide) (Nat.le_of_ble_eq_true rfl) rfl rfl dX1_init_72 ?_
  refine c_E (Eb := setE (nE G ([] ++ ((8, 1, 0, 0) :: ctS8 1) ++ ((6, 105, 0, 0) :: ctS6 105) ++ [(1, 0, 6, 0)] ++ [(1, 0, 7, 0)] ++ [(1, 0, 8, 0)] ++ ((1, 0, 9, 0) :: (List.range 7).map (fun j => (1, 0, 9, j + 1))) ++ [(1, 0, 10, 0)]) E (1, 0, 0, 0) (.inr (1, [Value.null, Value.null, Value.ref (ad G (8, 1, 0, 0)), Value.ref (ad G (6, 105, 0, 0)), Value.ref (ad G (1, 0, 5, 0)), Value.ref (ad G (1, 0, 6, 0)), Value.ref (ad G (1, 0, 7, 0)), Value.ref (ad G (1, 0, 8, 0)), Value.ref (ad G (1, 0, 9, 0)), Value.ref (ad G (1, 0, 10, 0)), Value.int 0, Value.int 0]))) (1, 0, 5, 0) (.inl (G.2.2.1 8, 5, .inr (.inr (.inr (.inr (fun _ => none))))))) (nE_put2 (by decide)) ?_
  refine j_aload_n (C.x (D := D0) (by decide) (by decide)) 0 dX1_init_75 rfl rfl ?_
  refine j_aload_n (C.x (D := D0) (by decide) (by decide)) 1 dX1_init_76 rfl rfl ?_
  refine c_putK C cf_X1_48 (by decide) rfl hk0 (by omega) ((setE_ne (by decide)).trans nE_at) (by decide) (Nat.le_of_ble_eq_true rfl) rfl rfl dX1_init_77 ?_
  refine c_E (Eb := setE (nE G ([] ++ ((8, 1, 0, 0) :: ctS8 1) ++ ((6, 105, 0, 0) :: ctS6 105) ++ [(1, 0, 6, 0)] ++ [(1, 0, 7, 0)] ++ [(1, 0, 8, 0)] ++ ((1, 0, 9, 0) :: (List.range 7).map (fun j => (1, 0, 9, j + 1))) ++ [(1, 0, 10, 0)]) E (1, 0, 0, 0) (.inr (1, [Value.ref (ad G (9, 0, 0, 0)), Value.null, Value.ref (ad G (8, 1, 0, 0)), Value.ref (ad G (6, 105, 0, 0)), Value.ref (ad G (1, 0, 5, 0)), Value.ref (ad G (1, 0, 6, 0)), Value.ref (ad G (1, 0, 7, 0)), Value.ref (ad G (1, 0, 8, 0)), Value.ref (ad G (1, 0, 9, 0)), Value.ref (ad G (1, 0, 10, 0)), Value.int 0, Value.int 0]))) (1, 0, 5, 0) (.inl (G.2.2.1 8, 5, .inr (.inr (.inr (.inr (fun _ => none))))))) (nE_put2 (by decide)) ?_
  refine j_aload_n (C.x (D := D0) (by decide) (by decide)) 0 dX1_init_80 rfl rfl ?_
  refine j_aload_n (C.x (D := D0) (by decide) (by decide)) 2 dX1_init_81 rfl rfl ?_
  refine c_putK C cf_X1_52 (by decide) rfl hk0 (by omega) ((setE_ne (by decide)).trans nE_at) (by decide) (Nat.le_of_ble_eq_true rfl) rfl rfl dX1_init_82 ?_
  refine c_E (Eb := setE (nE G ([] ++ ((8, 1, 0, 0) :: ctS8 1) ++ ((6, 105, 0, 0) :: ctS6 105) ++ [(1, 0, 6, 0)] ++ [(1, 0, 7, 0)] ++ [(1, 0, 8, 0)] ++ ((1, 0, 9, 0) :: (List.range 7).map (fun j => (1, 0, 9, j + 1))) ++ [(1, 0, 10, 0)]) E (1, 0, 0, 0) (.inr (1, [Value.ref (ad G (9, 0, 0, 0)), Value.ref (ad G (10, 0, 5, 0)), Value.ref (ad G (8, 1, 0, 0)), Value.ref (ad G (6, 105, 0, 0)), Value.ref (ad G (1, 0, 5, 0)), Value.ref (ad G (1, 0, 6, 0)), Value.ref (ad G (1, 0, 7, 0)), Value.ref (ad G (1, 0, 8, 0)), Value.ref (ad G (1, 0, 9, 0)), Value.ref (ad G (1, 0, 10, 0)), Value.int 0, Value.int 0]))) (1, 0, 5, 0) (.inl (G.2.2.1 8, 5, .inr (.inr (.inr (.inr (fun _ => none))))))) (nE_put2 (by decide)) ?_
  refine j_iconst (C.x (D := D0) (by decide) (by decide)) (0 : Int32) (by decide) dX1_init_85 ?_
  refine j_istore_n (C.x (D := D0) (by decide) (by decide)) [(3, .int (0 : Int32)), (0, .ref (ad G (1, 0, 0, 0))), (1, .ref (ad G (9, 0, 0, 0))), (2, .ref (ad G (10, 0, 5, 0)))] dX1_init_86 rfl (Nat.le_of_ble_eq_true rfl) rfl rfl ?_
  refine j_sub [1, 0] [(0, .ref (ad G (1, 0, 0, 0))), (3, .int (nI 0))] rfl ?_
  refine c_E (Eb := setE (nE G ([] ++ ((8, 1, 0, 0) :: ctS8 1) ++ ((6, 105, 0, 0) :: ctS6 105) ++ [(1, 0, 6, 0)] ++ [(1, 0, 7, 0)] ++ [(1, 0, 8, 0)] ++ ((1, 0, 9, 0) :: (List.range 7).map (fun j => (1, 0, 9, j + 1))) ++ [(1, 0, 10, 0)] ++ qlS 0) E (1, 0, 0, 0) (.inr (1, [Value.ref (ad G (9, 0, 0, 0)), Value.ref (ad G (10, 0, 5, 0)), Value.ref (ad G (8, 1, 0, 0)), Value.ref (ad G (6, 105, 0, 0)), Value.ref (ad G (1, 0, 5, 0)), Value.ref (ad G (1, 0, 6, 0)), Value.ref (ad G (1, 0, 7, 0)), Value.ref (ad G (1, 0, 8, 0)), Value.ref (ad G (1, 0, 9, 0)), Value.ref (ad G (1, 0, 10, 0)), Value.int 0, Value.int 0]))) (1, 0, 5, 0) (.inl (G.2.2.1 8, 5, .inr (.inr (.inr (.inr (qlF G 0))))))) ql_0 ?_
  refine ql_loop (S0 := [] ++ ((8, 1, 0, 0) :: ctS8 1) ++ ((6, 105, 0, 0) :: ctS6 105) ++ [(1, 0, 6, 0)] ++ [(1, 0, 7, 0)] ++ [(1, 0, 8, 0)] ++ ((1, 0, 9, 0) :: (List.range 7).map (fun j => (1, 0, 9, j + 1))) ++ [(1, 0, 10, 0)]) (t1 := t + 21) (p1 := t + 8) C (hl 8 _ rfl) (by omega) (by omega) hlL hk0 hlt ?_ 5 0 rfl
  refine c_Ev (Eb := setE (nE G ([] ++ ((8, 1, 0, 0) :: ctS8 1) ++ ((6, 105, 0, 0) :: ctS6 105) ++ [(1, 0, 6, 0)] ++ [(1, 0, 7, 0)] ++ [(1, 0, 8, 0)] ++ ((1, 0, 9, 0) :: (List.range 7).map (fun j => (1, 0, 9, j + 1))) ++ [(1, 0, 10, 0)] ++ qlS 5) E (1, 0, 0, 0) (.inr (1, [Value.ref (ad G (9, 0, 0, 0)), Value.ref (ad G (10, 0, 5, 0)), Value.ref (ad G (8, 1, 0, 0)), Value.ref (ad G (6, 105, 0, 0)), Value.ref (ad G (1, 0, 5, 0)), Value.ref (ad G (1, 0, 6, 0)), Value.ref (ad G (1, 0, 7, 0)), Value.ref (ad G (1, 0, 8, 0)), Value.ref (ad G (1, 0, 9, 0)), Value.ref (ad G (1, 0, 10, 0)), Value.int 0, Value.int 0]))) (1, 0, 5, 0) (.inl (G.2.2.1 8, 5, .inr (.inr (.inr (.inr (fun j => some (ad G (6, 106 + j, 0, 0))))))))) (fun la H hv => va_q (G := G) (fun j hj => if_pos hj) hv) ?_
  refine c_E (Eb := nE G ([] ++ ((8, 1, 0, 0) :: ctS8 1) ++ ((6, 105, 0, 0) :: ctS6 105) ++ [(1, 0, 6, 0)] ++ [(1, 0, 7, 0)] ++ [(1, 0, 8, 0)] ++ ((1, 0, 9, 0) :: (List.range 7).map (fun j => (1, 0, 9, j + 1))) ++ [(1, 0, 10, 0)] ++ qlS 5 ++ [(1, 0, 5, 0)]) E (1, 0, 0, 0) (.inr (1, [Value.ref (ad G (9, 0, 0, 0)), Value.ref (ad G (10, 0, 5, 0)), Value.ref (ad G (8, 1, 0, 0)), Value.ref (ad G (6, 105, 0, 0)), Value.ref (ad G (1, 0, 5, 0)), Value.ref (ad G (1, 0, 6, 0)), Value.ref (ad G (1, 0, 7, 0)), Value.ref (ad G (1, 0, 8, 0)), Value.ref (ad G (1, 0, 9, 0)), Value.ref (ad G (1, 0, 10, 0)), Value.int 0, Value.int 0]))) (nE_add (by decide) rfl) ?_
  exact c_ret C (by decide) (by decide) rfl (fun k la hk hla H hv => nE_end (S' := ctS1) rfl rfl hv) dX1_init_111
