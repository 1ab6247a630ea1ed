theorem c_E {X : Ctx} {G : Gt} {B t : Nat} {Ea Eb : LA → va_E} {pc : Nat} {L : List (Nat × Value)} {st : List Value} (h : Eb = Ea) (k : J X (RepC G B t Eb) pc L st) : J X (RepC G B t Ea) pc L st := h ▸ k
def ovl (G : Gt) (S : List LA) (E : LA → va_E) : LA → va_E := fun l => if l ∈ S then cellOf G D0 l else E l
theorem ovl_in {G : Gt} {S : List LA} {E : LA → va_E} {l : LA} (h : l ∈ S) : ovl G S E l = cellOf G D0 l := if_pos h
theorem ovl_out {G : Gt} {S : List LA} {E : LA → va_E} {l : LA} (h : ¬ l ∈ S) : ovl G S E l = E l := if_neg h
theorem setE_eq {E : LA → va_E} {la : LA} {e : va_E} : setE E la e la = e := if_pos rfl
theorem setE_ne {E : LA → va_E} {la lb : LA} {e : va_E} (h : ¬ lb = la) : setE E la e lb = E lb := if_neg h
theorem mnE_eq {E : LA → va_E} {la : LA} {rs : List LA} {o i : va_E} : mnE E la rs o i la = o := if_pos rfl
theorem mnE_in {E : LA → va_E} {la lb : LA} {rs : List LA} {o i : va_E} (h : ¬ lb = la) (h2 : lb ∈ rs) : mnE E la rs o i lb = i := by unfold mnE; rw [if_neg h, if_pos h2]
theorem mnE_ne {E : LA → va_E} {la lb : LA} {rs : List LA} {o i : va_E} (h : ¬ lb = la) (h2 : ¬ lb ∈ rs) : mnE E la rs o i lb = E lb := by unfold mnE; rw [if_neg h, if_neg h2]
theorem va_same {D : va_G} {cl : List vw_C} {a : Nat} {e1 e2 : va_E} {H : Heap} (h : e1 = e2) (hv : va_at D cl (a, e1) H) : va_at D cl (a, e2) H := h ▸ hv
theorem vc_i (cA : ClassId) (N : Nat) : vp_cell cA (N, .inl (fun _ => 0)) = arrV cA N (fun _ => defaultValue .int) := rfl
theorem vc_l (cA : ClassId) (N : Nat) : vp_cell cA (N, .inr (.inl (fun _ => 0))) = arrV cA N (fun _ => defaultValue .long) := rfl
theorem vc_z (cA : ClassId) (N : Nat) : vp_cell cA (N, .inl (fun _ => 0)) = arrV cA N (fun _ => defaultValue .boolean) := rfl
theorem vc_b (cA : ClassId) (N : Nat) : vp_cell cA (N, .inl (fun _ => 0)) = arrV cA N (fun _ => defaultValue .byte) := rfl
theorem tm_aJ : Cond.arrayClass .long ∈ tg := tg_of (by decide +kernel) (by decide +kernel)
theorem tm_aZ : Cond.arrayClass .boolean ∈ tg := tg_of (by decide +kernel) (by decide +kernel)
theorem tm_aB : Cond.arrayClass .byte ∈ tg := tg_of (by decide +kernel) (by decide +kernel)
theorem cc_X5_21 : Cond.classLink RX5 21 ("[" ++ (FieldType.array .int).toString) ∈ tg := tg_of (tbl_1 (List.mem_of_getElem? (i := 97) (by decide +kernel))) (by decide +kernel)
theorem cf_X2_15 : Cond.fieldLink RX2 15 (cT 2 2).1 (cT 2 2).2.1 (cT 2 2).2.2.1 ∈ tg := tg_of (tbl_1 (List.mem_of_getElem? (i := 38) (by decide +kernel))) (by decide +kernel)
theorem cf_X2_18 : Cond.fieldLink RX2 18 (cT 2 3).1 (cT 2 3).2.1 (cT 2 3).2.2.1 ∈ tg := tg_of (tbl_1 (List.mem_of_getElem? (i := 39) (by decide +kernel))) (by decide +kernel)
theorem cf_X2_21 : Cond.fieldLink RX2 21 (cT 2 4).1 (cT 2 4).2.1 (cT 2 4).2.2.1 ∈ tg := tg_of (tbl_1 (List.mem_of_getElem? (i := 40) (by decide +kernel))) (by decide +kernel)
theorem cf_X2_9 : Cond.fieldLink RX2 9 (cT 2 0).1 (cT 2 0).2.1 (cT 2 0).2.2.1 ∈ tg := tg_of (tbl_1 (List.mem_of_getElem? (i := 35) (by decide +kernel))) (by decide +kernel)
theorem cf_X3_15 : Cond.fieldLink RX3 15 (cT 3 1).1 (cT 3 1).2.1 (cT 3 1).2.2.1 ∈ tg := tg_of (tbl_1 (List.mem_of_getElem? (i := 154) (by decide +kernel))) (by decide +kernel)
theorem cf_X3_18 : Cond.fieldLink RX3 18 (cT 3 3).1 (cT 3 3).2.1 (cT 3 3).2.2.1 ∈ tg := tg_of (tbl_1 (List.mem_of_getElem? (i := 157) (by decide +kernel))) (by decide +kernel)
theorem cf_X3_21 : Cond.fieldLink RX3 21 (cT 3 4).1 (cT 3 4).2.1 (cT 3 4).2.2.1 ∈ tg := tg_of (tbl_1 (List.mem_of_getElem? (i := 158) (by decide +kernel))) (by decide +kernel)
theorem cf_X3_24 : Cond.fieldLink RX3 24 (cT 3 5).1 (cT 3 5).2.1 (cT 3 5).2.2.1 ∈ tg := tg_of (tbl_1 (List.mem_of_getElem? (i := 159) (by decide +kernel))) (by decide +kernel)
theorem cf_X3_27 : Cond.fieldLink RX3 27 (cT 3 7).1 (cT 3 7).2.1 (cT 3 7).2.2.1 ∈ tg := tg_of (tbl_1 (List.mem_of_getElem? (i := 161) (by decide +kernel))) (by decide +kernel)
theorem cf_X3_9 : Cond.fieldLink RX3 9 (cT 3 0).1 (cT 3 0).2.1 (cT 3 0).2.2.1 ∈ tg := tg_of (tbl_1 (List.mem_of_getElem? (i := 153) (by decide +kernel))) (by decide +kernel)
theorem cf_X4_9 : Cond.fieldLink RX4 9 (cT 4 0).1 (cT 4 0).2.1 (cT 4 0).2.2.1 ∈ tg := tg_of (tbl_1 (List.mem_of_getElem? (i := 84) (by decide +kernel))) (by decide +kernel)
theorem cf_X5_15 : Cond.fieldLink RX5 15 (cT 5 5).1 (cT 5 5).2.1 (cT 5 5).2.2.1 ∈ tg := tg_of (tbl_1 (List.mem_of_getElem? (i := 117) (by decide +kernel))) (by decide +kernel)
theorem cf_X5_18 : Cond.fieldLink RX5 18 (cT 5 6).1 (cT 5 6).2.1 (cT 5 6).2.2.1 ∈ tg := tg_of (tbl_1 (List.mem_of_getElem? (i := 120) (by decide +kernel))) (by decide +kernel)
theorem cf_X5_23 : Cond.fieldLink RX5 23 (cT 5 7).1 (cT 5 7).2.1 (cT 5 7).2.2.1 ∈ tg := tg_of (tbl_1 (List.mem_of_getElem? (i := 123) (by decide +kernel))) (by decide +kernel)
theorem cf_X5_26 : Cond.fieldLink RX5 26 (cT 5 8).1 (cT 5 8).2.1 (cT 5 8).2.2.1 ∈ tg := tg_of (tbl_1 (List.mem_of_getElem? (i := 126) (by decide +kernel))) (by decide +kernel)
theorem cf_X5_9 : Cond.fieldLink RX5 9 (cT 5 4).1 (cT 5 4).2.1 (cT 5 4).2.2.1 ∈ tg := tg_of (tbl_1 (List.mem_of_getElem? (i := 114) (by decide +kernel))) (by decide +kernel)
theorem cf_X6_15 : Cond.fieldLink RX6 15 (cT 6 1).1 (cT 6 1).2.1 (cT 6 1).2.2.1 ∈ tg := tg_of (tbl_1 (List.mem_of_getElem? (i := 197) (by decide +kernel))) (by decide +kernel)
theorem cf_X6_18 : Cond.fieldLink RX6 18 (cT 6 2).1 (cT 6 2).2.1 (cT 6 2).2.2.1 ∈ tg := tg_of (tbl_1 (List.mem_of_getElem? (i := 200) (by decide +kernel))) (by decide +kernel)
theorem cf_X6_21 : Cond.fieldLink RX6 21 (cT 6 3).1 (cT 6 3).2.1 (cT 6 3).2.2.1 ∈ tg := tg_of (tbl_1 (List.mem_of_getElem? (i := 204) (by decide +kernel))) (by decide +kernel)
theorem cf_X6_24 : Cond.fieldLink RX6 24 (cT 6 4).1 (cT 6 4).2.1 (cT 6 4).2.2.1 ∈ tg := tg_of (tbl_1 (List.mem_of_getElem? (i := 208) (by decide +kernel))) (by decide +kernel)
theorem cf_X6_9 : Cond.fieldLink RX6 9 (cT 6 0).1 (cT 6 0).2.1 (cT 6 0).2.2.1 ∈ tg := tg_of (tbl_1 (List.mem_of_getElem? (i := 194) (by decide +kernel))) (by decide +kernel)
theorem cf_X7_9 : Cond.fieldLink RX7 9 (cT 7 0).1 (cT 7 0).2.1 (cT 7 0).2.2.1 ∈ tg := tg_of (tbl_1 (List.mem_of_getElem? (i := 74) (by decide +kernel))) (by decide +kernel)
theorem cf_X8_9 : Cond.fieldLink RX8 9 (cT 8 8).1 (cT 8 8).2.1 (cT 8 8).2.2.1 ∈ tg := tg_of (tbl_2 (List.mem_of_getElem? (i := 76) (by decide +kernel))) (by decide +kernel)
theorem co_X2_3 : Cond.methodLink RX2 3 objectInit ∈ tg := tg_of (tbl_1 (List.mem_of_getElem? (i := 34) (by decide +kernel))) (by decide +kernel)
theorem co_X3_3 : Cond.methodLink RX3 3 objectInit ∈ tg := tg_of (tbl_1 (List.mem_of_getElem? (i := 152) (by decide +kernel))) (by decide +kernel)
theorem co_X4_3 : Cond.methodLink RX4 3 objectInit ∈ tg := tg_of (tbl_1 (List.mem_of_getElem? (i := 83) (by decide +kernel))) (by decide +kernel)
theorem co_X5_3 : Cond.methodLink RX5 3 objectInit ∈ tg := tg_of (tbl_1 (List.mem_of_getElem? (i := 96) (by decide +kernel))) (by decide +kernel)
theorem co_X6_3 : Cond.methodLink RX6 3 objectInit ∈ tg := tg_of (tbl_1 (List.mem_of_getElem? (i := 193) (by decide +kernel))) (by decide +kernel)
theorem co_X7_3 : Cond.methodLink RX7 3 objectInit ∈ tg := tg_of (tbl_1 (List.mem_of_getElem? (i := 73) (by decide +kernel))) (by decide +kernel)
theorem co_X8_3 : Cond.methodLink RX8 3 objectInit ∈ tg := tg_of (tbl_2 (List.mem_of_getElem? (i := 61) (by decide +kernel))) (by decide +kernel)
def ctS6 (n : Nat) : List LA := [(6, n, 1, 0), (6, n, 2, 0), (6, n, 3, 0), (6, n, 4, 0), (6, n, 5, 0)]
set_option maxRecDepth 100000 in
set_option maxHeartbeats 8000000 in
theorem ci_X6 {l : Launch} {G : Gt} {A : Nat → Prop} {B lv t k0 : Nat} {E : LA → va_E} {n : Nat} (hB : GB G B A) (hG : Gok G A) (hl : ∀ (j : Nat) (la : LA), (ctS6 n)[j]? = some la → (lyG G)[t + j]? = some la) (hk0 : (lyG G)[k0]? = some (6, n, 0, 0)) (hlt : k0 < t) (aE : E (6, n, 0, 0) = blk 6) : MC l G A B 1 yX6_init cX6_init 1 [.ref (ad G (6, n, 0, 0))] t E (t + 5) (ovl G ((6, n, 0, 0) :: ctS6 n) E) 5 25 := by
  refine mc_start RX6 hB hG (by decide +kernel) rfl rfl (Nat.le_of_ble_eq_true rfl) (L := [(0, .ref (ad G (6, n, 0, 0)))]) rfl (fun p e s m args below meth c C => ?_)
  have aE : E (6, n, 0, 0) = .inr (6, [(.null : Value), (.null : Value), (.null : Value), (.null : Value), (.null : Value), (.int 0 : Value), (.int 0 : Value), (.int 0 : Value)]) := aE
  refine j_aload_n (C.x (D := D0) (by decide) (by decide)) 0 dX6_init_0 rfl rfl ?_
  refine c_obj C co_X6_3 (by decide) (Nat.le_of_ble_eq_true rfl) dX6_init_1 ?_
  refine j_aload_n (C.x (D := D0) (by decide) (by decide)) 0 dX6_init_4 rfl rfl ?_
  refine j_iconst (C.x (D := D0) (by decide) (by decide)) (5 : Int32) (by decide) dX6_init_5 ?_
  refine c_newa C (atype := .int) (ty := .int) 0 5 (6, n, 1, 0) (hl 0 _ rfl) rfl rfl tm_aI (fun _ => vc_i _ _) (by decide) (by decide) (by decide) (by decide) (by decide) dX6_init_6 ?_
  obtain ⟨E1, qE1⟩ : ∃ x, x = setE E (6, n, 1, 0) (.inl (G.2.2.1 0, 5, (.inl (fun _ => 0)))) := ⟨_, rfl⟩
  refine c_E qE1 ?_
  have aE1 : E1 (6, n, 0, 0) = .inr (6, [.null, .null, .null, .null, .null, .int 0, .int 0, .int 0]) := by rw [qE1, setE_ne (by simp)]; exact aE
  refine c_putK C cf_X6_9 (by decide) rfl hk0 (by omega) aE1 (by decide) (Nat.le_of_ble_eq_true rfl) rfl rfl dX6_init_8 ?_
  obtain ⟨E2, qE2⟩ : ∃ x, x = setE E1 (6, n, 0, 0) (.inr (6, [.ref (ad G (6, n, 1, 0)), .null, .null, .null, .null, .int 0, .int 0, .int 0])) := ⟨_, rfl⟩
  refine c_E qE2 ?_
  have aE2 : E2 (6, n, 0, 0) = .inr (6, [.ref (ad G (6, n, 1, 0)), .null, .null, .null, .null, .int 0, .int 0, .int 0]) := by rw [qE2, setE_eq]
  refine j_aload_n (C.x (D := D0) (by decide) (by decide)) 0 dX6_init_11 rfl rfl ?_
  refine j_iconst (C.x (D := D0) (by decide) (by decide)) (5 : Int32) (by decide) dX6_init_12 ?_
  refine c_newa C (atype := .int) (ty := .int) 0 5 (6, n, 2, 0) (hl 1 _ rfl) rfl rfl tm_aI (fun _ => vc_i _ _) (by decide) (by decide) (by decide) (by decide) (by decide) dX6_init_13 ?_
  obtain ⟨E3, qE3⟩ : ∃ x, x = setE E2 (6, n, 2, 0) (.inl (G.2.2.1 0, 5, (.inl (fun _ => 0)))) := ⟨_, rfl⟩
  refine c_E qE3 ?_
  have aE3 : E3 (6, n, 0, 0) = .inr (6, [.ref (ad G (6, n, 1, 0)), .null, .null, .null, .null, .int 0, .int 0, .int 0]) := by rw [qE3, setE_ne (by simp)]; exact aE2
  refine c_putK C cf_X6_15 (by decide) rfl hk0 (by omega) aE3 (by decide) (Nat.le_of_ble_eq_true rfl) rfl rfl dX6_init_15 ?_
  obtain ⟨E4, qE4⟩ : ∃ x, x = setE E3 (6, n, 0, 0) (.inr (6, [.ref (ad G (6, n, 1, 0)), .ref (ad G (6, n, 2, 0)), .null, .null, .null, .int 0, .int 0, .int 0])) := ⟨_, rfl⟩
  refine c_E qE4 ?_
  have aE4 : E4 (6, n, 0, 0) = .inr (6, [.ref (ad G (6, n, 1, 0)), .ref (ad G (6, n, 2, 0)), .null, .null, .null, .int 0, .int 0, .int 0]) := by rw [qE4, setE_eq]
  refine j_aload_n (C.x (D := D0) (by decide) (by decide)) 0 dX6_init_18 rfl rfl ?_
  refine j_iconst (C.x (D := D0) (by decide) (by decide)) (5 : Int32) (by decide) dX6_init_19 ?_
  refine c_newa C (atype := .int) (ty := .int) 0 5 (6, n, 3, 0) (hl 2 _ rfl) rfl rfl tm_aI (fun _ => vc_i _ _) (by decide) (by decide) (by decide) (by decide) (by decide) dX6_init_20 ?_
  obtain ⟨E5, qE5⟩ : ∃ x, x = setE E4 (6, n, 3, 0) (.inl (G.2.2.1 0, 5, (.inl (fun _ => 0)))) := ⟨_, rfl⟩
  refine c_E qE5 ?_
  have aE5 : E5 (6, n, 0, 0) = .inr (6, [.ref (ad G (6, n, 1, 0)), .ref (ad G (6, n, 2, 0)), .null, .null, .null, .int 0, .int 0, .int 0]) := by rw [qE5, setE_ne (by simp)]; exact aE4
  refine c_putK C cf_X6_18 (by decide) rfl hk0 (by omega) aE5 (by decide) (Nat.le_of_ble_eq_true rfl) rfl rfl dX6_init_22 ?_
  obtain ⟨E6, qE6⟩ : ∃ x, x = setE E5 (6, n, 0, 0) (.inr (6, [.ref (ad G (6, n, 1, 0)), .ref (ad G (6, n, 2, 0)), .ref (ad G (6, n, 3, 0)), .null, .null, .int 0, .int 0, .int 0])) := ⟨_, rfl⟩
  refine c_E qE6 ?_
  have aE6 : E6 (6, n, 0, 0) = .inr (6, [.ref (ad G (6, n, 1, 0)), .ref (ad G (6, n, 2, 0)), .ref (ad G (6, n, 3, 0)), .null, .null, .int 0, .int 0, .int 0]) := by rw [qE6, setE_eq]
  refine j_aload_n (C.x (D := D0) (by decide) (by decide)) 0 dX6_init_25 rfl rfl ?_
  refine j_iconst (C.x (D := D0) (by decide) (by decide)) (5 : Int32) (by decide) dX6_init_26 ?_
  refine c_newa C (atype := .int) (ty := .int) 0 5 (6, n, 4, 0) (hl 3 _ rfl) rfl rfl tm_aI (fun _ => vc_i _ _) (by decide) (by decide) (by decide) (by decide) (by decide) dX6_init_27 ?_
  obtain ⟨E7, qE7⟩ : ∃ x, x = setE E6 (6, n, 4, 0) (.inl (G.2.2.1 0, 5, (.inl (fun _ => 0)))) := ⟨_, rfl⟩
  refine c_E qE7 ?_
  have aE7 : E7 (6, n, 0, 0) = .inr (6, [.ref (ad G (6, n, 1, 0)), .ref (ad G (6, n, 2, 0)), .ref (ad G (6, n, 3, 0)), .null, .null, .int 0, .int 0, .int 0]) := by rw [qE7, setE_ne (by simp)]; exact aE6
  refine c_putK C cf_X6_21 (by decide) rfl hk0 (by omega) aE7 (by decide) (Nat.le_of_ble_eq_true rfl) rfl rfl dX6_init_29 ?_
  obtain ⟨E8, qE8⟩ : ∃ x, x = setE E7 (6, n, 0, 0) (.inr (6, [.ref (ad G (6, n, 1, 0)), .ref (ad G (6, n, 2, 0)), .ref (ad G (6, n, 3, 0)), .ref (ad G (6, n, 4, 0)), .null, .int 0, .int 0, .int 0])) := ⟨_, rfl⟩
  refine c_E qE8 ?_
  have aE8 : E8 (6, n, 0, 0) = .inr (6, [.ref (ad G (6, n, 1, 0)), .ref (ad G (6, n, 2, 0)), .ref (ad G (6, n, 3, 0)), .ref (ad G (6, n, 4, 0)), .null, .int 0, .int 0, .int 0]) := by rw [qE8, setE_eq]
  refine j_aload_n (C.x (D := D0) (by decide) (by decide)) 0 dX6_init_32 rfl rfl ?_
  refine j_iconst (C.x (D := D0) (by decide) (by decide)) (5 : Int32) (by decide) dX6_init_33 ?_
  refine c_newa C (atype := .int) (ty := .int) 0 5 (6, n, 5, 0) (hl 4 _ rfl) rfl rfl tm_aI (fun _ => vc_i _ _) (by decide) (by decide) (by decide) (by decide) (by decide) dX6_init_34 ?_
  obtain ⟨E9, qE9⟩ : ∃ x, x = setE E8 (6, n, 5, 0) (.inl (G.2.2.1 0, 5, (.inl (fun _ => 0)))) := ⟨_, rfl⟩
  refine c_E qE9 ?_
  have aE9 : E9 (6, n, 0, 0) = .inr (6, [.ref (ad G (6, n, 1, 0)), .ref (ad G (6, n, 2, 0)), .ref (ad G (6, n, 3, 0)), .ref (ad G (6, n, 4, 0)), .null, .int 0, .int 0, .int 0]) := by rw [qE9, setE_ne (by simp)]; exact aE8
  refine c_putK C cf_X6_24 (by decide) rfl hk0 (by omega) aE9 (by decide) (Nat.le_of_ble_eq_true rfl) rfl rfl dX6_init_36 ?_
  obtain ⟨E10, qE10⟩ : ∃ x, x = setE E9 (6, n, 0, 0) (.inr (6, [.ref (ad G (6, n, 1, 0)), .ref (ad G (6, n, 2, 0)), .ref (ad G (6, n, 3, 0)), .ref (ad G (6, n, 4, 0)), .ref (ad G (6, n, 5, 0)), .int 0, .int 0, .int 0])) := ⟨_, rfl⟩
  refine c_E qE10 ?_
  have aE10 : E10 (6, n, 0, 0) = .inr (6, [.ref (ad G (6, n, 1, 0)), .ref (ad G (6, n, 2, 0)), .ref (ad G (6, n, 3, 0)), .ref (ad G (6, n, 4, 0)), .ref (ad G (6, n, 5, 0)), .int 0, .int 0, .int 0]) := by rw [qE10, setE_eq]
  refine c_ret C (by decide) (by decide) rfl (fun k la hk hla H hv => ?_) dX6_init_39
  by_cases hm : la ∈ (6, n, 0, 0) :: ctS6 n
  · rw [ovl_in hm]
    simp only [ctS6, List.mem_cons, List.not_mem_nil, or_false] at hm
    rcases hm with rfl | rfl | rfl | rfl | rfl | rfl
    · rw [qE10, setE_eq] at hv
      exact va_same rfl hv
    · rw [qE10, setE_ne (by simp), qE9, setE_ne (by simp), qE8, setE_ne (by simp), qE7, setE_ne (by simp), qE6, setE_ne (by simp), qE5, setE_ne (by simp), qE4, setE_ne (by simp), qE3, setE_ne (by simp), qE2, setE_ne (by simp), qE1, setE_eq] at hv
      exact va_same rfl hv
    · rw [qE10, setE_ne (by simp), qE9, setE_ne (by simp), qE8, setE_ne (by simp), qE7, setE_ne (by simp), qE6, setE_ne (by simp), qE5, setE_ne (by simp), qE4, setE_ne (by simp), qE3, setE_eq] at hv
      exact va_same rfl hv
    · rw [qE10, setE_ne (by simp), qE9, setE_ne (by simp), qE8, setE_ne (by simp), qE7, setE_ne (by simp), qE6, setE_ne (by simp), qE5, setE_eq] at hv
      exact va_same rfl hv
    · rw [qE10, setE_ne (by simp), qE9, setE_ne (by simp), qE8, setE_ne (by simp), qE7, setE_eq] at hv
      exact va_same rfl hv
    · rw [qE10, setE_ne (by simp), qE9, setE_eq] at hv
      exact va_same rfl hv
  · rw [ovl_out hm]
    simp only [ctS6, List.mem_cons, List.not_mem_nil, or_false, not_or] at hm
    obtain ⟨m0, m1, m2, m3, m4, m5⟩ := hm
    rw [qE10, setE_ne m0, qE9, setE_ne m5, qE8, setE_ne m0, qE7, setE_ne m4, qE6, setE_ne m0, qE5, setE_ne m3, qE4, setE_ne m0, qE3, setE_ne m2, qE2, setE_ne m0, qE1, setE_ne m1] at hv
    exact hv
def ctS5 (n : Nat) : List LA := [(5, n, 5, 0), (5, n, 6, 0), (5, n, 7, 0), (5, n, 8, 0), (5, n, 8, 1), (5, n, 8, 2), (5, n, 8, 3), (5, n, 8, 4), (5, n, 8, 5), (5, n, 9, 0), (5, n, 9, 1), (5, n, 9, 2), (5, n, 9, 3), (5, n, 9, 4), (5, n, 9, 5)]
set_option maxRecDepth 100000 in
set_option maxHeartbeats 8000000 in
theorem ci_X5 {l : Launch} {G : Gt} {A : Nat → Prop} {B lv t k0 : Nat} {E : LA → va_E} {n : Nat} (hB : GB G B A) (hG : Gok G A) (hl : ∀ (j : Nat) (la : LA), (ctS5 n)[j]? = some la → (lyG G)[t + j]? = some la) (hk0 : (lyG G)[k0]? = some (5, n, 0, 0)) (hlt : k0 < t) (aE : E (5, n, 0, 0) = blk 5) : MC l G A B 1 yX5_init cX5_init 1 [.ref (ad G (5, n, 0, 0))] t E (t + 15) (ovl G ((5, n, 0, 0) :: ctS5 n) E) 15 635 := by
  refine mc_start RX5 hB hG (by decide +kernel) rfl rfl (Nat.le_of_ble_eq_true rfl) (L := [(0, .ref (ad G (5, n, 0, 0)))]) rfl (fun p e s m args below meth c C => ?_)
  have aE : E (5, n, 0, 0) = .inr (5, [(.int 0 : Value), (.int 0 : Value), (.int 0 : Value), (.int 0 : Value), (.null : Value), (.null : Value), (.null : Value), (.null : Value), (.null : Value)]) := aE
  refine j_aload_n (C.x (D := D0) (by decide) (by decide)) 0 dX5_init_0 rfl rfl ?_
  refine c_obj C co_X5_3 (by decide) (Nat.le_of_ble_eq_true rfl) dX5_init_1 ?_
  refine j_aload_n (C.x (D := D0) (by decide) (by decide)) 0 dX5_init_4 rfl rfl ?_
  refine j_iconst (C.x (D := D0) (by decide) (by decide)) (5 : Int32) (by decide) dX5_init_5 ?_
  refine c_newa C (atype := .int) (ty := .int) 0 5 (5, n, 5, 0) (hl 0 _ rfl) rfl rfl tm_aI (fun _ => vc_i _ _) (by decide) (by decide) (by decide) (by decide) (by decide) dX5_init_6 ?_
  obtain ⟨E1, qE1⟩ : ∃ x, x = setE E (5, n, 5, 0) (.inl (G.2.2.1 0, 5, (.inl (fun _ => 0)))) := ⟨_, rfl⟩
  refine c_E qE1 ?_
  have aE1 : E1 (5, n, 0, 0) = .inr (5, [.int 0, .int 0, .int 0, .int 0, .null, .null, .null, .null, .null]) := by rw [qE1, setE_ne (by simp)]; exact aE
  refine c_putK C cf_X5_9 (by decide) rfl hk0 (by omega) aE1 (by decide) (Nat.le_of_ble_eq_true rfl) rfl rfl dX5_init_8 ?_
  obtain ⟨E2, qE2⟩ : ∃ x, x = setE E1 (5, n, 0, 0) (.inr (5, [.int 0, .int 0, .int 0, .int 0, .ref (ad G (5, n, 5, 0)), .null, .null, .null, .null])) := ⟨_, rfl⟩
  refine c_E qE2 ?_
  have aE2 : E2 (5, n, 0, 0) = .inr (5, [.int 0, .int 0, .int 0, .int 0, .ref (ad G (5, n, 5, 0)), .null, .null, .null, .null]) := by rw [qE2, setE_eq]
  refine j_aload_n (C.x (D := D0) (by decide) (by decide)) 0 dX5_init_11 rfl rfl ?_
  refine j_iconst (C.x (D := D0) (by decide) (by decide)) (5 : Int32) (by decide) dX5_init_12 ?_
  refine c_newa C (atype := .int) (ty := .int) 0 5 (5, n, 6, 0) (hl 1 _ rfl) rfl rfl tm_aI (fun _ => vc_i _ _) (by decide) (by decide) (by decide) (by decide) (by decide) dX5_init_13 ?_
  obtain ⟨E3, qE3⟩ : ∃ x, x = setE E2 (5, n, 6, 0) (.inl (G.2.2.1 0, 5, (.inl (fun _ => 0)))) := ⟨_, rfl⟩
  refine c_E qE3 ?_
  have aE3 : E3 (5, n, 0, 0) = .inr (5, [.int 0, .int 0, .int 0, .int 0, .ref (ad G (5, n, 5, 0)), .null, .null, .null, .null]) := by rw [qE3, setE_ne (by simp)]; exact aE2
  refine c_putK C cf_X5_15 (by decide) rfl hk0 (by omega) aE3 (by decide) (Nat.le_of_ble_eq_true rfl) rfl rfl dX5_init_15 ?_
  obtain ⟨E4, qE4⟩ : ∃ x, x = setE E3 (5, n, 0, 0) (.inr (5, [.int 0, .int 0, .int 0, .int 0, .ref (ad G (5, n, 5, 0)), .ref (ad G (5, n, 6, 0)), .null, .null, .null])) := ⟨_, rfl⟩
  refine c_E qE4 ?_
  have aE4 : E4 (5, n, 0, 0) = .inr (5, [.int 0, .int 0, .int 0, .int 0, .ref (ad G (5, n, 5, 0)), .ref (ad G (5, n, 6, 0)), .null, .null, .null]) := by rw [qE4, setE_eq]
  refine j_aload_n (C.x (D := D0) (by decide) (by decide)) 0 dX5_init_18 rfl rfl ?_
  refine j_iconst (C.x (D := D0) (by decide) (by decide)) (5 : Int32) (by decide) dX5_init_19 ?_
  refine c_newa C (atype := .int) (ty := .int) 0 5 (5, n, 7, 0) (hl 2 _ rfl) rfl rfl tm_aI (fun _ => vc_i _ _) (by decide) (by decide) (by decide) (by decide) (by decide) dX5_init_20 ?_
  obtain ⟨E5, qE5⟩ : ∃ x, x = setE E4 (5, n, 7, 0) (.inl (G.2.2.1 0, 5, (.inl (fun _ => 0)))) := ⟨_, rfl⟩
  refine c_E qE5 ?_
  have aE5 : E5 (5, n, 0, 0) = .inr (5, [.int 0, .int 0, .int 0, .int 0, .ref (ad G (5, n, 5, 0)), .ref (ad G (5, n, 6, 0)), .null, .null, .null]) := by rw [qE5, setE_ne (by simp)]; exact aE4
  refine c_putK C cf_X5_18 (by decide) rfl hk0 (by omega) aE5 (by decide) (Nat.le_of_ble_eq_true rfl) rfl rfl dX5_init_22 ?_
  obtain ⟨E6, qE6⟩ : ∃ x, x = setE E5 (5, n, 0, 0) (.inr (5, [.int 0, .int 0, .int 0, .int 0, .ref (ad G (5, n, 5, 0)), .ref (ad G (5, n, 6, 0)), .ref (ad G (5, n, 7, 0)), .null, .null])) := ⟨_, rfl⟩
  refine c_E qE6 ?_
  have aE6 : E6 (5, n, 0, 0) = .inr (5, [.int 0, .int 0, .int 0, .int 0, .ref (ad G (5, n, 5, 0)), .ref (ad G (5, n, 6, 0)), .ref (ad G (5, n, 7, 0)), .null, .null]) := by rw [qE6, setE_eq]
  refine j_aload_n (C.x (D := D0) (by decide) (by decide)) 0 dX5_init_25 rfl rfl ?_
  refine j_iconst (C.x (D := D0) (by decide) (by decide)) (5 : Int32) (by decide) dX5_init_26 ?_
  refine j_bipush (C.x (D := D0) (by decide) (by decide)) (61 : Int32) (by decide) dX5_init_27 ?_
  refine c_mna C 5 61 (5, n, 8, 0) (fun j => (5, n, 8, j + 1)) (hl 3 _ rfl) (fun j hj => match j, hj with | 0, _ => hl 4 _ rfl | 1, _ => hl 5 _ rfl | 2, _ => hl 6 _ rfl | 3, _ => hl 7 _ rfl | 4, _ => hl 8 _ rfl | j + 5, h => absurd h (by omega)) (fun j _ => by simp) (fun i j _ _ h => by simpa using h) cc_X5_21 (by decide) (by decide) (by decide) (by decide) (by decide) (by decide) (by decide) (by decide) (by decide) dX5_init_29 ?_
  obtain ⟨E7, qE7⟩ : ∃ x, x = mnE E6 (5, n, 8, 0) ((List.range 5).map (fun j => (5, n, 8, j + 1))) (.inl (G.2.2.1 7, 5, .inr (.inr (.inr (.inr (fun j => some (ad G ((fun j => (5, n, 8, j + 1)) j)))))))) (.inl (G.2.2.1 0, 61, .inl (fun _ => 0))) := ⟨_, rfl⟩
  refine c_E qE7 ?_
  have aE7 : E7 (5, n, 0, 0) = .inr (5, [.int 0, .int 0, .int 0, .int 0, .ref (ad G (5, n, 5, 0)), .ref (ad G (5, n, 6, 0)), .ref (ad G (5, n, 7, 0)), .null, .null]) := by rw [qE7, mnE_ne (by simp) (by simp)]; exact aE6
  refine c_putK C cf_X5_23 (by decide) rfl hk0 (by omega) aE7 (by decide) (Nat.le_of_ble_eq_true rfl) rfl rfl dX5_init_33 ?_
  obtain ⟨E8, qE8⟩ : ∃ x, x = setE E7 (5, n, 0, 0) (.inr (5, [.int 0, .int 0, .int 0, .int 0, .ref (ad G (5, n, 5, 0)), .ref (ad G (5, n, 6, 0)), .ref (ad G (5, n, 7, 0)), .ref (ad G (5, n, 8, 0)), .null])) := ⟨_, rfl⟩
  refine c_E qE8 ?_
  have aE8 : E8 (5, n, 0, 0) = .inr (5, [.int 0, .int 0, .int 0, .int 0, .ref (ad G (5, n, 5, 0)), .ref (ad G (5, n, 6, 0)), .ref (ad G (5, n, 7, 0)), .ref (ad G (5, n, 8, 0)), .null]) := by rw [qE8, setE_eq]
  refine j_aload_n (C.x (D := D0) (by decide) (by decide)) 0 dX5_init_36 rfl rfl ?_
  refine j_iconst (C.x (D := D0) (by decide) (by decide)) (5 : Int32) (by decide) dX5_init_37 ?_
  refine j_bipush (C.x (D := D0) (by decide) (by decide)) (61 : Int32) (by decide) dX5_init_38 ?_
  refine c_mna C 5 61 (5, n, 9, 0) (fun j => (5, n, 9, j + 1)) (hl 9 _ rfl) (fun j hj => match j, hj with | 0, _ => hl 10 _ rfl | 1, _ => hl 11 _ rfl | 2, _ => hl 12 _ rfl | 3, _ => hl 13 _ rfl | 4, _ => hl 14 _ rfl | j + 5, h => absurd h (by omega)) (fun j _ => by simp) (fun i j _ _ h => by simpa using h) cc_X5_21 (by decide) (by decide) (by decide) (by decide) (by decide) (by decide) (by decide) (by decide) (by decide) dX5_init_40 ?_
  obtain ⟨E9, qE9⟩ : ∃ x, x = mnE E8 (5, n, 9, 0) ((List.range 5).map (fun j => (5, n, 9, j + 1))) (.inl (G.2.2.1 7, 5, .inr (.inr (.inr (.inr (fun j => some (ad G ((fun j => (5, n, 9, j + 1)) j)))))))) (.inl (G.2.2.1 0, 61, .inl (fun _ => 0))) := ⟨_, rfl⟩
  refine c_E qE9 ?_
  have aE9 : E9 (5, n, 0, 0) = .inr (5, [.int 0, .int 0, .int 0, .int 0, .ref (ad G (5, n, 5, 0)), .ref (ad G (5, n, 6, 0)), .ref (ad G (5, n, 7, 0)), .ref (ad G (5, n, 8, 0)), .null]) := by rw [qE9, mnE_ne (by simp) (by simp)]; exact aE8
  refine c_putK C cf_X5_26 (by decide) rfl hk0 (by omega) aE9 (by decide) (Nat.le_of_ble_eq_true rfl) rfl rfl dX5_init_44 ?_
  obtain ⟨E10, qE10⟩ : ∃ x, x = setE E9 (5, n, 0, 0) (.inr (5, [.int 0, .int 0, .int 0, .int 0, .ref (ad G (5, n, 5, 0)), .ref (ad G (5, n, 6, 0)), .ref (ad G (5, n, 7, 0)), .ref (ad G (5, n, 8, 0)), .ref (ad G (5, n, 9, 0))])) := ⟨_, rfl⟩
  refine c_E qE10 ?_
  have aE10 : E10 (5, n, 0, 0) = .inr (5, [.int 0, .int 0, .int 0, .int 0, .ref (ad G (5, n, 5, 0)), .ref (ad G (5, n, 6, 0)), .ref (ad G (5, n, 7, 0)), .ref (ad G (5, n, 8, 0)), .ref (ad G (5, n, 9, 0))]) := by rw [qE10, setE_eq]
  refine c_ret C (by decide) (by decide) rfl (fun k la hk hla H hv => ?_) dX5_init_47
  by_cases hm : la ∈ (5, n, 0, 0) :: ctS5 n
  · rw [ovl_in hm]
    simp only [ctS5, List.mem_cons, List.not_mem_nil, or_false] at hm
    rcases hm with rfl | rfl | rfl | rfl | rfl | rfl | rfl | rfl | rfl | rfl | rfl | rfl | rfl | rfl | rfl | rfl
    · rw [qE10, setE_eq] at hv
      exact va_same rfl hv
    · rw [qE10, setE_ne (by simp), qE9, mnE_ne (by simp) (by simp), qE8, setE_ne (by simp), qE7, mnE_ne (by simp) (by simp), qE6, setE_ne (by simp), qE5, setE_ne (by simp), qE4, setE_ne (by simp), qE3, setE_ne (by simp), qE2, setE_ne (by simp), qE1, setE_eq] at hv
      exact va_same rfl hv
    · rw [qE10, setE_ne (by simp), qE9, mnE_ne (by simp) (by simp), qE8, setE_ne (by simp), qE7, mnE_ne (by simp) (by simp), qE6, setE_ne (by simp), qE5, setE_ne (by simp), qE4, setE_ne (by simp), qE3, setE_eq] at hv
      exact va_same rfl hv
    · rw [qE10, setE_ne (by simp), qE9, mnE_ne (by simp) (by simp), qE8, setE_ne (by simp), qE7, mnE_ne (by simp) (by simp), qE6, setE_ne (by simp), qE5, setE_eq] at hv
      exact va_same rfl hv
    · rw [qE10, setE_ne (by simp), qE9, mnE_ne (by simp) (by simp), qE8, setE_ne (by simp), qE7, mnE_eq] at hv
      exact va_same rfl hv
    · rw [qE10, setE_ne (by simp), qE9, mnE_ne (by simp) (by simp), qE8, setE_ne (by simp), qE7, mnE_in (by simp) (by simp)] at hv
      exact va_same rfl hv
    · rw [qE10, setE_ne (by simp), qE9, mnE_ne (by simp) (by simp), qE8, setE_ne (by simp), qE7, mnE_in (by simp) (by simp)] at hv
      exact va_same rfl hv
    · rw [qE10, setE_ne (by simp), qE9, mnE_ne (by simp) (by simp), qE8, setE_ne (by simp), qE7, mnE_in (by simp) (by simp)] at hv
      exact va_same rfl hv
    · rw [qE10, setE_ne (by simp), qE9, mnE_ne (by simp) (by simp), qE8, setE_ne (by simp), qE7, mnE_in (by simp) (by simp)] at hv
      exact va_same rfl hv
    · rw [qE10, setE_ne (by simp), qE9, mnE_ne (by simp) (by simp), qE8, setE_ne (by simp), qE7, mnE_in (by simp) (by simp)] at hv
      exact va_same rfl hv
    · rw [qE10, setE_ne (by simp), qE9, mnE_eq] at hv
      exact va_same rfl hv
    · rw [qE10, setE_ne (by simp), qE9, mnE_in (by simp) (by simp)] at hv
      exact va_same rfl hv
    · rw [qE10, setE_ne (by simp), qE9, mnE_in (by simp) (by simp)] at hv
      exact va_same rfl hv
    · rw [qE10, setE_ne (by simp), qE9, mnE_in (by simp) (by simp)] at hv
      exact va_same rfl hv
    · rw [qE10, setE_ne (by simp), qE9, mnE_in (by simp) (by simp)] at hv
      exact va_same rfl hv
    · rw [qE10, setE_ne (by simp), qE9, mnE_in (by simp) (by simp)] at hv
      exact va_same rfl hv
  · rw [ovl_out hm]
    simp only [ctS5, List.mem_cons, List.not_mem_nil, or_false, not_or] at hm
    obtain ⟨m0, m1, m2, m3, m4, m5, m6, m7, m8, m9, m10, m11, m12, m13, m14, m15⟩ := hm
    rw [qE10, setE_ne m0, qE9, mnE_ne m10 (by simp [List.range_succ, m11, m12, m13, m14, m15]), qE8, setE_ne m0, qE7, mnE_ne m4 (by simp [List.range_succ, m5, m6, m7, m8, m9]), qE6, setE_ne m0, qE5, setE_ne m3, qE4, setE_ne m0, qE3, setE_ne m2, qE2, setE_ne m0, qE1, setE_ne m1] at hv
    exact hv
def ctS3 (n : Nat) : List LA := [(3, n, 1, 0), (3, n, 2, 0), (3, n, 4, 0), (3, n, 5, 0), (3, n, 6, 0), (3, n, 8, 0)]
set_option maxRecDepth 100000 in
set_option maxHeartbeats 8000000 in
theorem ci_X3 {l : Launch} {G : Gt} {A : Nat → Prop} {B lv t k0 : Nat} {E : LA → va_E} {n : Nat} (hB : GB G B A) (hG : Gok G A) (hl : ∀ (j : Nat) (la : LA), (ctS3 n)[j]? = some la → (lyG G)[t + j]? = some la) (hk0 : (lyG G)[k0]? = some (3, n, 0, 0)) (hlt : k0 < t) (aE : E (3, n, 0, 0) = blk 3) : MC l G A B 1 yX3_init cX3_init 1 [.ref (ad G (3, n, 0, 0))] t E (t + 6) (ovl G ((3, n, 0, 0) :: ctS3 n) E) 6 900 := by
  refine mc_start RX3 hB hG (by decide +kernel) rfl rfl (Nat.le_of_ble_eq_true rfl) (L := [(0, .ref (ad G (3, n, 0, 0)))]) rfl (fun p e s m args below meth c C => ?_)
  have aE : E (3, n, 0, 0) = .inr (3, [(.null : Value), (.null : Value), (.int 0 : Value), (.null : Value), (.null : Value), (.null : Value), (.int 0 : Value), (.null : Value)]) := aE
  refine j_aload_n (C.x (D := D0) (by decide) (by decide)) 0 dX3_init_0 rfl rfl ?_
  refine c_obj C co_X3_3 (by decide) (Nat.le_of_ble_eq_true rfl) dX3_init_1 ?_
  refine j_aload_n (C.x (D := D0) (by decide) (by decide)) 0 dX3_init_4 rfl rfl ?_
  refine j_sipush (C.x (D := D0) (by decide) (by decide)) (400 : Int32) (by decide) dX3_init_5 ?_
  refine c_newa C (atype := .int) (ty := .int) 0 400 (3, n, 1, 0) (hl 0 _ rfl) rfl rfl tm_aI (fun _ => vc_i _ _) (by decide) (by decide) (by decide) (by decide) (by decide) dX3_init_8 ?_
  obtain ⟨E1, qE1⟩ : ∃ x, x = setE E (3, n, 1, 0) (.inl (G.2.2.1 0, 400, (.inl (fun _ => 0)))) := ⟨_, rfl⟩
  refine c_E qE1 ?_
  have aE1 : E1 (3, n, 0, 0) = .inr (3, [.null, .null, .int 0, .null, .null, .null, .int 0, .null]) := by rw [qE1, setE_ne (by simp)]; exact aE
  refine c_putK C cf_X3_9 (by decide) rfl hk0 (by omega) aE1 (by decide) (Nat.le_of_ble_eq_true rfl) rfl rfl dX3_init_10 ?_
  obtain ⟨E2, qE2⟩ : ∃ x, x = setE E1 (3, n, 0, 0) (.inr (3, [.ref (ad G (3, n, 1, 0)), .null, .int 0, .null, .null, .null, .int 0, .null])) := ⟨_, rfl⟩
  refine c_E qE2 ?_
  have aE2 : E2 (3, n, 0, 0) = .inr (3, [.ref (ad G (3, n, 1, 0)), .null, .int 0, .null, .null, .null, .int 0, .null]) := by rw [qE2, setE_eq]
  refine j_aload_n (C.x (D := D0) (by decide) (by decide)) 0 dX3_init_13 rfl rfl ?_
  refine j_sipush (C.x (D := D0) (by decide) (by decide)) (400 : Int32) (by decide) dX3_init_14 ?_
  refine c_newa C (atype := .int) (ty := .int) 0 400 (3, n, 2, 0) (hl 1 _ rfl) rfl rfl tm_aI (fun _ => vc_i _ _) (by decide) (by decide) (by decide) (by decide) (by decide) dX3_init_17 ?_
  obtain ⟨E3, qE3⟩ : ∃ x, x = setE E2 (3, n, 2, 0) (.inl (G.2.2.1 0, 400, (.inl (fun _ => 0)))) := ⟨_, rfl⟩
  refine c_E qE3 ?_
  have aE3 : E3 (3, n, 0, 0) = .inr (3, [.ref (ad G (3, n, 1, 0)), .null, .int 0, .null, .null, .null, .int 0, .null]) := by rw [qE3, setE_ne (by simp)]; exact aE2
  refine c_putK C cf_X3_15 (by decide) rfl hk0 (by omega) aE3 (by decide) (Nat.le_of_ble_eq_true rfl) rfl rfl dX3_init_19 ?_
  obtain ⟨E4, qE4⟩ : ∃ x, x = setE E3 (3, n, 0, 0) (.inr (3, [.ref (ad G (3, n, 1, 0)), .ref (ad G (3, n, 2, 0)), .int 0, .null, .null, .null, .int 0, .null])) := ⟨_, rfl⟩
  refine c_E qE4 ?_
  have aE4 : E4 (3, n, 0, 0) = .inr (3, [.ref (ad G (3, n, 1, 0)), .ref (ad G (3, n, 2, 0)), .int 0, .null, .null, .null, .int 0, .null]) := by rw [qE4, setE_eq]
  refine j_aload_n (C.x (D := D0) (by decide) (by decide)) 0 dX3_init_22 rfl rfl ?_
  refine j_bipush (C.x (D := D0) (by decide) (by decide)) (12 : Int32) (by decide) dX3_init_23 ?_
  refine c_newa C (atype := .int) (ty := .int) 0 12 (3, n, 4, 0) (hl 2 _ rfl) rfl rfl tm_aI (fun _ => vc_i _ _) (by decide) (by decide) (by decide) (by decide) (by decide) dX3_init_25 ?_
  obtain ⟨E5, qE5⟩ : ∃ x, x = setE E4 (3, n, 4, 0) (.inl (G.2.2.1 0, 12, (.inl (fun _ => 0)))) := ⟨_, rfl⟩
  refine c_E qE5 ?_
  have aE5 : E5 (3, n, 0, 0) = .inr (3, [.ref (ad G (3, n, 1, 0)), .ref (ad G (3, n, 2, 0)), .int 0, .null, .null, .null, .int 0, .null]) := by rw [qE5, setE_ne (by simp)]; exact aE4
  refine c_putK C cf_X3_18 (by decide) rfl hk0 (by omega) aE5 (by decide) (Nat.le_of_ble_eq_true rfl) rfl rfl dX3_init_27 ?_
  obtain ⟨E6, qE6⟩ : ∃ x, x = setE E5 (3, n, 0, 0) (.inr (3, [.ref (ad G (3, n, 1, 0)), .ref (ad G (3, n, 2, 0)), .int 0, .ref (ad G (3, n, 4, 0)), .null, .null, .int 0, .null])) := ⟨_, rfl⟩
  refine c_E qE6 ?_
  have aE6 : E6 (3, n, 0, 0) = .inr (3, [.ref (ad G (3, n, 1, 0)), .ref (ad G (3, n, 2, 0)), .int 0, .ref (ad G (3, n, 4, 0)), .null, .null, .int 0, .null]) := by rw [qE6, setE_eq]
  refine j_aload_n (C.x (D := D0) (by decide) (by decide)) 0 dX3_init_30 rfl rfl ?_
  refine j_bipush (C.x (D := D0) (by decide) (by decide)) (12 : Int32) (by decide) dX3_init_31 ?_
  refine c_newa C (atype := .int) (ty := .int) 0 12 (3, n, 5, 0) (hl 3 _ rfl) rfl rfl tm_aI (fun _ => vc_i _ _) (by decide) (by decide) (by decide) (by decide) (by decide) dX3_init_33 ?_
  obtain ⟨E7, qE7⟩ : ∃ x, x = setE E6 (3, n, 5, 0) (.inl (G.2.2.1 0, 12, (.inl (fun _ => 0)))) := ⟨_, rfl⟩
  refine c_E qE7 ?_
  have aE7 : E7 (3, n, 0, 0) = .inr (3, [.ref (ad G (3, n, 1, 0)), .ref (ad G (3, n, 2, 0)), .int 0, .ref (ad G (3, n, 4, 0)), .null, .null, .int 0, .null]) := by rw [qE7, setE_ne (by simp)]; exact aE6
  refine c_putK C cf_X3_21 (by decide) rfl hk0 (by omega) aE7 (by decide) (Nat.le_of_ble_eq_true rfl) rfl rfl dX3_init_35 ?_
  obtain ⟨E8, qE8⟩ : ∃ x, x = setE E7 (3, n, 0, 0) (.inr (3, [.ref (ad G (3, n, 1, 0)), .ref (ad G (3, n, 2, 0)), .int 0, .ref (ad G (3, n, 4, 0)), .ref (ad G (3, n, 5, 0)), .null, .int 0, .null])) := ⟨_, rfl⟩
  refine c_E qE8 ?_
  have aE8 : E8 (3, n, 0, 0) = .inr (3, [.ref (ad G (3, n, 1, 0)), .ref (ad G (3, n, 2, 0)), .int 0, .ref (ad G (3, n, 4, 0)), .ref (ad G (3, n, 5, 0)), .null, .int 0, .null]) := by rw [qE8, setE_eq]
  refine j_aload_n (C.x (D := D0) (by decide) (by decide)) 0 dX3_init_38 rfl rfl ?_
  refine j_bipush (C.x (D := D0) (by decide) (by decide)) (12 : Int32) (by decide) dX3_init_39 ?_
  refine c_newa C (atype := .int) (ty := .int) 0 12 (3, n, 6, 0) (hl 4 _ rfl) rfl rfl tm_aI (fun _ => vc_i _ _) (by decide) (by decide) (by decide) (by decide) (by decide) dX3_init_41 ?_
  obtain ⟨E9, qE9⟩ : ∃ x, x = setE E8 (3, n, 6, 0) (.inl (G.2.2.1 0, 12, (.inl (fun _ => 0)))) := ⟨_, rfl⟩
  refine c_E qE9 ?_
  have aE9 : E9 (3, n, 0, 0) = .inr (3, [.ref (ad G (3, n, 1, 0)), .ref (ad G (3, n, 2, 0)), .int 0, .ref (ad G (3, n, 4, 0)), .ref (ad G (3, n, 5, 0)), .null, .int 0, .null]) := by rw [qE9, setE_ne (by simp)]; exact aE8
  refine c_putK C cf_X3_24 (by decide) rfl hk0 (by omega) aE9 (by decide) (Nat.le_of_ble_eq_true rfl) rfl rfl dX3_init_43 ?_
  obtain ⟨E10, qE10⟩ : ∃ x, x = setE E9 (3, n, 0, 0) (.inr (3, [.ref (ad G (3, n, 1, 0)), .ref (ad G (3, n, 2, 0)), .int 0, .ref (ad G (3, n, 4, 0)), .ref (ad G (3, n, 5, 0)), .ref (ad G (3, n, 6, 0)), .int 0, .null])) := ⟨_, rfl⟩
  refine c_E qE10 ?_
  have aE10 : E10 (3, n, 0, 0) = .inr (3, [.ref (ad G (3, n, 1, 0)), .ref (ad G (3, n, 2, 0)), .int 0, .ref (ad G (3, n, 4, 0)), .ref (ad G (3, n, 5, 0)), .ref (ad G (3, n, 6, 0)), .int 0, .null]) := by rw [qE10, setE_eq]
  refine j_aload_n (C.x (D := D0) (by decide) (by decide)) 0 dX3_init_46 rfl rfl ?_
  refine j_bipush (C.x (D := D0) (by decide) (by decide)) (64 : Int32) (by decide) dX3_init_47 ?_
  refine c_newa C (atype := .long) (ty := .long) 1 64 (3, n, 8, 0) (hl 5 _ rfl) rfl rfl tm_aJ (fun _ => vc_l _ _) (by decide) (by decide) (by decide) (by decide) (by decide) dX3_init_49 ?_
  obtain ⟨E11, qE11⟩ : ∃ x, x = setE E10 (3, n, 8, 0) (.inl (G.2.2.1 1, 64, (.inr (.inl (fun _ => 0))))) := ⟨_, rfl⟩
  refine c_E qE11 ?_
  have aE11 : E11 (3, n, 0, 0) = .inr (3, [.ref (ad G (3, n, 1, 0)), .ref (ad G (3, n, 2, 0)), .int 0, .ref (ad G (3, n, 4, 0)), .ref (ad G (3, n, 5, 0)), .ref (ad G (3, n, 6, 0)), .int 0, .null]) := by rw [qE11, setE_ne (by simp)]; exact aE10
  refine c_putK C cf_X3_27 (by decide) rfl hk0 (by omega) aE11 (by decide) (Nat.le_of_ble_eq_true rfl) rfl rfl dX3_init_51 ?_
  obtain ⟨E12, qE12⟩ : ∃ x, x = setE E11 (3, n, 0, 0) (.inr (3, [.ref (ad G (3, n, 1, 0)), .ref (ad G (3, n, 2, 0)), .int 0, .ref (ad G (3, n, 4, 0)), .ref (ad G (3, n, 5, 0)), .ref (ad G (3, n, 6, 0)), .int 0, .ref (ad G (3, n, 8, 0))])) := ⟨_, rfl⟩
  refine c_E qE12 ?_
  have aE12 : E12 (3, n, 0, 0) = .inr (3, [.ref (ad G (3, n, 1, 0)), .ref (ad G (3, n, 2, 0)), .int 0, .ref (ad G (3, n, 4, 0)), .ref (ad G (3, n, 5, 0)), .ref (ad G (3, n, 6, 0)), .int 0, .ref (ad G (3, n, 8, 0))]) := by rw [qE12, setE_eq]
  refine c_ret C (by decide) (by decide) rfl (fun k la hk hla H hv => ?_) dX3_init_54
  by_cases hm : la ∈ (3, n, 0, 0) :: ctS3 n
  · rw [ovl_in hm]
    simp only [ctS3, List.mem_cons, List.not_mem_nil, or_false] at hm
    rcases hm with rfl | rfl | rfl | rfl | rfl | rfl | rfl
    · rw [qE12, setE_eq] at hv
      exact va_same rfl hv
    · rw [qE12, setE_ne (by simp), qE11, setE_ne (by simp), qE10, setE_ne (by simp), qE9, setE_ne (by simp), qE8, setE_ne (by simp), qE7, setE_ne (by simp), qE6, setE_ne (by simp), qE5, setE_ne (by simp), qE4, setE_ne (by simp), qE3, setE_ne (by simp), qE2, setE_ne (by simp), qE1, setE_eq] at hv
      exact va_same rfl hv
    · rw [qE12, setE_ne (by simp), qE11, setE_ne (by simp), qE10, setE_ne (by simp), qE9, setE_ne (by simp), qE8, setE_ne (by simp), qE7, setE_ne (by simp), qE6, setE_ne (by simp), qE5, setE_ne (by simp), qE4, setE_ne (by simp), qE3, setE_eq] at hv
      exact va_same rfl hv
    · rw [qE12, setE_ne (by simp), qE11, setE_ne (by simp), qE10, setE_ne (by simp), qE9, setE_ne (by simp), qE8, setE_ne (by simp), qE7, setE_ne (by simp), qE6, setE_ne (by simp), qE5, setE_eq] at hv
      exact va_same rfl hv
    · rw [qE12, setE_ne (by simp), qE11, setE_ne (by simp), qE10, setE_ne (by simp), qE9, setE_ne (by simp), qE8, setE_ne (by simp), qE7, setE_eq] at hv
      exact va_same rfl hv
    · rw [qE12, setE_ne (by simp), qE11, setE_ne (by simp), qE10, setE_ne (by simp), qE9, setE_eq] at hv
      exact va_same rfl hv
    · rw [qE12, setE_ne (by simp), qE11, setE_eq] at hv
      exact va_same rfl hv
  · rw [ovl_out hm]
    simp only [ctS3, List.mem_cons, List.not_mem_nil, or_false, not_or] at hm
    obtain ⟨m0, m1, m2, m3, m4, m5, m6⟩ := hm
    rw [qE12, setE_ne m0, qE11, setE_ne m6, qE10, setE_ne m0, qE9, setE_ne m5, qE8, setE_ne m0, qE7, setE_ne m4, qE6, setE_ne m0, qE5, setE_ne m3, qE4, setE_ne m0, qE3, setE_ne m2, qE2, setE_ne m0, qE1, setE_ne m1] at hv
    exact hv
def ctS2 : List LA := [(2, 0, 1, 0), (2, 0, 3, 0), (2, 0, 4, 0), (2, 0, 5, 0)]
set_option maxRecDepth 100000 in
set_option maxHeartbeats 8000000 in
theorem ci_X2 {l : Launch} {G : Gt} {A : Nat → Prop} {B lv t k0 : Nat} {E : LA → va_E} (hB : GB G B A) (hG : Gok G A) (hl : ∀ (j : Nat) (la : LA), (ctS2)[j]? = some la → (lyG G)[t + j]? = some la) (hk0 : (lyG G)[k0]? = some (2, 0, 0, 0)) (hlt : k0 < t) (aE : E (2, 0, 0, 0) = blk 2) : MC l G A B 1 yX2_init cX2_init 1 [.ref (ad G (2, 0, 0, 0))] t E (t + 4) (ovl G ((2, 0, 0, 0) :: ctS2) E) 4 1603 := by
  refine mc_start RX2 hB hG (by decide +kernel) rfl rfl (Nat.le_of_ble_eq_true rfl) (L := [(0, .ref (ad G (2, 0, 0, 0)))]) rfl (fun p e s m args below meth c C => ?_)
  have aE : E (2, 0, 0, 0) = .inr (2, [(.null : Value), (.int 0 : Value), (.null : Value), (.null : Value), (.null : Value), (.int 0 : Value), (.int 0 : Value), (.int 0 : Value), (.int 0 : Value)]) := aE
  refine j_aload_n (C.x (D := D0) (by decide) (by decide)) 0 dX2_init_0 rfl rfl ?_
  refine c_obj C co_X2_3 (by decide) (Nat.le_of_ble_eq_true rfl) dX2_init_1 ?_
  refine j_aload_n (C.x (D := D0) (by decide) (by decide)) 0 dX2_init_4 rfl rfl ?_
  refine j_sipush (C.x (D := D0) (by decide) (by decide)) (400 : Int32) (by decide) dX2_init_5 ?_
  refine c_newa C (atype := .int) (ty := .int) 0 400 (2, 0, 1, 0) (hl 0 _ rfl) rfl rfl tm_aI (fun _ => vc_i _ _) (by decide) (by decide) (by decide) (by decide) (by decide) dX2_init_8 ?_
  obtain ⟨E1, qE1⟩ : ∃ x, x = setE E (2, 0, 1, 0) (.inl (G.2.2.1 0, 400, (.inl (fun _ => 0)))) := ⟨_, rfl⟩
  refine c_E qE1 ?_
  have aE1 : E1 (2, 0, 0, 0) = .inr (2, [.null, .int 0, .null, .null, .null, .int 0, .int 0, .int 0, .int 0]) := by rw [qE1, setE_ne (by simp)]; exact aE
  refine c_putK C cf_X2_9 (by decide) rfl hk0 (by omega) aE1 (by decide) (Nat.le_of_ble_eq_true rfl) rfl rfl dX2_init_10 ?_
  obtain ⟨E2, qE2⟩ : ∃ x, x = setE E1 (2, 0, 0, 0) (.inr (2, [.ref (ad G (2, 0, 1, 0)), .int 0, .null, .null, .null, .int 0, .int 0, .int 0, .int 0])) := ⟨_, rfl⟩
  refine c_E qE2 ?_
  have aE2 : E2 (2, 0, 0, 0) = .inr (2, [.ref (ad G (2, 0, 1, 0)), .int 0, .null, .null, .null, .int 0, .int 0, .int 0, .int 0]) := by rw [qE2, setE_eq]
  refine j_aload_n (C.x (D := D0) (by decide) (by decide)) 0 dX2_init_13 rfl rfl ?_
  refine j_sipush (C.x (D := D0) (by decide) (by decide)) (401 : Int32) (by decide) dX2_init_14 ?_
  refine c_newa C (atype := .int) (ty := .int) 0 401 (2, 0, 3, 0) (hl 1 _ rfl) rfl rfl tm_aI (fun _ => vc_i _ _) (by decide) (by decide) (by decide) (by decide) (by decide) dX2_init_17 ?_
  obtain ⟨E3, qE3⟩ : ∃ x, x = setE E2 (2, 0, 3, 0) (.inl (G.2.2.1 0, 401, (.inl (fun _ => 0)))) := ⟨_, rfl⟩
  refine c_E qE3 ?_
  have aE3 : E3 (2, 0, 0, 0) = .inr (2, [.ref (ad G (2, 0, 1, 0)), .int 0, .null, .null, .null, .int 0, .int 0, .int 0, .int 0]) := by rw [qE3, setE_ne (by simp)]; exact aE2
  refine c_putK C cf_X2_15 (by decide) rfl hk0 (by omega) aE3 (by decide) (Nat.le_of_ble_eq_true rfl) rfl rfl dX2_init_19 ?_
  obtain ⟨E4, qE4⟩ : ∃ x, x = setE E3 (2, 0, 0, 0) (.inr (2, [.ref (ad G (2, 0, 1, 0)), .int 0, .ref (ad G (2, 0, 3, 0)), .null, .null, .int 0, .int 0, .int 0, .int 0])) := ⟨_, rfl⟩
  refine c_E qE4 ?_
  have aE4 : E4 (2, 0, 0, 0) = .inr (2, [.ref (ad G (2, 0, 1, 0)), .int 0, .ref (ad G (2, 0, 3, 0)), .null, .null, .int 0, .int 0, .int 0, .int 0]) := by rw [qE4, setE_eq]
  refine j_aload_n (C.x (D := D0) (by decide) (by decide)) 0 dX2_init_22 rfl rfl ?_
  refine j_sipush (C.x (D := D0) (by decide) (by decide)) (401 : Int32) (by decide) dX2_init_23 ?_
  refine c_newa C (atype := .int) (ty := .int) 0 401 (2, 0, 4, 0) (hl 2 _ rfl) rfl rfl tm_aI (fun _ => vc_i _ _) (by decide) (by decide) (by decide) (by decide) (by decide) dX2_init_26 ?_
  obtain ⟨E5, qE5⟩ : ∃ x, x = setE E4 (2, 0, 4, 0) (.inl (G.2.2.1 0, 401, (.inl (fun _ => 0)))) := ⟨_, rfl⟩
  refine c_E qE5 ?_
  have aE5 : E5 (2, 0, 0, 0) = .inr (2, [.ref (ad G (2, 0, 1, 0)), .int 0, .ref (ad G (2, 0, 3, 0)), .null, .null, .int 0, .int 0, .int 0, .int 0]) := by rw [qE5, setE_ne (by simp)]; exact aE4
  refine c_putK C cf_X2_18 (by decide) rfl hk0 (by omega) aE5 (by decide) (Nat.le_of_ble_eq_true rfl) rfl rfl dX2_init_28 ?_
  obtain ⟨E6, qE6⟩ : ∃ x, x = setE E5 (2, 0, 0, 0) (.inr (2, [.ref (ad G (2, 0, 1, 0)), .int 0, .ref (ad G (2, 0, 3, 0)), .ref (ad G (2, 0, 4, 0)), .null, .int 0, .int 0, .int 0, .int 0])) := ⟨_, rfl⟩
  refine c_E qE6 ?_
  have aE6 : E6 (2, 0, 0, 0) = .inr (2, [.ref (ad G (2, 0, 1, 0)), .int 0, .ref (ad G (2, 0, 3, 0)), .ref (ad G (2, 0, 4, 0)), .null, .int 0, .int 0, .int 0, .int 0]) := by rw [qE6, setE_eq]
  refine j_aload_n (C.x (D := D0) (by decide) (by decide)) 0 dX2_init_31 rfl rfl ?_
  refine j_sipush (C.x (D := D0) (by decide) (by decide)) (401 : Int32) (by decide) dX2_init_32 ?_
  refine c_newa C (atype := .int) (ty := .int) 0 401 (2, 0, 5, 0) (hl 3 _ rfl) rfl rfl tm_aI (fun _ => vc_i _ _) (by decide) (by decide) (by decide) (by decide) (by decide) dX2_init_35 ?_
  obtain ⟨E7, qE7⟩ : ∃ x, x = setE E6 (2, 0, 5, 0) (.inl (G.2.2.1 0, 401, (.inl (fun _ => 0)))) := ⟨_, rfl⟩
  refine c_E qE7 ?_
  have aE7 : E7 (2, 0, 0, 0) = .inr (2, [.ref (ad G (2, 0, 1, 0)), .int 0, .ref (ad G (2, 0, 3, 0)), .ref (ad G (2, 0, 4, 0)), .null, .int 0, .int 0, .int 0, .int 0]) := by rw [qE7, setE_ne (by simp)]; exact aE6
  refine c_putK C cf_X2_21 (by decide) rfl hk0 (by omega) aE7 (by decide) (Nat.le_of_ble_eq_true rfl) rfl rfl dX2_init_37 ?_
  obtain ⟨E8, qE8⟩ : ∃ x, x = setE E7 (2, 0, 0, 0) (.inr (2, [.ref (ad G (2, 0, 1, 0)), .int 0, .ref (ad G (2, 0, 3, 0)), .ref (ad G (2, 0, 4, 0)), .ref (ad G (2, 0, 5, 0)), .int 0, .int 0, .int 0, .int 0])) := ⟨_, rfl⟩
  refine c_E qE8 ?_
  have aE8 : E8 (2, 0, 0, 0) = .inr (2, [.ref (ad G (2, 0, 1, 0)), .int 0, .ref (ad G (2, 0, 3, 0)), .ref (ad G (2, 0, 4, 0)), .ref (ad G (2, 0, 5, 0)), .int 0, .int 0, .int 0, .int 0]) := by rw [qE8, setE_eq]
  refine c_ret C (by decide) (by decide) rfl (fun k la hk hla H hv => ?_) dX2_init_40
  by_cases hm : la ∈ (2, 0, 0, 0) :: ctS2
  · rw [ovl_in hm]
    simp only [ctS2, List.mem_cons, List.not_mem_nil, or_false] at hm
    rcases hm with rfl | rfl | rfl | rfl | rfl
    · rw [qE8, setE_eq] at hv
      exact va_same rfl hv
    · rw [qE8, setE_ne (by simp), qE7, setE_ne (by simp), qE6, setE_ne (by simp), qE5, setE_ne (by simp), qE4, setE_ne (by simp), qE3, setE_ne (by simp), qE2, setE_ne (by simp), qE1, setE_eq] at hv
      exact va_same rfl hv
    · rw [qE8, setE_ne (by simp), qE7, setE_ne (by simp), qE6, setE_ne (by simp), qE5, setE_ne (by simp), qE4, setE_ne (by simp), qE3, setE_eq] at hv
      exact va_same rfl hv
    · rw [qE8, setE_ne (by simp), qE7, setE_ne (by simp), qE6, setE_ne (by simp), qE5, setE_eq] at hv
      exact va_same rfl hv
    · rw [qE8, setE_ne (by simp), qE7, setE_eq] at hv
      exact va_same rfl hv
  · rw [ovl_out hm]
    simp only [ctS2, List.mem_cons, List.not_mem_nil, or_false, not_or] at hm
    obtain ⟨m0, m1, m2, m3, m4⟩ := hm
    rw [qE8, setE_ne m0, qE7, setE_ne m4, qE6, setE_ne m0, qE5, setE_ne m3, qE4, setE_ne m0, qE3, setE_ne m2, qE2, setE_ne m0, qE1, setE_ne m1] at hv
    exact hv
def ctS8 (n : Nat) : List LA := [(8, n, 9, 0)]
set_option maxRecDepth 100000 in
set_option maxHeartbeats 8000000 in
theorem ci_X8 {l : Launch} {G : Gt} {A : Nat → Prop} {B lv t k0 : Nat} {E : LA → va_E} {n : Nat} (hB : GB G B A) (hG : Gok G A) (hl : ∀ (j : Nat) (la : LA), (ctS8 n)[j]? = some la → (lyG G)[t + j]? = some la) (hk0 : (lyG G)[k0]? = some (8, n, 0, 0)) (hlt : k0 < t) (aE : E (8, n, 0, 0) = blk 8) : MC l G A B 1 yX8_init cX8_init 1 [.ref (ad G (8, n, 0, 0))] t E (t + 1) (ovl G ((8, n, 0, 0) :: ctS8 n) E) 1 12 := by
  refine mc_start RX8 hB hG (by decide +kernel) rfl rfl (Nat.le_of_ble_eq_true rfl) (L := [(0, .ref (ad G (8, n, 0, 0)))]) rfl (fun p e s m args below meth c C => ?_)
  have aE : E (8, n, 0, 0) = .inr (8, [(.null : Value), (.null : Value), (.int 0 : Value), (.int 0 : Value), (.int 0 : Value), (.int 0 : Value), (.int 0 : Value), (.int 0 : Value), (.null : Value)]) := aE
  refine j_aload_n (C.x (D := D0) (by decide) (by decide)) 0 dX8_init_0 rfl rfl ?_
  refine c_obj C co_X8_3 (by decide) (Nat.le_of_ble_eq_true rfl) dX8_init_1 ?_
  refine j_aload_n (C.x (D := D0) (by decide) (by decide)) 0 dX8_init_4 rfl rfl ?_
  refine j_bipush (C.x (D := D0) (by decide) (by decide)) (12 : Int32) (by decide) dX8_init_5 ?_
  refine c_newa C (atype := .long) (ty := .long) 1 12 (8, n, 9, 0) (hl 0 _ rfl) rfl rfl tm_aJ (fun _ => vc_l _ _) (by decide) (by decide) (by decide) (by decide) (by decide) dX8_init_7 ?_
  obtain ⟨E1, qE1⟩ : ∃ x, x = setE E (8, n, 9, 0) (.inl (G.2.2.1 1, 12, (.inr (.inl (fun _ => 0))))) := ⟨_, rfl⟩
  refine c_E qE1 ?_
  have aE1 : E1 (8, n, 0, 0) = .inr (8, [.null, .null, .int 0, .int 0, .int 0, .int 0, .int 0, .int 0, .null]) := by rw [qE1, setE_ne (by simp)]; exact aE
  refine c_putK C cf_X8_9 (by decide) rfl hk0 (by omega) aE1 (by decide) (Nat.le_of_ble_eq_true rfl) rfl rfl dX8_init_9 ?_
  obtain ⟨E2, qE2⟩ : ∃ x, x = setE E1 (8, n, 0, 0) (.inr (8, [.null, .null, .int 0, .int 0, .int 0, .int 0, .int 0, .int 0, .ref (ad G (8, n, 9, 0))])) := ⟨_, rfl⟩
  refine c_E qE2 ?_
  have aE2 : E2 (8, n, 0, 0) = .inr (8, [.null, .null, .int 0, .int 0, .int 0, .int 0, .int 0, .int 0, .ref (ad G (8, n, 9, 0))]) := by rw [qE2, setE_eq]
  refine c_ret C (by decide) (by decide) rfl (fun k la hk hla H hv => ?_) dX8_init_12
  by_cases hm : la ∈ (8, n, 0, 0) :: ctS8 n
  · rw [ovl_in hm]
    simp only [ctS8, List.mem_cons, List.not_mem_nil, or_false] at hm
    rcases hm with rfl | rfl
    · rw [qE2, setE_eq] at hv
      exact va_same rfl hv
    · rw [qE2, setE_ne (by simp), qE1, setE_eq] at hv
      exact va_same rfl hv
  · rw [ovl_out hm]
    simp only [ctS8, List.mem_cons, List.not_mem_nil, or_false, not_or] at hm
    obtain ⟨m0, m1⟩ := hm
    rw [qE2, setE_ne m0, qE1, setE_ne m1] at hv
    exact hv
def ctS4 : List LA := []
set_option maxRecDepth 100000 in
set_option maxHeartbeats 8000000 in
theorem ci_X4 {l : Launch} {G : Gt} {A : Nat → Prop} {B lv t k0 : Nat} {E : LA → va_E} (hB : GB G B A) (hG : Gok G A) (hl : ∀ (j : Nat) (la : LA), (ctS4)[j]? = some la → (lyG G)[t + j]? = some la) (hk0 : (lyG G)[k0]? = some (4, 0, 0, 0)) (hlt : k0 < t) (aE : E (4, 0, 0, 0) = blk 4) : MC l G A B 1 yX4_init cX4_init 2 [.ref (ad G (4, 0, 0, 0)), .ref (ad G (2, 0, 0, 0))] t E (t + 0) (ovl G ((4, 0, 0, 0) :: ctS4) E) 0 0 := by
  refine mc_start RX4 hB hG (by decide +kernel) rfl rfl (Nat.le_of_ble_eq_true rfl) (L := [(0, .ref (ad G (4, 0, 0, 0))), (1, .ref (ad G (2, 0, 0, 0)))]) rfl (fun p e s m args below meth c C => ?_)
  have aE : E (4, 0, 0, 0) = .inr (4, [(.null : Value), (.int 0 : Value)]) := aE
  refine j_aload_n (C.x (D := D0) (by decide) (by decide)) 0 dX4_init_0 rfl rfl ?_
  refine c_obj C co_X4_3 (by decide) (Nat.le_of_ble_eq_true rfl) dX4_init_1 ?_
  refine j_aload_n (C.x (D := D0) (by decide) (by decide)) 0 dX4_init_4 rfl rfl ?_
  refine j_aload_n (C.x (D := D0) (by decide) (by decide)) 1 dX4_init_5 rfl rfl ?_
  refine c_putK C cf_X4_9 (by decide) rfl hk0 (by omega) aE (by decide) (Nat.le_of_ble_eq_true rfl) rfl rfl dX4_init_6 ?_
  obtain ⟨E1, qE1⟩ : ∃ x, x = setE E (4, 0, 0, 0) (.inr (4, [.ref (ad G (2, 0, 0, 0)), .int 0])) := ⟨_, rfl⟩
  refine c_E qE1 ?_
  have aE1 : E1 (4, 0, 0, 0) = .inr (4, [.ref (ad G (2, 0, 0, 0)), .int 0]) := by rw [qE1, setE_eq]
  refine c_ret C (by decide) (by decide) rfl (fun k la hk hla H hv => ?_) dX4_init_9
  by_cases hm : la ∈ (4, 0, 0, 0) :: ctS4
  · rw [ovl_in hm]
    simp only [ctS4, List.mem_cons, List.not_mem_nil, or_false] at hm
    subst hm
    · rw [qE1, setE_eq] at hv
      exact va_same rfl hv
  · rw [ovl_out hm]
    simp only [ctS4, List.mem_cons, List.not_mem_nil, or_false, not_or] at hm
    have m0 := hm
    rw [qE1, setE_ne m0] at hv
    exact hv
def ctS7 : List LA := []
set_option maxRecDepth 100000 in
set_option maxHeartbeats 8000000 in
theorem ci_X7 {l : Launch} {G : Gt} {A : Nat → Prop} {B lv t k0 : Nat} {E : LA → va_E} (hB : GB G B A) (hG : Gok G A) (hl : ∀ (j : Nat) (la : LA), (ctS7)[j]? = some la → (lyG G)[t + j]? = some la) (hk0 : (lyG G)[k0]? = some (7, 0, 0, 0)) (hlt : k0 < t) (aE : E (7, 0, 0, 0) = blk 7) : MC l G A B 1 yX7_init cX7_init 2 [.ref (ad G (7, 0, 0, 0)), .ref (ad G (2, 0, 0, 0))] t E (t + 0) (ovl G ((7, 0, 0, 0) :: ctS7) E) 0 0 := by
  refine mc_start RX7 hB hG (by decide +kernel) rfl rfl (Nat.le_of_ble_eq_true rfl) (L := [(0, .ref (ad G (7, 0, 0, 0))), (1, .ref (ad G (2, 0, 0, 0)))]) rfl (fun p e s m args below meth c C => ?_)
  have aE : E (7, 0, 0, 0) = .inr (7, [(.null : Value)]) := aE
  refine j_aload_n (C.x (D := D0) (by decide) (by decide)) 0 dX7_init_0 rfl rfl ?_
  refine c_obj C co_X7_3 (by decide) (Nat.le_of_ble_eq_true rfl) dX7_init_1 ?_
  refine j_aload_n (C.x (D := D0) (by decide) (by decide)) 0 dX7_init_4 rfl rfl ?_
  refine j_aload_n (C.x (D := D0) (by decide) (by decide)) 1 dX7_init_5 rfl rfl ?_
  refine c_putK C cf_X7_9 (by decide) rfl hk0 (by omega) aE (by decide) (Nat.le_of_ble_eq_true rfl) rfl rfl dX7_init_6 ?_
  obtain ⟨E1, qE1⟩ : ∃ x, x = setE E (7, 0, 0, 0) (.inr (7, [.ref (ad G (2, 0, 0, 0))])) := ⟨_, rfl⟩
  refine c_E qE1 ?_
  have aE1 : E1 (7, 0, 0, 0) = .inr (7, [.ref (ad G (2, 0, 0, 0))]) := by rw [qE1, setE_eq]
  refine c_ret C (by decide) (by decide) rfl (fun k la hk hla H hv => ?_) dX7_init_9
  by_cases hm : la ∈ (7, 0, 0, 0) :: ctS7
  · rw [ovl_in hm]
    simp only [ctS7, List.mem_cons, List.not_mem_nil, or_false] at hm
    subst hm
    · rw [qE1, setE_eq] at hv
      exact va_same rfl hv
  · rw [ovl_out hm]
    simp only [ctS7, List.mem_cons, List.not_mem_nil, or_false, not_or] at hm
    have m0 := hm
    rw [qE1, setE_ne m0] at hv
    exact hv
