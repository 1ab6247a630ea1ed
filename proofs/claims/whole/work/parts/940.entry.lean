/-! ===== the law's entry: what the start gives ===== -/
theorem e_inst : ∀ ci, ci < 12 → Cond.instantiable (cR ci) (cN ci) ∈ lw_tbl := by decide +kernel
theorem e_cls {s : State} {a : Array Value} (hts : ∀ w ∈ lw_tbl, w.before a s = true) : ∃ (dC : Nat → ClassId) (dI : Nat → Nat → Nat), ∀ ci, ci < 12 → u_Kn s (cR ci) (cT ci) (cN ci) (dC ci) (dI ci) := by
  have h : ∀ ci, ∃ q : ClassId × (Nat → Nat), ci < 12 → u_Kn s (cR ci) (cT ci) (cN ci) q.1 q.2 := by
    intro ci
    by_cases hci : ci < 12
    · obtain ⟨c, iS, h⟩ := u_known (ws := tg) (C := cR ci) (T := cT ci) (N := cN ci) (n := cN ci) (fun w hw => hts w (List.mem_filter.mp hw).1) (cls_in hci) (hts _ (e_inst ci hci))
      exact ⟨(c, iS), fun _ => h⟩
    · obtain ⟨c, iS, h⟩ := u_known (ws := tg) (C := cR 0) (T := cT 0) (N := cN 0) (n := cN 0) (fun w hw => hts w (List.mem_filter.mp hw).1) (cls_in (by decide)) (hts _ (e_inst 0 (by decide)))
      exact ⟨(c, iS), fun h => absurd h hci⟩
  exact ⟨fun ci => (Classical.choose (h ci)).1, fun ci => (Classical.choose (h ci)).2, fun ci hci => Classical.choose_spec (h ci) hci⟩
theorem e_arrP {s : State} {a : Array Value} {ty : FieldType} (hp : ∀ cA : ClassId, s.vm.findClass ("[" ++ ty.toString) = some cA → va_RA s cA ty) (h : (Cond.arrayClass ty).before a s = true) : ∃ cA : ClassId, ArrOfT s cA ty ∧ va_RA s cA ty := by
  obtain ⟨c, k, comp, h1, h2, h3⟩ := Cond.arrayClass_spec h
  exact ⟨c, fun N z => ⟨fun k h => (by cases h), k, h2, comp, h3⟩, hp c h1⟩
theorem e_arrO {s : State} {a : Array Value} {C : String} (h : (Cond.arrayOver (.object C)).before a s = true) : ∃ cA : ClassId, ArrOfT s cA (.object C) ∧ va_RA s cA (.object C) := by
  obtain ⟨comp, c, k, h1, h2, h3, h4, h5⟩ := Cond.arrayOver_spec h
  exact ⟨c, fun N z => ⟨fun k h => (by cases h), k, h3, comp, h4⟩, k, comp, h3, h4, h1, h5⟩
theorem e_arrA {u : State} {a : Array Value} (h : (Cond.arrayOver (.array .int)).before a u = true) : ∃ cA : ClassId, ArrOfT u cA (.array .int) ∧ va_RA u cA (.array .int) := by
  have hspec : ∃ comp c k, u.vm.findClass (FieldType.array .int).toString = some comp ∧ (u.vm.classes.findIdx? fun (x : Class) => match x.kind with | .array component _ => component == comp | _ => false) = some c ∧ u.vm.classes[c]? = some k ∧ k.kind = .array comp (.array .int) ∧ u.vm.findClass ("[" ++ (FieldType.array .int).toString) = some c := by
    simp only [Cond.before, Cond.holds, Cond.value, beq_iff_eq] at h
    cases hc : u.vm.findClass (FieldType.array .int).toString with
    | none => simp [hc] at h
    | some comp =>
      simp only [hc, Option.bind_some, Option.bind_eq_some_iff, Option.map_eq_some_iff] at h
      obtain ⟨c, hi, k, hk, hb⟩ := h
      obtain ⟨hlt, hp, -⟩ := Array.findIdx?_eq_some_iff_getElem.mp hi
      have hkk : u.vm.classes[c] = k := (Array.getElem?_eq_some_iff.mp hk).2
      rw [hkk] at hp
      cases hkind : k.kind with
      | array component ty =>
        rw [hkind] at hb hp
        simp at hb hp
        exact ⟨comp, c, k, rfl, hi, hk, by rw [hkind, hp, hb.1], hb.2⟩
      | _ => rw [hkind] at hb; simp at hb
  obtain ⟨comp, c, k, h1, h2, h3, h4, h5⟩ := hspec
  exact ⟨c, fun N z => ⟨fun k h => (by cases h), k, h3, comp, h4⟩, h5⟩
theorem e_wI : Cond.arrayClass .int ∈ lw_tbl := tbl_1 (List.mem_of_getElem? (i := 67) (by decide +kernel))
theorem e_wL : Cond.arrayClass .long ∈ lw_tbl := tbl_1 (List.mem_of_getElem? (i := 179) (by decide +kernel))
theorem e_wZ : Cond.arrayClass .boolean ∈ lw_tbl := tbl_2 (List.mem_of_getElem? (i := 96) (by decide +kernel))
theorem e_wB : Cond.arrayClass .byte ∈ lw_tbl := tbl_3 (List.mem_of_getElem? (i := 188) (by decide +kernel))
theorem e_wS : Cond.arrayOver (.object "SunTable$State") ∈ lw_tbl := tbl_2 (List.mem_of_getElem? (i := 6) (by decide +kernel))
theorem e_wR : Cond.arrayOver (.object "SunTable$Rule") ∈ lw_tbl := tbl_1 (List.mem_of_getElem? (i := 147) (by decide +kernel))
theorem e_wW : Cond.arrayOver (.object "SunTable$World") ∈ lw_tbl := tbl_2 (List.mem_of_getElem? (i := 55) (by decide +kernel))
theorem e_wA : Cond.arrayOver (.array .int) ∈ lw_tbl := tbl_1 (List.mem_of_getElem? (i := 98) (by decide +kernel))
theorem e_K {s : State} {a : Array Value} (hts : ∀ w ∈ lw_tbl, w.before a s = true) : ∃ (dC : Nat → ClassId) (dI : Nat → Nat → Nat) (tA : Nat → ClassId), ∀ r, Kx (dC, dI, tA, r) s := by
  obtain ⟨dC, dI, hC⟩ := e_cls hts
  obtain ⟨c0, h0⟩ := e_arrP (ty := .int) (fun _ h => h) (hts _ e_wI)
  obtain ⟨c1, h1⟩ := e_arrP (ty := .long) (fun _ h => h) (hts _ e_wL)
  obtain ⟨c2, h2⟩ := e_arrP (ty := .boolean) (fun _ h => h) (hts _ e_wZ)
  obtain ⟨c3, h3⟩ := e_arrP (ty := .byte) (fun _ h => h) (hts _ e_wB)
  obtain ⟨c4, h4⟩ := e_arrO (hts _ e_wS)
  obtain ⟨c5, h5⟩ := e_arrO (hts _ e_wR)
  obtain ⟨c6, h6⟩ := e_arrO (hts _ e_wW)
  obtain ⟨c7, h7⟩ := e_arrA (hts _ e_wA)
  refine ⟨dC, dI, fun k => match k with | 0 => c0 | 1 => c1 | 2 => c2 | 3 => c3 | 4 => c4 | 5 => c5 | 6 => c6 | 7 => c7 | _ => c4, fun r => ⟨⟨fun c q hq => ?_, fun k q hk => ?_⟩, fun w hw => va_Nw.of (nw_tab hw) (hts w (List.mem_filter.mp hw).1)⟩⟩
  · have hc : c < 12 := (List.getElem?_eq_some_iff.mp hq).1
    cases (cls_cl c hc).symm.trans hq
    exact hC c hc
  · match k, hk with
    | 0, hk => cases hk; exact h0
    | 1, hk => cases hk; exact h1
    | 2, hk => cases hk; exact h2
    | 3, hk => cases hk; exact h3
    | 4, hk => cases hk; exact h4
    | 5, hk => cases hk; exact h5
    | 6, hk => cases hk; exact h6
    | 7, hk => cases hk; exact h7
    | 8, hk => cases hk; exact h4
    | k + 9, hk => simp [tysG] at hk
theorem e_ao {s : State} {a : Array Value} (hts : ∀ w ∈ lw_tbl, w.before a s = true) : aoW s := ⟨va_AO.of (hts _ e_wS), va_AO.of (hts _ e_wR), va_AO.of (hts _ e_wW), hts _ e_wA⟩
/-! ===== the String constants ===== -/
def tmZc (i : Nat) : Term := match sOw[i]? with
  | some q => .string q.1 q.2.1
  | none => .string "" 0
def blS (i : Nat) : List Cond := [Cond.exactly (tmZc i) "java/lang/String", Cond.eq (.field (tmZc i) "java/lang/String" "coder" "B") (.int 0), Cond.arrayOf (.field (tmZc i) "java/lang/String" "value" "[B") .byte, Cond.eq (.length (.field (tmZc i) "java/lang/String" "value" "[B")) (.int (Int32.ofNat (lenS.getD i 0)))] ++ ((List.range (lenS.getD i 0)).map (fun j => Cond.eq (.elem (.field (tmZc i) "java/lang/String" "value" "[B") (.int (Int32.ofNat j))) (.int ((bytS.getD i []).getD j 0))) ++ (List.range i).map (fun k => Cond.not (Cond.eq (tmZc k) (tmZc i))))
theorem str_fl : (flatC (Jvm.Cond.and given_1 narrow_1)).drop 45 = (List.range 20).flatMap blS := by decide +kernel
theorem str_in {i : Nat} (hi : i < 20) {w : Cond} (h : w ∈ blS i) : w ∈ flatC (Jvm.Cond.and given_1 narrow_1) := by
  have h1 : w ∈ (List.range 20).flatMap blS := List.mem_flatMap.mpr ⟨i, List.mem_range.mpr hi, h⟩
  rw [← str_fl] at h1
  exact List.mem_of_mem_drop h1
theorem e_S {s : State} {a : Array Value} {A : Nat → Prop} (hgv : (Jvm.Cond.and given_1 narrow_1).before a s = true) (hA : ∀ q : Nat, q < s.heap.size → ¬ A q) : ∃ adK adV : Nat → Nat, vk_S 20 lenS bytS adK adV A s s.heap ∧ ∀ i : Nat, i < 20 → (tmZc i).eval a s none [] s = some (.ref (adK i)) := by
  have hs := flat_of_before _ hgv
  refine vk_Sof (tm := tmZc) (by decide) (fun i hi => hs _ (str_in hi (List.mem_append_left _ List.mem_cons_self))) (fun i hi => hs _ (str_in hi (List.mem_append_left _ (List.mem_cons_of_mem _ List.mem_cons_self)))) (fun i hi => hs _ (str_in hi (List.mem_append_left _ (List.mem_cons_of_mem _ (List.mem_cons_of_mem _ List.mem_cons_self))))) (fun i hi => hs _ (str_in hi (List.mem_append_left _ (List.mem_cons_of_mem _ (List.mem_cons_of_mem _ (List.mem_cons_of_mem _ List.mem_cons_self)))))) (fun i hi j hj => hs _ (str_in hi (List.mem_append_right _ (List.mem_append_left _ (List.mem_map.mpr ⟨j, List.mem_range.mpr hj, rfl⟩))))) (fun i j hi hj hij => ?_) hA
  rcases Nat.lt_or_gt_of_ne hij with h | h
  · exact Or.inl (hs _ (str_in hj (List.mem_append_right _ (List.mem_append_right _ (List.mem_map.mpr ⟨i, List.mem_range.mpr h, rfl⟩)))))
  · exact Or.inr (hs _ (str_in hi (List.mem_append_right _ (List.mem_append_right _ (List.mem_map.mpr ⟨j, List.mem_range.mpr h, rfl⟩)))))
theorem e_sref0 : sOw.all (fun q => decide (Cond.stringRef q.1 q.2.1 q.2.2 ∈ lw_tbl)) = true := by decide +kernel
theorem e_sref {i : Nat} {q : String × Nat × String} (h : sOw[i]? = some q) : Cond.stringRef q.1 q.2.1 q.2.2 ∈ lw_tbl := of_decide_eq_true (List.all_eq_true.mp e_sref0 q (List.mem_of_getElem? h))
theorem e_zC : Cond.laysStatic "java/lang/String" "COMPACT_STRINGS" "Z" ∈ lw_tbl := tbl_3 (List.mem_of_getElem? (i := 1) (by decide +kernel))
theorem e_zF : Cond.laysStatic "jdk/internal/util/Preconditions" "SIOOBE_FORMATTER" "Ljava/util/function/BiFunction;" ∈ lw_tbl := tbl_3 (List.mem_of_getElem? (i := 17) (by decide +kernel))
theorem e_iS : Cond.initialized "java/lang/String" ∈ lw_tbl := tbl_1 (List.mem_of_getElem? (i := 13) (by decide +kernel))
theorem e_iP : Cond.initialized "jdk/internal/util/Preconditions" ∈ lw_tbl := tbl_1 (List.mem_of_getElem? (i := 15) (by decide +kernel))
theorem e_fC : Cond.eq (.static "java/lang/String" "COMPACT_STRINGS" "Z") (.int 1) ∈ flatC (Jvm.Cond.and given_1 narrow_1) := List.mem_of_getElem? (i := 4) (by decide +kernel)
theorem e_fF : Cond.isRef (.static "jdk/internal/util/Preconditions" "SIOOBE_FORMATTER" "Ljava/util/function/BiFunction;") ∈ flatC (Jvm.Cond.and given_1 narrow_1) := List.mem_of_getElem? (i := 5) (by decide +kernel)
theorem e_Sx {s : State} {a : Array Value} {A : Nat → Prop} (hts : ∀ w ∈ lw_tbl, w.before a s = true) (hgv : (Jvm.Cond.and given_1 narrow_1).before a s = true) (hA : ∀ q : Nat, q < s.heap.size → ¬ A q) : ∃ (sK0 sV0 : Nat → Nat) (fm : Option Nat), ∀ (dC : Nat → ClassId) (dI : Nat → Nat → Nat) (tA : Nat → ClassId) (ad0 : LA → Nat) (ly : List LA), Sx (dC, dI, tA, ad0, ly, sK0, sV0, fm) A s s.heap := by
  obtain ⟨adK, adV, h1, h2⟩ := e_S hgv hA
  have hs := flat_of_before _ hgv
  have hz : ∃ fm : Option Nat, va_Z "jdk/internal/util/Preconditions" "SIOOBE_FORMATTER" "Ljava/util/function/BiFunction;" (va_rf fm) A s s.heap := by
    rcases va_Zqof (hts _ e_zF) (hts _ e_iP) (hs _ e_fF) hA with h | ⟨t, h⟩
    · exact ⟨none, h⟩
    · exact ⟨some t, h⟩
  obtain ⟨fm, hz⟩ := hz
  refine ⟨adK, adV, fm, fun dC dI tA ad0 ly => ⟨h1, fun i q hq => ?_, va_Zof (hts _ e_zC) (hts _ e_iS) (va_eqi (hs _ e_fC)) hA, hz⟩⟩
  have hi : i < 20 := (List.getElem?_eq_some_iff.mp hq).1
  have e := h2 i hi
  have et : tmZc i = .string q.1 q.2.1 := by simp only [tmZc, hq]
  rw [et] at e
  exact vk_R.of (hts _ (e_sref hq)) e
/-! ===== all cells' addresses ===== -/
theorem e_G {s : State} {a : Array Value} (hts : ∀ w ∈ lw_tbl, w.before a s = true) (hgv : (Jvm.Cond.and given_1 narrow_1).before a s = true) : ∃ G : Gt, lyG G = LAY ∧ GB G s.heap.size (fun q => s.heap.size ≤ q) ∧ Gok G (fun q => s.heap.size ≤ q) ∧ Kx G s ∧ Sx G (fun q => s.heap.size ≤ q) s s.heap := by
  obtain ⟨dC, dI, tA, hK⟩ := e_K hts
  obtain ⟨sK0, sV0, fm, hS⟩ := e_Sx (A := fun q => s.heap.size ≤ q) hts hgv (fun q h => Nat.not_le.mpr h)
  refine ⟨(dC, dI, tA, (fun la => s.heap.size + nmA la), LAY, sK0, sV0, fm), rfl, ⟨fun k la h => ?_, ly_nd, fun _ h => h⟩, ⟨ly_V, fun la h1 lb h2 e => ?_, ly_nd, fun la _ => Nat.le_add_right _ _⟩, hK _, hS _ _ _ _ _⟩
  · show s.heap.size + nmA la = s.heap.size + k
    rw [nm_at h]
  · obtain ⟨k, hk⟩ := List.getElem?_of_mem h1
    obtain ⟨j, hj⟩ := List.getElem?_of_mem h2
    have e2 : s.heap.size + nmA la = s.heap.size + nmA lb := e
    rw [nm_at hk, nm_at hj] at e2
    have e3 : k = j := by omega
    subst e3
    exact Option.some.inj (hk.symm.trans hj)
/-! ===== the order of coming, as the constructors ask it ===== -/
theorem e_HW {G : Gt} (hly : lyG G = LAY) {w : Nat} (hw : w < 5) : HW G w (lyT w) := by
  unfold HW
  rw [hly]
  refine ⟨fun j hj => ?_, of_lt (T := lyT w + 1) (n := 15) rfl (ly_w5 w hw), fun j hj => ?_, of_lt (T := lyT w + 1 + 15 + 1) (n := 5) rfl (ly_w6 w hw), ly_wC w hw, ly_wD w hw, fun j q h1 h2 => ly_wP w hw j h1 q h2, ly_wN w hw⟩
  · have : j = 0 := by omega
    subst this
    exact ly_wA w hw
  · have : j = 0 := by omega
    subst this
    exact ly_wB w hw
theorem e_X10 {l : Launch} {G : Gt} {A : Nat → Prop} {B : Nat} {E : LA → va_E} (hly : lyG G = LAY) (hB : GB G B A) (hG : Gok G A) (aE : E (10, 0, 0, 0) = blk 10) : MC l G A B 4 yX10_init cX10_init 2 [.ref (ad G (10, 0, 0, 0))] 1 E (1 + 862) (ovl G ((10, 0, 0, 0) :: ctS10) E) 862 16000 := by
  refine ci_X10 (t := 1) (k0 := 0) hB hG ?_ ?_ ?_ ?_ (e_HW hly (w := 0) (by decide)) ?_ ?_ (fun j hj => e_HW hly (w := j + 1) (by omega)) ?_ ?_ ?_ ?_ ?_ ?_ ?_ (by decide) aE
  all_goals rw [hly]
  · exact of_lt (T := 1) (n := 24) rfl ly_hl
  · exact ly_R0
  · exact fun j hj => of_lt (T := 1 + 24 + 7 * j + 1) (n := 6) rfl (ly_R j hj)
  · exact ly_W0
  · exact ly_Im
  · exact ly_I0
  · exact ly_Ma
  · exact ly_Wk
  · exact ly_Wd
  · exact ly_Q
  · exact of_lt (T := 1 + 811) (n := 21) rfl ly_Qa
  · exact fun j q h1 h2 => ly_Qb j h1 q h2
  · rfl
theorem e_X11 {l : Launch} {G : Gt} {A : Nat → Prop} {B : Nat} {E : LA → va_E} (hly : lyG G = LAY) (hB : GB G B A) (hG : Gok G A) (aE : E (11, 0, 0, 0) = blk 11) : MC l G A B 1 yX11_init cX11_init 1 [.ref (ad G (11, 0, 0, 0))] 864 E (864 + 37) (ovl G ((11, 0, 0, 0) :: ctS11) E) 37 11572 := by
  refine ci_X11 (lv := 1) (t := 864) (k0 := 863) hB hG ?_ ?_ (by decide) aE
  all_goals rw [hly]
  · exact of_lt (T := 864) (n := ctS11.length) rfl ly_M
  · exact ly_M0
/-! ===== all cells have come: the first picture ===== -/
theorem eqA_eq {a b : LA} (h : eqA a b = true) : a = b := Option.some.inj (eqO_eq (x := some a) (y := some b) h)
theorem sub_any {l m : List LA} (h : l.all (fun la => m.any (fun x => eqA x la)) = true) : ∀ la ∈ l, la ∈ m := by
  intro la hl
  obtain ⟨x, hx, he⟩ := List.any_eq_true.mp (List.all_eq_true.mp h la hl)
  have e := eqA_eq he
  subst e
  exact hx
theorem ls_1 : ∀ la ∈ (10, 0, 0, 0) :: ctL10, la ∈ (10, 0, 0, 0) :: ctS10 := sub_any (by decide +kernel)
theorem ls_2 : ∀ la ∈ (List.range 6).flatMap (fun j => (3, j, 0, 0) :: ctS3 j), la ∈ (10, 0, 0, 0) :: ctS10 := sub_any (by decide +kernel)
theorem ls_3 : ∀ la ∈ (9, 0, 0, 0) :: layW 0, la ∈ (10, 0, 0, 0) :: ctS10 := sub_any (by decide +kernel)
theorem ls_4 : ∀ la ∈ ([(10, 0, 8, 0)] : List LA), la ∈ (10, 0, 0, 0) :: ctS10 := sub_any (by decide +kernel)
theorem ls_5 : (List.range 4).all (fun j => ((9, j + 1, 0, 0) :: layW (j + 1)).all (fun la => ((9, j + 1, 0, 0) :: ctS9 (j + 1)).any (fun x => eqA x la))) = true := by decide +kernel
theorem ls_6 : ∀ la ∈ ([(10, 0, 9, 0), (8, 0, 0, 0), (8, 0, 9, 0), (1, 0, 0, 0)] : List LA), la ∈ (10, 0, 0, 0) :: ctS10 := sub_any (by decide +kernel)
theorem ls_7 : ∀ la ∈ ctL1, la ∈ ctS1 := sub_any (by decide +kernel)
theorem ls_8 : ∀ la ∈ (List.range 5).flatMap (fun j => (6, 106 + j, 0, 0) :: ctS6 (106 + j)), la ∈ ctS1 := sub_any (by decide +kernel)
theorem ls_si {la : LA} (h : la ∈ siS 4) : la ∈ (10, 0, 0, 0) :: ctS10 := by
  refine List.mem_cons_of_mem _ ?_
  unfold ctS10
  exact List.mem_append_left _ (List.mem_append_left _ (List.mem_append_left _ (List.mem_append_left _ (List.mem_append_right _ h))))
theorem ls_q {la : LA} (h : la ∈ ctS1) : la ∈ (10, 0, 0, 0) :: ctS10 := by
  refine List.mem_cons_of_mem _ ?_
  unfold ctS10
  exact List.mem_append_right _ (List.mem_cons_of_mem _ h)
theorem ly_sub {la : LA} (h : la ∈ LAY) : la ∈ (10, 0, 0, 0) :: ctS10 ∨ la ∈ (11, 0, 0, 0) :: ctS11 := by
  unfold LAY at h
  rcases List.mem_append.mp h with h | h
  · exact Or.inl (ls_1 la h)
  rcases List.mem_append.mp h with h | h
  · exact Or.inl (ls_2 la h)
  rcases List.mem_append.mp h with h | h
  · exact Or.inl (ls_3 la h)
  rcases List.mem_append.mp h with h | h
  · exact Or.inl (ls_4 la h)
  rcases List.mem_append.mp h with h | h
  · obtain ⟨j, hj, h⟩ := List.mem_flatMap.mp h
    exact Or.inl (ls_si (List.mem_flatMap.mpr ⟨j, hj, sub_any (List.all_eq_true.mp ls_5 j hj) la h⟩))
  rcases List.mem_append.mp h with h | h
  · exact Or.inl (ls_6 la h)
  rcases List.mem_append.mp h with h | h
  · exact Or.inl (ls_q (ls_7 la h))
  rcases List.mem_append.mp h with h | h
  · exact Or.inl (ls_q (ls_8 la h))
  · exact Or.inr h
theorem ls_11 : ∀ la ∈ (10, 0, 0, 0) :: ctS10, ¬ la = (11, 0, 0, 0) := by
  have h : ((10, 0, 0, 0) :: ctS10).all (fun la => !(eqA la (11, 0, 0, 0))) = true := by decide +kernel
  intro la hl e
  have h2 := List.all_eq_true.mp h la hl
  subst e
  exact absurd h2 (by decide)
theorem rep0 {G : Gt} {B : Nat} {E : LA → va_E} {H : Heap} (hly : lyG G = LAY) (h : RepC G B (864 + 37) (ovl G ((11, 0, 0, 0) :: ctS11) (setE (ovl G ((10, 0, 0, 0) :: ctS10) E) (11, 0, 0, 0) (blk 11))) H) : Rep G D0 H := by
  intro k q hq
  unfold wsG at hq
  rw [List.getElem?_map, Option.map_eq_some_iff] at hq
  obtain ⟨la, hla, rfl⟩ := hq
  have hm : la ∈ LAY := by rw [← hly]; exact List.mem_of_getElem? hla
  have hk : k < 864 + 37 := by
    have h1 := (List.getElem?_eq_some_iff.mp hla).1
    rw [hly, ly_len] at h1
    exact h1
  have h2 := h.2 k la hk hla
  have e : ovl G ((11, 0, 0, 0) :: ctS11) (setE (ovl G ((10, 0, 0, 0) :: ctS10) E) (11, 0, 0, 0) (blk 11)) la = cellOf G D0 la := by
    rcases ly_sub hm with h3 | h3
    · by_cases h4 : la ∈ (11, 0, 0, 0) :: ctS11
      · exact ovl_in h4
      · rw [ovl_out h4]
        unfold setE
        rw [if_neg (ls_11 la h3)]
        exact ovl_in h3
    · exact ovl_in h3
  rw [e] at h2
  exact h2
/-! ===== a new object and its constructor, in the law's own frame ===== -/
def Cw (p : Program) (l : Launch) (e : Env) (R : Room) (s : State) (m : MethodId) (args : Array Value) (below : List Frame) (meth : Method) (c : Code) (A : Nat → Prop) (nL : Nat) (cc : ByteArray) (own : String) (G : Gt) (B lv : Nat) (rt : Option FieldType) : Prop :=
  p.tables.exec = Jvm.exec ∧ c.code = cc ∧ c.maxLocals = nL ∧ s.vm.findClass own = some m.cls ∧ (∀ w ∈ tg, w.before args s = true) ∧ meth.locks = false ∧ Kx G s ∧ GB G B A ∧ lv ≤ R.frames ∧ 100 * lv ≤ R.locals ∧ meth.sig.returnType = rt ∧ Sx G A s s.heap ∧ aoW s ∧ Gok G A
section CW
variable {p : Program} {l : Launch} {e : Env} {R : Room} {s : State} {m : MethodId} {args : Array Value} {below : List Frame} {meth : Method} {c : Code} {A : Nat → Prop} {nL : Nat} {Q : State → Prop} {cs sl : Nat} {cc : ByteArray} {own : String} {G : Gt} {B lv t : Nat} {E : LA → va_E} {pc : Nat} {L : List (Nat × Value)} {st : List Value} {rt : Option FieldType}
theorem Cw.x (C : Cw p l e R s m args below meth c A nL cc own G B lv rt) (hrt : rt.isSome = true) (h1 : cs ≤ R.cells) (h2 : sl ≤ R.slots) {D : Dt} : Cx (p, l, e, R, s, m, args, below, meth, c, A, nL, Q, cs, sl) cc own G l A lv nL rt none D := by
  obtain ⟨a1, a2, a3, a4, a5, a6, a7, a8, a9, a10, a11, a12, a13, a14⟩ := C
  exact ⟨a1, a2, a3, a4, a5, a6, a7, a14, ⟨a9, a10, h1, h2⟩, a11, (fun h => by rw [hrt] at h; cases h), rfl, rfl, rfl, a12⟩
theorem w_new (C : Cw p l e R s m args below meth c A nL cc own G B lv rt) {idx ci : Nat} (la : LA) (hk : (lyG G)[t]? = some la) (hci : ci < 12) (hcl : Cond.classLink own idx (cR ci) ∈ tg) (hin : Cond.instantiable (cR ci) (cN ci) ∈ tg) (hini : Cond.initialized (cR ci) ∈ tg) (hcs : cs + 1 ≤ R.cells) (hsl : sl + cN ci ≤ R.slots) (hd : decode cc pc = .ok (.new idx, 3))
    (k : J (p, l, e, R, s, m, args, below, meth, c, A, nL, Q, cs + 1, sl + cN ci) (RepC G B (t + 1) (setE E la (blk ci))) (pc + 3) L (.ref (ad G la) :: st)) : J (p, l, e, R, s, m, args, below, meth, c, A, nL, Q, cs, sl) (RepC G B t E) pc L st := by
  obtain ⟨hx, hb, hml, hown, hts, hlk, hK, hB, hR1, hR2, hr, hSx, hao, hG⟩ := C
  intro H locs ls h1 h2 h3
  have hKn := hK.1.1 ci _ (cls_cl ci hci)
  have ea := hB.1 t la hk
  refine W.newcK hx hb hown (hts _ hcl) (hts _ hin) (hts _ hini) rfl hd hcs hsl hKn.2.1 h1.1 fun H1 kC hkC e1 z1 o1 => ?_
  rw [← h1.1] at z1 o1
  have hat : va_at (dG G) vwCl (ad G la, blk ci) H1 := by
    rw [ea]
    exact ⟨_, cls_cl ci hci, (u_born (cY ci) hts (cls_in hci) hKn hkC e1 (cls_ty0 ci hci)).to (fun j hj => by
      show _ = vp_V _ j
      simp [vp_V, List.getD, hj])⟩
  have kk := k H1 locs ls (h1.push hB hk hat z1 o1) (vaS_grow h2 (by omega) o1) h3
  rw [ea] at kk
  exact kk
theorem w_init (C : Cw p l e R s m args below meth c A nL cc own G B lv rt) {idx maxL n lv' mc ms t' : Nat} {E' : LA → va_E} {y : MethodName} {bytes : ByteArray} {la : LA} (As rest : List Value) (K : CI own idx y bytes maxL n) (hM : MC l G A B lv' y bytes maxL (.ref (ad G la) :: As) t E t' E' mc ms) (hlv : lv' + 1 ≤ lv) (hd : decode cc pc = .ok (.invokespecial idx, 3)) (hn : As.length = n) (hs : st = As.reverse ++ .ref (ad G la) :: rest) (hst : (rest.map fun v => v.category).sum ≤ 8) (hcs : cs + mc ≤ R.cells) (hsl : sl + ms ≤ R.slots)
    (kk : J (p, l, e, R, s, m, args, below, meth, c, A, nL, Q, cs + mc, sl + ms) (RepC G B t' E') (pc + 3) L rest) : J (p, l, e, R, s, m, args, below, meth, c, A, nL, Q, cs, sl) (RepC G B t E) pc L st := by
  obtain ⟨hx, hb, hml, hown, hts, hlk, hK, hB, hR1, hR2, hr, hSx, hao, hG⟩ := C
  intro H locs ls h1 h2 h3
  obtain ⟨hlink, hin, hini, hcode, hyn, hd2, hmax⟩ := K
  have hpre : PreS s H (va_Pc (.ref (ad G la) :: As) (fun U => RepC G B t E U.heap ∧ Kx G U ∧ Sx G A U U.heap ∧ aoW U)) (.ref (ad G la) :: As) := ⟨blindC, fun U hU hW => ⟨rfl, by rw [hU]; exact h1, hK.warm hW, by rw [hU]; exact hSx.warm hW h2, hao.moved hW.alike⟩⟩
  have hroom : (rmC lv' mc ms).frames + 1 ≤ R.frames ∧ 8 + (maxL + 11) + (rmC lv' mc ms).locals ≤ R.locals := by simp only [rmC]; omega
  have S : CallFix p m c cc nL s args tg own := ⟨hx, hb, hml, hown, hts⟩
  subst hs
  rcases hlink with hlink | ⟨host, hlink⟩
  · exact run_C (va_runI S hM (cwI n hts (gi_ws (pre := []) hcode (fun w h => by cases h)) rfl rfl rfl (hts _ hini) (hts _ hlink) (hts _ hin) hyn hd2 hroom) hpre rfl hn h3.1 rfl (lv_room hst) hd ⟨hcs, hsl⟩) h2 (fun H1 locs1 hP hS => kk H1 locs1 ls hP hS h3)
  · exact run_C (va_runIN S hM ⟨va_cnB n hts (gi_ws (pre := []) hcode (fun w h => by cases h)) rfl rfl rfl (hK.2 _ hlink) (hts _ hini) hd2 hroom, hyn, hts _ hin⟩ hpre rfl hn h3.1 rfl (lv_room hst) hd ⟨hcs, hsl⟩) h2 (fun H1 locs1 hP hS => kk H1 locs1 ls hP hS h3)
end CW
theorem cL_7 : Cond.classLink RL 7 (cR 10) ∈ tg := tg_of (tbl_1 (List.mem_of_getElem? (i := 21) (by decide +kernel))) (by decide +kernel)
theorem cL_10 : Cond.classLink RL 10 (cR 11) ∈ tg := tg_of (tbl_5 (List.mem_of_getElem? (i := 128) (by decide +kernel))) (by decide +kernel)
theorem cL_n10 : Cond.instantiable (cR 10) (cN 10) ∈ tg := tg_of (tbl_1 (List.mem_of_getElem? (i := 22) (by decide +kernel))) (by decide +kernel)
theorem cL_n11 : Cond.instantiable (cR 11) (cN 11) ∈ tg := tg_of (tbl_5 (List.mem_of_getElem? (i := 129) (by decide +kernel))) (by decide +kernel)
theorem cL_d10 : Cond.initialized (cR 10) ∈ tg := tg_of (tbl_1 (List.mem_of_getElem? (i := 1) (by decide +kernel))) (by decide +kernel)
theorem cL_d11 : Cond.initialized (cR 11) ∈ tg := tg_of (tbl_1 (List.mem_of_getElem? (i := 12) (by decide +kernel))) (by decide +kernel)
theorem cL_9 : CI RL 9 yX10_init cX10_init 2 0 := ⟨Or.inl (tg_of (tbl_1 (List.mem_of_getElem? (i := 23) (by decide +kernel))) (by decide +kernel)), tg_of (tbl_1 (List.mem_of_getElem? (i := 24) (by decide +kernel))) (by decide +kernel), tg_of (tbl_1 (List.mem_of_getElem? (i := 1) (by decide +kernel))) (by decide +kernel), tg_of (tbl_1 (List.mem_of_getElem? (i := 25) (by decide +kernel))) (by decide +kernel), rfl, ⟨by decide, by decide, by decide +kernel⟩, by decide⟩
theorem cL_12 : CI RL 12 yX11_init cX11_init 1 0 := ⟨Or.inl (tg_of (tbl_5 (List.mem_of_getElem? (i := 130) (by decide +kernel))) (by decide +kernel)), tg_of (tbl_5 (List.mem_of_getElem? (i := 131) (by decide +kernel))) (by decide +kernel), tg_of (tbl_1 (List.mem_of_getElem? (i := 12) (by decide +kernel))) (by decide +kernel), tg_of (tbl_5 (List.mem_of_getElem? (i := 132) (by decide +kernel))) (by decide +kernel), rfl, ⟨by decide, by decide, by decide +kernel⟩, by decide⟩
