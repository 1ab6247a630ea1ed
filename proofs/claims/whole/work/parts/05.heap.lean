/-! ===== changes of the picture ===== -/
def setI (D : Dt) (la : LA) (k : Nat) (v : Int32) : Dt := (fun l j => if l = la ∧ j = k then v else D.1 l j, D.2)
def setL (D : Dt) (la : LA) (k : Nat) (v : Int64) : Dt := (D.1, fun l j => if l = la ∧ j = k then v else D.2.1 l j, D.2.2)
def setR (D : Dt) (la : LA) (k : Nat) (v : Option Nat) : Dt := (D.1, D.2.1, fun l j => if l = la ∧ j = k then v else D.2.2 l j)
def inB (i : Int32) (n : Nat) : Bool := decide (0 ≤ i.toInt) && decide (i.toInt < n)
theorem inB_in {i : Int32} {n : Nat} (h : inB i n = true) : vp_in i n := by
  simp only [inB, Bool.and_eq_true, decide_eq_true_eq] at h
  exact vp_in_iff.mpr h
theorem cls_cl : ∀ ci, ci < 12 → vwCl[ci]? = some (cR ci, cT ci, cN ci) := by
  intro ci h
  match ci, h with
  | 0, _ => rfl | 1, _ => rfl | 2, _ => rfl | 3, _ => rfl | 4, _ => rfl | 5, _ => rfl | 6, _ => rfl | 7, _ => rfl | 8, _ => rfl | 9, _ => rfl | 10, _ => rfl | 11, _ => rfl
theorem cls_in0 : ∀ ci, ci < 12 → (u_ws (cR ci) (cT ci) (cN ci)).all (fun w => decide (w ∈ lw_tbl) && goodWord w) = true := by decide +kernel
theorem cls_in {ci : Nat} (h : ci < 12) : ∀ w ∈ u_ws (cR ci) (cT ci) (cN ci), w ∈ tg := by
  intro w hw
  have h1 := List.all_eq_true.mp (cls_in0 ci h) w hw
  simp only [Bool.and_eq_true, decide_eq_true_eq] at h1
  exact tg_of h1.1 h1.2
theorem cls_ty0 : ∀ ci, ci < 12 → ∀ k, k < cN ci → parseFieldDescriptor (cT ci k).2.2.1 = some (cY ci k) := by decide +kernel
theorem cls_nm0 : ∀ ci, ci < 12 → ∀ a, a < cN ci → ∀ b, b < cN ci → a ≠ b → (cT ci a).2.1 ≠ (cT ci b).2.1 := by decide +kernel
theorem cls_fk : ∀ ci, ci < 12 → (fk ci).length = cN ci := by decide +kernel
theorem cell_obj {G : Gt} {D : Dt} {la : LA} (h : la.2.2.1 = 0) : cellOf G D la = .inr (la.1, fvs G D la (fk la.1)) := by
  obtain ⟨ci, n, q, j⟩ := la
  simp only at h
  subst h
  rfl
theorem cell_arr {G : Gt} {D : Dt} {la : LA} {tc n : Nat} (h : sh la = .inr (tc, n)) : cellOf G D la = .inl (G.2.2.1 tc, n, arC G D la tc) := by
  unfold cellOf
  rw [h]
theorem ws_at {G : Gt} {D : Dt} {A : Nat → Prop} {la : LA} (hG : Gok G A) (hV : V la = true) : ∃ q : Nat, (lyG G)[q]? = some la ∧ (wsG G D)[q]? = some (ad G la, cellOf G D la) := by
  obtain ⟨q, hq⟩ := List.getElem?_of_mem (hG.1 la hV)
  exact ⟨q, hq, by rw [wsG, List.getElem?_map, hq]; rfl⟩
theorem ws_D {G : Gt} {D : Dt} {A : Nat → Prop} (hG : Gok G A) : va_D A (wsG G D) := by
  obtain ⟨-, hi, hn, hA⟩ := hG
  have key : ∀ (k : Nat) (q : Nat × va_E), (wsG G D)[k]? = some q → ∃ la, (lyG G)[k]? = some la ∧ q = (ad G la, cellOf G D la) := by
    intro k q h
    rw [wsG, List.getElem?_map] at h
    cases hl : (lyG G)[k]? with
    | none => rw [hl] at h; cases h
    | some la => rw [hl] at h; exact ⟨la, rfl, (Option.some.inj h).symm⟩
  refine ⟨fun i j x y hx hy hxy => ?_, fun k q hk => ?_⟩
  · obtain ⟨la, h1, rfl⟩ := key i x hx
    obtain ⟨lb, h2, rfl⟩ := key j y hy
    have e := hi la (List.mem_of_getElem? h1) lb (List.mem_of_getElem? h2) hxy
    subst e
    exact (List.getElem?_inj (List.getElem?_eq_some_iff.mp h1).1 hn).mp (h1.trans h2.symm)
  · obtain ⟨la, h1, rfl⟩ := key k q hk
    exact hA la (List.mem_of_getElem? h1)
theorem ws_set {G : Gt} {D D1 : Dt} {A : Nat → Prop} {la : LA} {e : va_E} {q : Nat} (hG : Gok G A) (hq : (lyG G)[q]? = some la) (he : cellOf G D1 la = e) (ho : ∀ lb, lb ≠ la → cellOf G D1 lb = cellOf G D lb) : (wsG G D).set q (ad G la, e) = wsG G D1 := by
  have hl := (List.getElem?_eq_some_iff.mp hq).1
  apply List.ext_getElem?
  intro i
  by_cases hi : i = q
  · subst hi
    rw [List.getElem?_set_self (by rw [wsG, List.length_map]; exact hl), wsG, List.getElem?_map, hq]
    simp [he]
  · rw [List.getElem?_set_ne (Ne.symm hi), wsG, wsG, List.getElem?_map, List.getElem?_map]
    cases hb : (lyG G)[i]? with
    | none => rfl
    | some lb =>
      have hne : lb ≠ la := by
        intro h
        subst h
        exact hi ((List.getElem?_inj (List.getElem?_eq_some_iff.mp hb).1 hG.2.2.1).mp (hb.trans hq.symm))
      simp [ho lb hne]
theorem cell_eq {G : Gt} {D D1 : Dt} {lb : LA} (h1 : D1.1 lb = D.1 lb) (h2 : D1.2.1 lb = D.2.1 lb) (h3 : D1.2.2 lb = D.2.2 lb) : cellOf G D1 lb = cellOf G D lb := by
  unfold cellOf fvs fv arC
  rw [h1, h2, h3]
theorem setI_ne {D : Dt} {la lb : LA} {k : Nat} {v : Int32} (h : lb ≠ la) : (setI D la k v).1 lb = D.1 lb := by
  funext j
  simp [setI, h]
theorem setI_eq {D : Dt} {la : LA} {k : Nat} {v : Int32} : (setI D la k v).1 la = upd (D.1 la) k v := by
  funext j
  simp [setI, upd]
theorem setL_ne {D : Dt} {la lb : LA} {k : Nat} {v : Int64} (h : lb ≠ la) : (setL D la k v).2.1 lb = D.2.1 lb := by
  funext j
  simp [setL, h]
theorem setL_eq {D : Dt} {la : LA} {k : Nat} {v : Int64} : (setL D la k v).2.1 la = vp_updL (D.2.1 la) k v := by
  funext j
  simp [setL, vp_updL]
theorem setR_ne {D : Dt} {la lb : LA} {k : Nat} {v : Option Nat} (h : lb ≠ la) : (setR D la k v).2.2 lb = D.2.2 lb := by
  funext j
  simp [setR, h]
theorem setI_cell {G : Gt} {D : Dt} {la lb : LA} {k : Nat} {v : Int32} (h : lb ≠ la) : cellOf G (setI D la k v) lb = cellOf G D lb := cell_eq (setI_ne h) rfl rfl
theorem setL_cell {G : Gt} {D : Dt} {la lb : LA} {k : Nat} {v : Int64} (h : lb ≠ la) : cellOf G (setL D la k v) lb = cellOf G D lb := cell_eq rfl (setL_ne h) rfl
theorem setR_cell {G : Gt} {D : Dt} {la lb : LA} {k : Nat} {v : Option Nat} (h : lb ≠ la) : cellOf G (setR D la k v) lb = cellOf G D lb := cell_eq rfl rfl (setR_ne h)
theorem fvs_at {G : Gt} {D : Dt} {la : LA} {ks : List Nat} {k kd : Nat} (h : ks[k]? = some kd) : (fvs G D la ks)[k]? = some (fv G D la kd k) := by
  have hl := (List.getElem?_eq_some_iff.mp h).1
  unfold fvs
  rw [List.getElem?_map, List.getElem?_range hl]
  simp [List.getD, h]
theorem fvs_set {G : Gt} {D D1 : Dt} {la : LA} {ks : List Nat} {k kd : Nat} {v : Value} (h : ks[k]? = some kd) (hv : fv G D1 la kd k = v) (ho : ∀ j kj, j ≠ k → fv G D1 la kj j = fv G D la kj j) : fvs G D1 la ks = (fvs G D la ks).set k v := by
  have hl := (List.getElem?_eq_some_iff.mp h).1
  apply List.ext_getElem?
  intro i
  by_cases hi : i = k
  · subst hi
    rw [fvs_at h, List.getElem?_set_self (by rw [fvs, List.length_map, List.length_range]; exact hl), hv]
  · rw [List.getElem?_set_ne (Ne.symm hi)]
    cases hb : ks[i]? with
    | none =>
      have hb2 : ks.length ≤ i := List.getElem?_eq_none_iff.mp hb
      rw [List.getElem?_eq_none_iff.mpr (by rw [fvs, List.length_map, List.length_range]; exact hb2), List.getElem?_eq_none_iff.mpr (by rw [fvs, List.length_map, List.length_range]; exact hb2)]
    | some kj => rw [fvs_at hb, fvs_at hb, ho i kj hi]
section HR
variable {X : Ctx} {cc : ByteArray} {own : String} {G : Gt} {l0 : Launch} {A0 : Nat → Prop} {lv n0 : Nat} {rt : Option FieldType} {r : Option Value} {D' : Dt} {pc : Nat} {L : List (Nat × Value)} {st : List Value} {D : Dt} {la : LA}
theorem j_get (C : Cx X cc own G l0 A0 lv n0 rt r D') {idx ci k : Nat} (kd : Nat) (F : FL own idx ci k) (hd : decode cc pc = .ok (.getfield idx, 3)) (hV : V la = true) (h0 : la.1 = ci ∧ la.2.2.1 = 0) (hk : (fk ci)[k]? = some kd)
    (kk : J X (Rep G D) (pc + 3) L (fv G D la kd k :: st)) : J X (Rep G D) pc L (.ref (ad G la) :: st) := by
  obtain ⟨p, l, e, R, s, m, args, below, meth, c, A, nL, Q, cs, sl⟩ := X
  obtain ⟨hx, hb, hml, hown, hts, hlk, hK, hG, hR, hr, hQ, hl0, hA0, hn0, hSx⟩ := C
  intro H locs ls h1 h2 h3
  obtain ⟨hci, F⟩ := F
  obtain ⟨q, hq, hw⟩ := ws_at (D := D) hG hV
  rw [cell_obj h0.2, h0.1] at hw
  have hkN : k < cN ci := by rw [← cls_fk ci hci]; exact (List.getElem?_eq_some_iff.mp hk).1
  rcases F with F | ⟨h, F⟩
  · exact va_get (D := dG G) hx hb hts (cls_in hci) hown hK.1 h1 q hw (cls_cl ci hci) k hkN (hts _ F) (fun _ h9 => h9) (fvs_at hk) hd (kk H locs ls h1 h2 h3)
  · exact va_getN (D := dG G) hx hb hts (cls_in hci) hown hK.1 h1 q hw (cls_cl ci hci) k hkN (va_Nw.use (nw_tab F) (hK.2 _ F)) (fun _ h9 => h9) (fvs_at hk) hd (kk H locs ls h1 h2 h3)
theorem j_getI (C : Cx X cc own G l0 A0 lv n0 rt r D') {idx ci k : Nat} (F : FL own idx ci k) (hd : decode cc pc = .ok (.getfield idx, 3)) (hV : V la = true) (h0 : la.1 = ci ∧ la.2.2.1 = 0) (hk : (fk ci)[k]? = some 0)
    (kk : J X (Rep G D) (pc + 3) L (.int (D.1 la k) :: st)) : J X (Rep G D) pc L (.ref (ad G la) :: st) := j_get C 0 F hd hV h0 hk kk
theorem j_getS (C : Cx X cc own G l0 A0 lv n0 rt r D') {idx ci k : Nat} (lb : LA) (F : FL own idx ci k) (hd : decode cc pc = .ok (.getfield idx, 3)) (hV : V la = true) (h0 : la.1 = ci ∧ la.2.2.1 = 0) (hk : (fk ci)[k]? = some 1) (hs : sr la k = lb)
    (kk : J X (Rep G D) (pc + 3) L (.ref (ad G lb) :: st)) : J X (Rep G D) pc L (.ref (ad G la) :: st) := by
  subst hs
  exact j_get C 1 F hd hV h0 hk kk
theorem j_getD (C : Cx X cc own G l0 A0 lv n0 rt r D') {idx ci k : Nat} (cj : Nat) (F : FL own idx ci k) (hd : decode cc pc = .ok (.getfield idx, 3)) (hV : V la = true) (h0 : la.1 = ci ∧ la.2.2.1 = 0) (hk : (fk ci)[k]? = some 2) (hc : dk la k = cj)
    (kk : J X (Rep G D) (pc + 3) L (va_rf ((D.2.2 la k).map (fun n => ad G (cj, n, 0, 0))) :: st)) : J X (Rep G D) pc L (.ref (ad G la) :: st) := by
  subst hc
  exact j_get C 2 F hd hV h0 hk kk
theorem j_put (C : Cx X cc own G l0 A0 lv n0 rt r D') {idx ci k : Nat} (kd : Nat) {D1 : Dt} {v : Value} (F : FL own idx ci k) (hd : decode cc pc = .ok (.putfield idx, 3)) (hV : V la = true) (h0 : la.1 = ci ∧ la.2.2.1 = 0) (hk : (fk ci)[k]? = some kd) (hfin : (cT ci k).2.2.2 = false) (hn : narrow (cY ci k) v = v) (hfit : fits (cY ci k) v = true)
    (hv : fv G D1 la kd k = v) (ho : ∀ j kj, j ≠ k → fv G D1 la kj j = fv G D la kj j) (hoc : ∀ lb, lb ≠ la → cellOf G D1 lb = cellOf G D lb)
    (kk : J X (Rep G D1) (pc + 3) L st) : J X (Rep G D) pc L (v :: .ref (ad G la) :: st) := by
  obtain ⟨p, l, e, R, s, m, args, below, meth, c, A, nL, Q, cs, sl⟩ := X
  obtain ⟨hx, hb, hml, hown, hts, hlk, hK, hG, hR, hr, hQ, hl0, hA0, hn0, hSx⟩ := C
  intro H locs ls h1 h2 h3
  obtain ⟨hci, F⟩ := F
  obtain ⟨q, hq, hw⟩ := ws_at (D := D) hG hV
  rw [cell_obj h0.2, h0.1] at hw
  have hkl := (List.getElem?_eq_some_iff.mp hk).1
  have hkN : k < cN ci := by rw [← cls_fk ci hci]; exact hkl
  have hset : (wsG G D).set q (ad G la, .inr (ci, (fvs G D la (fk ci)).set k v)) = wsG G D1 := ws_set hG hq (by rw [cell_obj h0.2, h0.1, fvs_set hk hv ho]) hoc
  have hlen : k < (fvs G D la (fk ci)).length := by rw [fvs, List.length_map, List.length_range]; exact hkl
  rcases F with F | ⟨h, F⟩
  · exact va_put (D := dG G) hx hb hts (cls_in hci) (cY ci) (cls_ty0 ci hci) (cls_nm0 ci hci) hown hK.1 h1 (ws_D hG) h2 q hw (cls_cl ci hci) k hkN (hts _ F) (fun _ h9 => h9) hfin (cls_ty0 ci hci k hkN) hn hfit hlen hd (fun H1 locs1 hP hD hS => kk H1 locs1 ls (by rw [hset] at hP; exact hP) hS h3)
  · exact va_putN (D := dG G) hx hb hts (cls_in hci) (cY ci) (cls_ty0 ci hci) (cls_nm0 ci hci) hown hK.1 h1 (ws_D hG) h2 q hw (cls_cl ci hci) k hkN (va_Nw.use (nw_tab F) (hK.2 _ F)) (fun _ h9 => h9) hfin (cls_ty0 ci hci k hkN) hn hfit hlen hd (fun H1 locs1 hP hD hS => kk H1 locs1 ls (by rw [hset] at hP; exact hP) hS h3)
theorem fv_setI_ne {j k kj : Nat} {v : Int32} (h : j ≠ k) : fv G (setI D la k v) la kj j = fv G D la kj j := by
  unfold fv setI
  simp [h]
theorem fv_setR_ne {j k kj : Nat} {v : Option Nat} (h : j ≠ k) : fv G (setR D la k v) la kj j = fv G D la kj j := by
  unfold fv setR
  simp [h]
theorem j_putI (C : Cx X cc own G l0 A0 lv n0 rt r D') {idx ci k : Nat} {v : Int32} (F : FL own idx ci k) (hd : decode cc pc = .ok (.putfield idx, 3)) (hV : V la = true) (h0 : la.1 = ci ∧ la.2.2.1 = 0) (hk : (fk ci)[k]? = some 0) (hfin : (cT ci k).2.2.2 = false) (hY : cY ci k = .int)
    (kk : J X (Rep G (setI D la k v)) (pc + 3) L st) : J X (Rep G D) pc L (.int v :: .ref (ad G la) :: st) :=
  j_put C 0 F hd hV h0 hk hfin (by rw [hY]; rfl) (by rw [hY]; rfl) (by simp [fv, setI]) (fun j kj h => fv_setI_ne h) (fun lb h => setI_cell h) kk
theorem nar_z {v : Int32} (h : v = 0 ∨ v = 1) : narrow .boolean (.int v) = .int v ∧ fits .boolean (.int v) = true := by
  rcases h with rfl | rfl <;> decide
theorem j_putZ (C : Cx X cc own G l0 A0 lv n0 rt r D') {idx ci k : Nat} {v : Int32} (F : FL own idx ci k) (hd : decode cc pc = .ok (.putfield idx, 3)) (hV : V la = true) (h0 : la.1 = ci ∧ la.2.2.1 = 0) (hk : (fk ci)[k]? = some 0) (hfin : (cT ci k).2.2.2 = false) (hY : cY ci k = .boolean) (hv : v = 0 ∨ v = 1)
    (kk : J X (Rep G (setI D la k v)) (pc + 3) L st) : J X (Rep G D) pc L (.int v :: .ref (ad G la) :: st) :=
  j_put C 0 F hd hV h0 hk hfin (by rw [hY]; exact (nar_z hv).1) (by rw [hY]; exact (nar_z hv).2) (by simp [fv, setI]) (fun j kj h => fv_setI_ne h) (fun lb h => setI_cell h) kk
theorem j_putR (C : Cx X cc own G l0 A0 lv n0 rt r D') {idx ci k : Nat} (cj : Nat) {v : Option Nat} {nm : String} (F : FL own idx ci k) (hd : decode cc pc = .ok (.putfield idx, 3)) (hV : V la = true) (h0 : la.1 = ci ∧ la.2.2.1 = 0) (hk : (fk ci)[k]? = some 2) (hfin : (cT ci k).2.2.2 = false) (hY : cY ci k = .object nm) (hc : dk la k = cj)
    (kk : J X (Rep G (setR D la k v)) (pc + 3) L st) : J X (Rep G D) pc L (va_rf (v.map (fun n => ad G (cj, n, 0, 0))) :: .ref (ad G la) :: st) := by
  subst hc
  exact j_put C 2 F hd hV h0 hk hfin (by rw [hY]; cases v <;> rfl) (by rw [hY]; cases v <;> rfl) (by simp [fv, setR]) (fun j kj h => fv_setR_ne h) (fun lb h => setR_cell h) kk
end HR
