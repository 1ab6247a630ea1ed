/-! ===== constructors: the cells come one behind another; t of them are there, with the contents E ===== -/
def setE (E : LA → va_E) (la : LA) (e : va_E) : LA → va_E := fun l => if l = la then e else E l
def RepC (G : Gt) (B t : Nat) (E : LA → va_E) (H : Heap) : Prop := H.size = B + t ∧ ∀ (k : Nat) (la : LA), k < t → (lyG G)[k]? = some la → va_at (dG G) vwCl (ad G la, E la) H
def GB (G : Gt) (B : Nat) (A : Nat → Prop) : Prop := (∀ (k : Nat) (la : LA), (lyG G)[k]? = some la → ad G la = B + k) ∧ (lyG G).Nodup ∧ ∀ q, B ≤ q → A q
theorem va_aoA {u U : State} (hvm : u.vm.Alike U.vm) (h : (Cond.arrayOver (.array .int)).before #[] u = true) : (Cond.arrayOver (.array .int)).before #[] U = true := by
  have hspec : ∃ comp c k, u.vm.findClass (FieldType.array .int).toString = some comp ∧ (u.vm.classes.findIdx? fun (x : Class) => match x.kind with | .array component _ => component == comp | _ => false) = some c ∧ u.vm.classes[c]? = some k ∧ k.kind = .array comp (.array .int) ∧ u.vm.findClass ("[" ++ (FieldType.array .int).toString) = some c := by
    simp only [Cond.before, Cond.holds, Cond.value, beq_iff_eq] at h
    cases hc : u.vm.findClass (FieldType.array .int).toString with
    | none => simp [hc] at h
    | some comp =>
      simp only [hc, Option.bind_some, Option.bind_eq_some_iff, Option.map_eq_some_iff] at h
      obtain ⟨c, hi, k, hk, hb⟩ := h
      obtain ⟨hlt, hp, -⟩ := Array.findIdx?_eq_some_iff_getElem.mp hi
      have hkk : u.vm.classes[c] = k := (Array.getElem?_eq_some_iff.mp hk).2
      rw [hkk] at hp
      cases hkind : k.kind with
      | array component ty =>
        rw [hkind] at hb hp
        simp at hb hp
        exact ⟨comp, c, k, rfl, hi, hk, by rw [hkind, hp, hb.1], hb.2⟩
      | _ => rw [hkind] at hb; simp at hb
  obtain ⟨comp, c, k, h1, h2, h3, h4, h5⟩ := hspec
  obtain ⟨k', hk', he⟩ := hvm.2.2 _ _ h3
  have hi : (U.vm.classes.findIdx? fun (x : Class) => match x.kind with | .array component _ => component == comp | _ => false) = some c := by
    have e1 := va_idx_bare U.vm comp
    have e2 := va_idx_bare u.vm comp
    have e3 : U.vm.bare = u.vm.bare := by first | exact hvm.bare_eq | exact hvm.bare_eq.symm
    rw [e3] at e1
    exact e1.symm.trans (e2.trans h2)
  have hkind : k'.kind = .array comp (.array .int) := by rw [he]; exact h4
  have f1 : U.vm.findClass (FieldType.array .int).toString = some comp := by rw [hvm.findClass]; exact h1
  have f2 : U.vm.findClass ("[" ++ (FieldType.array .int).toString) = some c := by rw [hvm.findClass]; exact h5
  unfold Cond.before Cond.holds
  simp only [Cond.value]
  rw [f1, Option.bind_some]
  refine (congrArg (fun o : Option Nat => (o.bind (fun c => (U.vm.classes[c]?).map fun (k : Class) => match k.kind with | .array _ ty => decide (ty = FieldType.array .int) && decide (U.vm.findClass ("[" ++ (FieldType.array .int).toString) = some c) | _ => false) == some true)) hi).trans ?_
  simp [hk', hkind, f2]
def aoW (U : State) : Prop := va_AO "SunTable$State" U ∧ va_AO "SunTable$Rule" U ∧ va_AO "SunTable$World" U ∧ (Cond.arrayOver (.array .int)).before #[] U = true
theorem aoW.moved {u U : State} (hvm : u.vm.Alike U.vm) (h : aoW u) : aoW U := ⟨h.1.moved hvm, h.2.1.moved hvm, h.2.2.1.moved hvm, va_aoA hvm h.2.2.2⟩
def QcC (G : Gt) (A : Nat → Prop) (B t' : Nat) (E' : LA → va_E) : Array Value → State → Outcome → State → Prop := fun _ st oc t => oc = .returned none ∧ RepC G B t' E' t.heap ∧ Kx G t ∧ Sx G A t t.heap ∧ aoW t ∧ va_F A st t
def rmC (n mc ms : Nat) : Room := { frames := n, cells := mc, slots := ms, locals := 100 * n }
def MC (l : Launch) (G : Gt) (A : Nat → Prop) (B lv : Nat) (y : MethodName) (cc : ByteArray) (nL : Nat) (av : List Value) (t : Nat) (E : LA → va_E) (t' : Nat) (E' : LA → va_E) (mc ms : Nat) : Prop :=
  Met l y (wsO y cc nL none) (rmC lv mc ms) (va_Pc av (fun U => RepC G B t E U.heap ∧ Kx G U ∧ Sx G A U U.heap ∧ aoW U)) (QcC G A B t' E') mc ms A
/-- the walk within a constructor: what stays, and what has come so far -/
def Cz (p : Program) (l : Launch) (e : Env) (R : Room) (s : State) (m : MethodId) (args : Array Value) (below : List Frame) (meth : Method) (c : Code) (A : Nat → Prop) (nL : Nat) (cc : ByteArray) (own : String) (G : Gt) (B lv : Nat) : Prop :=
  p.tables.exec = Jvm.exec ∧ c.code = cc ∧ c.maxLocals = nL ∧ s.vm.findClass own = some m.cls ∧ (∀ w ∈ tg, w.before args s = true) ∧ meth.locks = false ∧ Kx G s ∧ GB G B A ∧ lv ≤ R.frames ∧ 100 * lv ≤ R.locals ∧ meth.sig.returnType = none ∧ Sx G A s s.heap ∧ aoW s ∧ meth.name = "<init>" ∧ Gok G A
section CT
variable {p : Program} {l : Launch} {e : Env} {R : Room} {s : State} {m : MethodId} {args : Array Value} {below : List Frame} {meth : Method} {c : Code} {A : Nat → Prop} {nL : Nat} {Q : State → Prop} {cs sl : Nat} {cc : ByteArray} {own : String} {G : Gt} {B lv t : Nat} {E : LA → va_E} {pc : Nat} {L : List (Nat × Value)} {st : List Value}
theorem Cz.x (C : Cz p l e R s m args below meth c A nL cc own G B lv) (h1 : cs ≤ R.cells) (h2 : sl ≤ R.slots) {D : Dt} : Cx (p, l, e, R, s, m, args, below, meth, c, A, nL, Q, cs, sl) cc own G l A lv nL none (some .null) D := by
  obtain ⟨a1, a2, a3, a4, a5, a6, a7, a8, a9, a10, a11, a12, a13, a14, a15⟩ := C
  exact ⟨a1, a2, a3, a4, a5, a6, a7, a15, ⟨a9, a10, h1, h2⟩, a11, (fun h => by cases h), rfl, rfl, rfl, a12⟩
theorem RepC.set {k0 : Nat} {la : LA} {ee : va_E} {H H1 : Heap} (hB : GB G B A) (h : RepC G B t E H) (hk : (lyG G)[k0]? = some la) (he : va_at (dG G) vwCl (ad G la, ee) H1) (hz : H1.size = H.size) (ho : ∀ q, q ≠ ad G la → H1[q]? = H[q]?) : RepC G B t (setE E la ee) H1 := by
  refine ⟨hz.trans h.1, fun k lb hkt hlb => ?_⟩
  by_cases hb : lb = la
  · subst hb
    simp only [setE, if_true]
    exact he
  · simp only [setE, if_neg hb]
    refine (h.2 k lb hkt hlb).kept (ho _ (fun z => hb ?_))
    have e1 := hB.1 k lb hlb
    have e2 := hB.1 k0 la hk
    have e3 : k = k0 := by omega
    subst e3
    exact Option.some.inj (hlb.symm.trans hk)
theorem RepC.push {la : LA} {ee : va_E} {H H1 : Heap} (hB : GB G B A) (h : RepC G B t E H) (hk : (lyG G)[t]? = some la) (he : va_at (dG G) vwCl (ad G la, ee) H1) (hz : H1.size = H.size + 1) (ho : ∀ q, q < H.size → H1[q]? = H[q]?) : RepC G B (t + 1) (setE E la ee) H1 := by
  refine ⟨by rw [hz, h.1]; omega, fun k lb hkt hlb => ?_⟩
  by_cases hb : lb = la
  · subst hb
    simp only [setE, if_true]
    exact he
  · simp only [setE, if_neg hb]
    have e1 := hB.1 k lb hlb
    have hkt2 : k < t := by
      rcases Nat.lt_or_ge k t with q | q
      · exact q
      · have : k = t := by omega
        subst this
        exact absurd (Option.some.inj (hlb.symm.trans hk)) hb
    exact (h.2 k lb hkt2 hlb).kept (ho _ (by show ad G lb < H.size; rw [e1, h.1]; omega))
theorem vaS_grow {H0 H H1 : Heap} {locs : List Loc} (h : va_S A H0 H locs) (hz : H.size ≤ H1.size) (ho : ∀ q, q < H.size → H1[q]? = H[q]?) : va_S A H0 H1 locs := ⟨Nat.le_trans h.1 hz, fun x h1 h2 => (ho x (Nat.lt_of_lt_of_le h1 h.1)).trans (h.2.1 x h1 h2), h.2.2⟩
def blk (ci : Nat) : va_E := .inr (ci, (List.range (cN ci)).map (fun k => defaultValue (cY ci k)))
theorem c_new (C : Cz p l e R s m args below meth c A nL cc own G B lv) {idx ci : Nat} (la : LA) (hk : (lyG G)[t]? = some la) (hci : ci < 12) (hcl : Cond.classLink own idx (cR ci) ∈ tg) (hin : Cond.instantiable (cR ci) (cN ci) ∈ tg) (hini : Cond.initialized (cR ci) ∈ tg) (hcs : cs + 1 ≤ R.cells) (hsl : sl + cN ci ≤ R.slots) (hd : decode cc pc = .ok (.new idx, 3))
    (k : J (p, l, e, R, s, m, args, below, meth, c, A, nL, Q, cs + 1, sl + cN ci) (RepC G B (t + 1) (setE E la (blk ci))) (pc + 3) L (.ref (ad G la) :: st)) : J (p, l, e, R, s, m, args, below, meth, c, A, nL, Q, cs, sl) (RepC G B t E) pc L st := by
  obtain ⟨hx, hb, hml, hown, hts, hlk, hK, hB, hR1, hR2, hr, hSx, hao, hnm, hG⟩ := C
  intro H locs ls h1 h2 h3
  have hKn := hK.1.1 ci _ (cls_cl ci hci)
  have ea := hB.1 t la hk
  refine W.newcK hx hb hown (hts _ hcl) (hts _ hin) (hts _ hini) rfl hd hcs hsl hKn.2.1 h1.1 fun H1 kC hkC e1 z1 o1 => ?_
  rw [← h1.1] at z1 o1
  have hat : va_at (dG G) vwCl (ad G la, blk ci) H1 := by
    rw [ea]
    exact ⟨_, cls_cl ci hci, (u_born (cY ci) hts (cls_in hci) hKn hkC e1 (cls_ty0 ci hci)).to (fun j hj => by
      show _ = vp_V _ j
      simp [vp_V, List.getD, hj])⟩
  have kk := k H1 locs ls (h1.push hB hk hat z1 o1) (vaS_grow h2 (by omega) o1) h3
  rw [ea] at kk
  exact kk
theorem arr_cy {tc : Nat} {ty : FieldType} {cA : ClassId} (hK : Kx G s) (ht : (tysG G)[tc]? = some (G.2.2.1 tc, ty)) (hn : s.vm.findClass ("[" ++ ty.toString) = some cA) : cA = G.2.2.1 tc := by
  have h := (hK.1.2 tc _ ht).2
  cases ty with
  | object C =>
    obtain ⟨kA, comp, -, -, -, h4⟩ := h
    exact Option.some.inj (hn.symm.trans h4)
  | _ => exact Option.some.inj (hn.symm.trans h)
theorem c_newa (C : Cz p l e R s m args below meth c A nL cc own G B lv) {atype : ArrayType} (tc N : Nat) {n : Int32} {ty : FieldType} {a0 : (Nat → Int32) ⊕ (Nat → Int64) ⊕ (Nat → UInt32) ⊕ (Nat → UInt64) ⊕ (Nat → Option Nat)} (la : LA) (hk : (lyG G)[t]? = some la) (hty : newarray.typeOf atype = ty) (ht : (tysG G)[tc]? = some (G.2.2.1 tc, ty)) (hw : Cond.arrayClass ty ∈ tg) (ha : ∀ cA : ClassId, vp_cell cA (N, a0) = arrV cA N (fun _ => defaultValue ty)) (hn : ¬ n < 0) (hN : n.toNatClampNeg = N) (hbytes : N * componentBytes ty ≤ 536870912) (hcs : cs + 1 ≤ R.cells) (hsl : sl + N ≤ R.slots) (hd : decode cc pc = .ok (.newarray atype, 2))
    (k : J (p, l, e, R, s, m, args, below, meth, c, A, nL, Q, cs + 1, sl + N) (RepC G B (t + 1) (setE E la (.inl (G.2.2.1 tc, N, a0)))) (pc + 2) L (.ref (ad G la) :: st)) : J (p, l, e, R, s, m, args, below, meth, c, A, nL, Q, cs, sl) (RepC G B t E) pc L (.int n :: st) := by
  obtain ⟨hx, hb, hml, hown, hts, hlk, hK, hB, hR1, hR2, hr, hSx, hao, hnm, hG⟩ := C
  intro H locs ls h1 h2 h3
  subst hty
  have ea := hB.1 t la hk
  refine va_newaK hx hb (hts _ hw) rfl hd rfl hn hN hbytes hcs hsl h1.1 fun H1 cA e1 z1 o1 hAr hNm => ?_
  rw [← h1.1] at z1 o1
  have hcy := arr_cy hK ht hNm
  subst hcy
  have hat : va_at (dG G) vwCl (ad G la, .inl (G.2.2.1 tc, N, a0)) H1 := by
    rw [ea]
    show H1[B + t]? = some (vp_cell _ _)
    rw [ha]
    exact e1
  have kk := k H1 locs ls (h1.push hB hk hat z1 o1) (vaS_grow h2 (by omega) o1) h3
  rw [ea] at kk
  exact kk
theorem c_anew (C : Cz p l e R s m args below meth c A nL cc own G B lv) {idx : Nat} {Cn : String} (tc N : Nat) {n : Int32} (la : LA) (hk : (lyG G)[t]? = some la) (ht : (tysG G)[tc]? = some (G.2.2.1 tc, .object Cn)) (hw : Cond.classLink own idx Cn ∈ tg) (hov : va_AO Cn s) (hn : ¬ n < 0) (hN : n.toNatClampNeg = N) (hbytes : N * 4 ≤ 536870912) (hcs : cs + 1 ≤ R.cells) (hsl : sl + N ≤ R.slots) (hd : decode cc pc = .ok (.anewarray idx, 3))
    (k : J (p, l, e, R, s, m, args, below, meth, c, A, nL, Q, cs + 1, sl + N) (RepC G B (t + 1) (setE E la (.inl (G.2.2.1 tc, N, .inr (.inr (.inr (.inr (fun _ => none)))))))) (pc + 3) L (.ref (ad G la) :: st)) : J (p, l, e, R, s, m, args, below, meth, c, A, nL, Q, cs, sl) (RepC G B t E) pc L (.int n :: st) := by
  obtain ⟨hx, hb, hml, hown, hts, hlk, hK, hB, hR1, hR2, hr, hSx, hao, hnm, hG⟩ := C
  intro H locs ls h1 h2 h3
  have ea := hB.1 t la hk
  subst hN
  refine W.anew hx hb hown (hts _ hw) (va_AO.use hov) rfl hd rfl hn hbytes hcs hsl fun cA kA comp f1 f2 f3 f4 => ?_
  have hcy := arr_cy hK ht f1
  subst hcy
  generalize hH1 : H.push ({ cls := G.2.2.1 tc, slots := Array.replicate n.toNatClampNeg .null, vm := .none } : Cell) = H1
  have z1 : H1.size = H.size + 1 := by rw [← hH1, Array.size_push]
  have e1 : H1[H.size]? = some (arrV (G.2.2.1 tc) n.toNatClampNeg (fun _ => .null)) := by rw [← hH1, Array.getElem?_push_size, ← arrV_new]
  have o1 : ∀ q : Nat, q < H.size → H1[q]? = H[q]? := fun q hq => by rw [← hH1, Array.getElem?_push, if_neg (Nat.ne_of_lt hq)]
  have hat : va_at (dG G) vwCl (ad G la, .inl (G.2.2.1 tc, n.toNatClampNeg, .inr (.inr (.inr (.inr (fun _ => none)))))) H1 := by
    rw [ea, ← h1.1]
    exact e1
  have kk := k H1 locs ls (h1.push hB hk hat z1 o1) (vaS_grow h2 (by omega) o1) h3
  rw [ea, ← h1.1] at kk
  exact kk
theorem c_get (C : Cz p l e R s m args below meth c A nL cc own G B lv) {idx ci k0 k : Nat} {la : LA} {fs : List Value} {v : Value} (F : FL own idx ci k) (hk0 : (lyG G)[k0]? = some la) (hlt : k0 < t) (hE : E la = .inr (ci, fs)) (hkN : k < cN ci) (hv : fs[k]? = some v) (hd : decode cc pc = .ok (.getfield idx, 3))
    (kk : J (p, l, e, R, s, m, args, below, meth, c, A, nL, Q, cs, sl) (RepC G B t E) (pc + 3) L (v :: st)) : J (p, l, e, R, s, m, args, below, meth, c, A, nL, Q, cs, sl) (RepC G B t E) pc L (.ref (ad G la) :: st) := by
  obtain ⟨hx, hb, hml, hown, hts, hlk, hK, hB, hR1, hR2, hr, hSx, hao, hnm, hG⟩ := C
  intro H locs ls h1 h2 h3
  obtain ⟨hci, F⟩ := F
  have hP : va_P (dG G) vwCl [(ad G la, .inr (ci, fs))] H := fun j q hj => by
    have h0 : j < 1 := (List.getElem?_eq_some_iff.mp hj).1
    rw [show j = 0 by omega] at hj
    cases hj
    rw [← hE]
    exact h1.2 k0 la hlt hk0
  rcases F with F | ⟨h, F⟩
  · exact va_get (D := dG G) hx hb hts (cls_in hci) hown hK.1 hP 0 rfl (cls_cl ci hci) k hkN (hts _ F) (fun _ h9 => h9) hv hd (kk H locs ls h1 h2 h3)
  · exact va_getN (D := dG G) hx hb hts (cls_in hci) hown hK.1 hP 0 rfl (cls_cl ci hci) k hkN (va_Nw.use (nw_tab F) (hK.2 _ F)) (fun _ h9 => h9) hv hd (kk H locs ls h1 h2 h3)
theorem c_putK (C : Cz p l e R s m args below meth c A nL cc own G B lv) {idx ci k0 k : Nat} {la : LA} {fs : List Value} {v : Value} (F : Cond.fieldLink own idx (cT ci k).1 (cT ci k).2.1 (cT ci k).2.2.1 ∈ tg) (hci : ci < 12) (hdecl : (cT ci k).1 = own) (hk0 : (lyG G)[k0]? = some la) (hlt : k0 < t) (hE : E la = .inr (ci, fs)) (hkN : k < cN ci) (hl : k < fs.length) (hn : narrow (cY ci k) v = v) (hfit : fits (cY ci k) v = true) (hd : decode cc pc = .ok (.putfield idx, 3))
    (kk : J (p, l, e, R, s, m, args, below, meth, c, A, nL, Q, cs, sl) (RepC G B t (setE E la (.inr (ci, fs.set k v)))) (pc + 3) L st) : J (p, l, e, R, s, m, args, below, meth, c, A, nL, Q, cs, sl) (RepC G B t E) pc L (v :: .ref (ad G la) :: st) := by
  obtain ⟨hx, hb, hml, hown, hts, hlk, hK, hB, hR1, hR2, hr, hSx, hao, hnm, hG⟩ := C
  intro H locs ls h1 h2 h3
  have hP := h1.2 k0 la hlt hk0
  rw [hE] at hP
  have hc := cls_cl ci hci
  have hin := cls_in hci
  have hap := va_apart (own := own) (Ts := tg) hts hin (cY ci) (cls_ty0 ci hci) (cls_nm0 ci hci) hK.1 hc
  obtain ⟨r, h1', cell, q1, q2, q3, q4⟩ := hP
  have hr' : r = (cR ci, cT ci, cN ci) := Option.some.inj (h1'.symm.trans hc)
  subst hr'
  obtain ⟨hS, hfc, kC, hkC, hkind⟩ := hK.1.1 ci _ hc
  obtain ⟨cf, kf, fi, f, hi, hsl⟩ := hS k hkN
  have hlay := hts _ (hin _ (u_in_lay hkN))
  have hst := (u_facts hfc hkC (u_lays hts hin hkN) hi).1
  have fin : ∀ (H' : Heap), H'[ad G la]? = some (cell.setSlot f.slot v) → H'.size = H.size → (∀ q, q ≠ ad G la → H'[q]? = H[q]?) → W p l e R s m args below meth c H' (locs ++ [⟨ad G la, f.slot⟩]) cs sl Q (F0 m (pc + 3) ls st) := by
    intro H' e1 e2 e3
    rw [hsl] at e1
    refine kk H' _ ls (h1.set hB hk0 ⟨_, hc, t_OB.to (V := updV (vp_V fs) k v) ⟨_, e1, q2, q3, t_set q4 hap hkN v⟩ (fun j _ => vp_updV_set hl v j)⟩ e2 e3) (h2.put e2 e3 ?_) h3
    rw [hB.1 k0 la hk0]
    exact hB.2.2 _ (by omega)
  by_cases hfin : (cT ci k).2.2.2 = true
  · unfold u_lay at hlay
    rw [if_pos hfin] at hlay
    have hcf : m.cls = cf := by
      obtain ⟨_, _, c', _, _, _, -, -, hf', -, -, -, hown2, -⟩ := Cond.laysFinal_spec hlay
      have e1 : c' = cf := by have := hi.symm.trans hf'; simp at this; exact this.1.symm
      rw [hdecl] at hown2
      rw [← e1]; exact Option.some.inj (hown.symm.trans hown2)
    have h6 := u_fits hfc hkC hkind (Or.inr hlay) hi (cls_ty0 ci hci k hkN) hn hfit
    exact W.putFinK hx hb hown (hts _ F) hi hst hcf hnm (by rw [q2]; exact h6) q1 q3 (by rw [hsl]; exact k2_hasslot (q4 k hkN)) rfl rfl hd fin
  · unfold u_lay at hlay
    rw [if_neg hfin] at hlay
    have h6 := u_store hfc hkC hkind hlay hi (cls_ty0 ci hci k hkN) hn hfit
    exact W.putK hx hb (f := f) ⟨hown, hts _ F, ⟨_, _, _, hi⟩, hst⟩ (by rw [q2]; exact h6) q1 q3 (by rw [hsl]; exact k2_hasslot (q4 k hkN)) rfl rfl hd fin
end CT
/-- the words of a call of a constructor -/
def CI (own : String) (idx : Nat) (y : MethodName) (bytes : ByteArray) (maxL n : Nat) : Prop :=
  (Cond.methodLink own idx y ∈ tg ∨ ∃ h, Cond.methodLinkNest own idx y h ∈ nw) ∧ Cond.instanceMethod y ∈ tg ∧ Cond.initialized y.cls ∈ tg ∧ Cond.code y bytes maxL none ∈ tg ∧ y.name = "<init>" ∧ (y.cls ≠ "java/lang/invoke/MethodHandle" ∧ y.cls ≠ "java/lang/invoke/VarHandle" ∧ (parseMethodDescriptor y.desc).map (fun d => d.parameters.length) = some n) ∧ maxL ≤ 81
section CT2
variable {p : Program} {l : Launch} {e : Env} {R : Room} {s : State} {m : MethodId} {args : Array Value} {below : List Frame} {meth : Method} {c : Code} {A : Nat → Prop} {nL : Nat} {Q : State → Prop} {cs sl : Nat} {cc : ByteArray} {own : String} {G : Gt} {B lv t : Nat} {E : LA → va_E} {pc : Nat} {L : List (Nat × Value)} {st : List Value}
theorem run_C {H : Heap} {locs : List Loc} {mc ms t' : Nat} {E' : LA → va_E} {ls : Array Slot} {st0 rest : List Value} {a : Array Value} (hr : va_Run p l e R s m args below meth c H locs cs sl mc ms (F0 m pc ls st0) rest (QcC G A B t' E' a) A) (hS : va_S A s.heap H locs)
    (kk : ∀ (H1 : Heap) (locs1 : List Loc), RepC G B t' E' H1 → va_S A s.heap H1 locs1 → W p l e R s m args below meth c H1 locs1 (cs + mc) (sl + ms) Q (F0 m (pc + 3) ls rest)) : W p l e R s m args below meth c H locs cs sl Q (F0 m pc ls st0) := by
  intro T hT Xs
  obtain ⟨v, st₀, t, T', L, h0, X', hL, e1, e2, ⟨hv, hP, hK, -, -, hz, hk⟩, st⟩ := hr T hT Xs
  cases hv
  rw [h0] at hz hk
  obtain ⟨t2, a1, b1⟩ := kk T'.heap (locs ++ L) (by rw [e1]; exact hP) ⟨Nat.le_trans hS.1 (by rw [e1]; exact hz), fun q h1 h2 => by rw [e1, hk q (Nat.lt_of_lt_of_le h1 hS.1) h2]; exact hS.2.1 q h1 h2, fun q hq => by
      rcases List.mem_append.mp hq with h | h
      · exact hS.2.2 q h
      · exact hL q h⟩ T' rfl X'
  exact ⟨t2, st t2 a1, b1⟩
theorem blindC {av : List Value} : FrameBlind (va_Pc av (fun U => RepC G B t E U.heap ∧ Kx G U ∧ Sx G A U U.heap ∧ aoW U)) := fun a U g mk q => ⟨q.1, q.2.1, Kx.same (u := U) (U := U.calling g mk a) rfl q.2.2.1, Sx.same (u := U) (U := U.calling g mk a) rfl q.2.2.2.1, aoW.moved (u := U) (U := U.calling g mk a) (Vm.Alike.refl U.vm) q.2.2.2.2⟩
theorem c_init (C : Cz p l e R s m args below meth c A nL cc own G B lv) {idx maxL n lv' mc ms t' : Nat} {E' : LA → va_E} {y : MethodName} {bytes : ByteArray} {la : LA} (As rest : List Value) (K : CI own idx y bytes maxL n) (hM : MC l G A B lv' y bytes maxL (.ref (ad G la) :: As) t E t' E' mc ms) (hlv : lv' + 1 ≤ lv) (hd : decode cc pc = .ok (.invokespecial idx, 3)) (hn : As.length = n) (hs : st = As.reverse ++ .ref (ad G la) :: rest) (hst : (rest.map fun v => v.category).sum ≤ 8) (hcs : cs + mc ≤ R.cells) (hsl : sl + ms ≤ R.slots)
    (kk : J (p, l, e, R, s, m, args, below, meth, c, A, nL, Q, cs + mc, sl + ms) (RepC G B t' E') (pc + 3) L rest) : J (p, l, e, R, s, m, args, below, meth, c, A, nL, Q, cs, sl) (RepC G B t E) pc L st := by
  obtain ⟨hx, hb, hml, hown, hts, hlk, hK, hB, hR1, hR2, hr, hSx, hao, hnm, hG⟩ := C
  intro H locs ls h1 h2 h3
  obtain ⟨hlink, hin, hini, hcode, hyn, hd2, hmax⟩ := K
  have hpre : PreS s H (va_Pc (.ref (ad G la) :: As) (fun U => RepC G B t E U.heap ∧ Kx G U ∧ Sx G A U U.heap ∧ aoW U)) (.ref (ad G la) :: As) := ⟨blindC, fun U hU hW => ⟨rfl, by rw [hU]; exact h1, hK.warm hW, by rw [hU]; exact hSx.warm hW h2, hao.moved hW.alike⟩⟩
  have hroom : (rmC lv' mc ms).frames + 1 ≤ R.frames ∧ 8 + (maxL + 11) + (rmC lv' mc ms).locals ≤ R.locals := by simp only [rmC]; omega
  have S : CallFix p m c cc nL s args tg own := ⟨hx, hb, hml, hown, hts⟩
  subst hs
  rcases hlink with hlink | ⟨host, hlink⟩
  · exact run_C (va_runI S hM (cwI n hts (gi_ws (pre := []) hcode (fun w h => by cases h)) rfl rfl rfl (hts _ hini) (hts _ hlink) (hts _ hin) hyn hd2 hroom) hpre rfl hn h3.1 rfl (lv_room hst) hd ⟨hcs, hsl⟩) h2 (fun H1 locs1 hP hS => kk H1 locs1 ls hP hS h3)
  · exact run_C (va_runIN S hM ⟨va_cnB n hts (gi_ws (pre := []) hcode (fun w h => by cases h)) rfl rfl rfl (hK.2 _ hlink) (hts _ hini) hd2 hroom, hyn, hts _ hin⟩ hpre rfl hn h3.1 rfl (lv_room hst) hd ⟨hcs, hsl⟩) h2 (fun H1 locs1 hP hS => kk H1 locs1 ls hP hS h3)
theorem tm_oi : Cond.instanceMethod objectInit ∈ tg := tg_of (by decide +kernel) (by decide +kernel)
theorem tm_oc : Cond.code objectInit ⟨#[0xb1]⟩ 1 none ∈ tg := tg_of (by decide +kernel) (by decide +kernel)
theorem c_obj (C : Cz p l e R s m args below meth c A nL cc own G B lv) {idx a : Nat} (hw : Cond.methodLink own idx objectInit ∈ tg) (hlv : 1 ≤ lv) (hst : (st.map fun v => v.category).sum ≤ 8) (hd : decode cc pc = .ok (.invokespecial idx, 3))
    (kk : J (p, l, e, R, s, m, args, below, meth, c, A, nL, Q, cs, sl) (RepC G B t E) (pc + 3) L st) : J (p, l, e, R, s, m, args, below, meth, c, A, nL, Q, cs, sl) (RepC G B t E) pc L (.ref a :: st) := by
  obtain ⟨hx, hb, hml, hown, hts, hlk, hK, hB, hR1, hR2, hr, hSx, hao, hnm, hG⟩ := C
  intro H locs ls h1 h2 h3
  have hroom : 2 * (F0 m pc ls (.ref a :: st)).monitorRoom + (st.map fun v => v.category).sum ≤ 8 := lv_room hst
  exact W.objInit hx hb hown (hts _ hw) (hts _ tm_oi) (hts _ tm_oc) rfl (by rw [hml]; exact h3.1) rfl hd (by omega) (by omega) (kk H locs ls h1 h2 h3)
theorem c_ret {mc ms t' : Nat} {E' : LA → va_E} (C : Cz p l e R s m args below meth c A nL cc own G B lv) (hcs : cs ≤ mc) (hsl : sl ≤ ms) (ht : t = t') (hE : ∀ (k : Nat) (la : LA), k < t → (lyG G)[k]? = some la → ∀ H : Heap, va_at (dG G) vwCl (ad G la, E la) H → va_at (dG G) vwCl (ad G la, E' la) H) (hd : decode cc pc = .ok (.return_, 1)) : J (p, l, e, R, s, m, args, below, meth, c, A, nL, MQ below (QcC G A B t' E') args s mc ms A, cs, sl) (RepC G B t E) pc L [] := by
  obtain ⟨hx, hb, hml, hown, hts, hlk, hK, hB, hR1, hR2, hr, hSx, hao, hnm, hG⟩ := C
  intro H locs ls h1 h2 h3
  subst ht
  refine W.widen (k := mc) (n := ms) hcs hsl ?_
  exact W.vret hx hb hr (fun t ht hW => ⟨rfl, by rw [ht]; exact ⟨h1.1, fun k la hk hl => hE k la hk hl _ (h1.2 k la hk hl)⟩, hK.warm hW, by rw [ht]; exact hSx.warm hW h2, hao.moved hW.alike, h2.F ht⟩) h2.2.2 hd hlk
theorem mc_start {mc ms t' : Nat} {E' : LA → va_E} {y : MethodName} {av : List Value} {L : List (Nat × Value)} (own : String) (hB : GB G B A) (hG : Gok G A) (hy : plainName y.cls = true) (hyn : y.name = "<init>") (ho : y.cls = own) (hsl : (lg_sl av).length ≤ nL) (hL : lv_args 0 av = L)
    (h : ∀ p e s m args below meth c, Cz p l e (rmC lv mc ms) s m args below meth c A nL cc own G B lv → J (p, l, e, rmC lv mc ms, s, m, args, below, meth, c, A, nL, MQ below (QcC G A B t' E') args s mc ms A, 0, 0) (RepC G B t E) 0 L []) : MC l G A B lv y cc nL av t E t' E' mc ms := by
  refine Met.ofW (cc := cc) (maxL := nL) (ret := none) hy rfl ?_
  intro p e s m args below meth c s₁ Bd hml hv
  obtain ⟨rfl, hR, hK, hSx, hao⟩ := hv
  have hts := atoms_spec (ws := wsO y cc nL none) Bd.pre
  have hown : s.vm.findClass y.cls = some m.cls := findClass_of_methodNamed Bd.named
  have hin : meth.name = y.name := (name_of_methodNamed Bd.named Bd.method).1
  subst ho; subst hL
  have k := h p e s m av.toArray below meth c ⟨Bd.exec, Bd.bytes, hml, hown, fun w hw => hts w (List.mem_cons_of_mem _ hw), Bd.notSynchronized, hK, hB, Nat.le_refl _, Nat.le_refl _, Bd.returns, hSx, hao, hin.trans hyn, hG⟩
  rw [lg_entry_eq]
  exact k s.heap [] _ hR va_S.rf (lv_entry av hsl)
theorem c_iast (C : Cz p l e R s m args below meth c A nL cc own G B lv) {k0 N kn : Nat} {la : LA} {f : Nat → Int32} {i x : Int32} (hk0 : (lyG G)[k0]? = some la) (hlt : k0 < t) (hE : E la = .inl (G.2.2.1 0, N, .inl f)) (hin : inB i N = true) (hkn : i.toNatClampNeg = kn) (hd : decode cc pc = .ok (.iastore, 1))
    (kk : J (p, l, e, R, s, m, args, below, meth, c, A, nL, Q, cs, sl) (RepC G B t (setE E la (.inl (G.2.2.1 0, N, .inl (upd f kn x))))) (pc + 1) L st) : J (p, l, e, R, s, m, args, below, meth, c, A, nL, Q, cs, sl) (RepC G B t E) pc L (.int x :: .int i :: .ref (ad G la) :: st) := by
  obtain ⟨hx, hb, hml, hown, hts, hlk, hK, hB, hR1, hR2, hr, hSx, hao, hnm, hG⟩ := C
  intro H locs ls h1 h2 h3
  subst hkn
  have hP := h1.2 k0 la hlt hk0
  rw [hE] at hP
  have hcell : H[ad G la]? = some (arrV (G.2.2.1 0) N (fun j => .int (f j))) := hP
  have hin2 := inB_in hin
  have hl : i.toNatClampNeg < N := inB_lt hin
  refine W.iast hx hb hcell ((hK.1.2 0 _ rfl).1 N _) (fun h => by cases h) (by rw [arrV_size]; exact hin2) rfl rfl hd fun H' e1 e2 e3 => ?_
  refine kk H' _ ls (h1.set hB hk0 ?_ e2 e3) (h2.put e2 e3 (by rw [hB.1 k0 la hk0]; exact hB.2.2 _ (by omega))) h3
  show H'[ad G la]? = some (vp_cell _ _)
  rw [e1, vp_cell_i, arrV_store]
  congr 2
  funext q
  by_cases hq : q = i.toNatClampNeg
  · simp [updV, upd, hq]
  · simp [updV, upd, hq]
theorem c_aast (C : Cz p l e R s m args below meth c A nL cc own G B lv) {k0 k1 N kn tc ci : Nat} {la lb : LA} {fs : List Value} {f : Nat → Option Nat} {i : Int32} (hk0 : (lyG G)[k0]? = some la) (hlt : k0 < t) (hk1 : (lyG G)[k1]? = some lb) (hlt1 : k1 < t) (hE : E la = .inl (G.2.2.1 tc, N, .inr (.inr (.inr (.inr f))))) (hE1 : E lb = .inr (ci, fs)) (hci : ci < 12) (ht : (tysG G)[tc]? = some (G.2.2.1 tc, .object (cR ci))) (hin : inB i N = true) (hkn : i.toNatClampNeg = kn) (hd : decode cc pc = .ok (.aastore, 1))
    (kk : J (p, l, e, R, s, m, args, below, meth, c, A, nL, Q, cs, sl) (RepC G B t (setE E la (.inl (G.2.2.1 tc, N, .inr (.inr (.inr (.inr (va_up f kn (some (ad G lb))))))))) ) (pc + 1) L st) : J (p, l, e, R, s, m, args, below, meth, c, A, nL, Q, cs, sl) (RepC G B t E) pc L (.ref (ad G lb) :: .int i :: .ref (ad G la) :: st) := by
  obtain ⟨hx, hb, hml, hown, hts, hlk, hK, hB, hR1, hR2, hr, hSx, hao, hnm, hG⟩ := C
  intro H locs ls h1 h2 h3
  subst hkn
  have hP := h1.2 k0 la hlt hk0
  rw [hE] at hP
  have hP1 := h1.2 k1 lb hlt1 hk1
  rw [hE1] at hP1
  have hl : i.toNatClampNeg < N := inB_lt hin
  have h0 : ¬ i < 0 := fun q => inB_in hin (Or.inl q)
  obtain ⟨r', hr', cellV, g1, g2, g3, -⟩ := hP1
  have hcls := (hK.1.1 ci _ (cls_cl ci hci)).2
  obtain ⟨kA, comp, kk1, kk2, kk3, -⟩ := (hK.1.2 tc _ ht).2
  have hcomp : comp = (dG G).1 ci := Option.some.inj (kk3.symm.trans hcls.1)
  subst hcomp
  obtain ⟨kC, hkC, -⟩ := hcls.2
  refine W.aast hx hb hP (fun q h => by cases h) (fun h => by cases h) kk1 kk2 rfl hkC ⟨h0, by show _ < (arrV _ _ _).slots.size; rw [arrV_size]; exact hl⟩ g1 (fun q h => by rw [g3] at h; cases h) (by rw [g2]; exact hkC) (by rw [g2]; exact va_assign hcls) rfl rfl hd fun H1 e1 z oq => ?_
  refine kk H1 _ ls (h1.set hB hk0 ?_ z oq) (h2.put z oq (by rw [hB.1 k0 la hk0]; exact hB.2.2 _ (by omega))) h3
  show H1[ad G la]? = some (vp_cell _ _)
  rw [e1, vp_cell_q, vp_cell_q, arrV_store]
  congr 2
  funext q
  by_cases hq : q = i.toNatClampNeg
  · subst hq
    simp [updV, va_up, va_rf]
  · simp [updV, va_up, hq]
def rowsE (E : LA → va_E) (rs : List LA) (e : va_E) : LA → va_E := fun l => if l ∈ rs then e else E l
end CT2
theorem va_aoU {A : Array Value} {U : State} (h : (Cond.arrayOver (.array .int)).before #[] U = true) : (Cond.arrayOver (.array .int)).before A U = true := h
theorem vr_outer (c : ClassId) (N h0 : Nat) : ∀ i : Nat, Jvm.Free.Multi.outerC c N h0 i = arrV c N (fun j => va_rf (if j < i then some (h0 + 1 + j) else none))
  | 0 => by
    show ({ cls := c, slots := Array.replicate N .null, vm := .none } : Cell) = _
    rw [arrV_new]
    refine congrArg (arrV c N) (funext fun j => ?_)
    simp [va_rf]
  | i + 1 => by
    show (Jvm.Free.Multi.outerC c N h0 i).setSlot i (.ref (h0 + 1 + i)) = _
    rw [vr_outer c N h0 i, arrV_store]
    refine congrArg (arrV c N) (funext fun j => ?_)
    by_cases e : j = i
    · subst e
      simp [updV, va_rf]
    · by_cases h : j < i
      · simp [updV, e, h, Nat.lt_succ_of_lt h]
      · simp [updV, e, h, show ¬ j < i + 1 by omega]
def mnE (E : LA → va_E) (la : LA) (rs : List LA) (o i : va_E) : LA → va_E := fun l => if l = la then o else if l ∈ rs then i else E l
section CT3
variable {p : Program} {l : Launch} {e : Env} {R : Room} {s : State} {m : MethodId} {args : Array Value} {below : List Frame} {meth : Method} {c : Code} {A : Nat → Prop} {nL : Nat} {Q : State → Prop} {cs sl : Nat} {cc : ByteArray} {own : String} {G : Gt} {B lv t : Nat} {E : LA → va_E} {pc : Nat} {L : List (Nat × Value)} {st : List Value}
theorem tm_aI : Cond.arrayClass .int ∈ tg := tg_of (by decide +kernel) (by decide +kernel)
theorem c_mna (C : Cz p l e R s m args below meth c A nL cc own G B lv) {idx : Nat} (N K : Nat) {n k : Int32} (la : LA) (rw1 : Nat → LA) (hk0 : (lyG G)[t]? = some la) (hrw : ∀ i, i < N → (lyG G)[t + 1 + i]? = some (rw1 i)) (hne : ∀ i, i < N → rw1 i ≠ la) (hinj : ∀ i j, i < N → j < N → rw1 i = rw1 j → i = j) (hw : Cond.classLink own idx ("[" ++ (FieldType.array .int).toString) ∈ tg) (hn : ¬ n < 0) (hk : ¬ k < 0) (hN : n.toNatClampNeg = N) (hK2 : k.toNatClampNeg = K) (hb1 : N * 4 ≤ 536870912) (hb2 : K * componentBytes .int ≤ 536870912) (hb3 : K ≤ 536870912) (hcs : cs + (1 + N) ≤ R.cells) (hsl : sl + (N + N * K) ≤ R.slots) (hd : decode cc pc = .ok (.multianewarray idx 2, 4))
    (kk : J (p, l, e, R, s, m, args, below, meth, c, A, nL, Q, cs + 1 + N, sl + N + N * K) (RepC G B (t + 1 + N) (mnE E la ((List.range N).map rw1) (.inl (G.2.2.1 7, N, .inr (.inr (.inr (.inr (fun j => some (ad G (rw1 j)))))))) (.inl (G.2.2.1 0, K, .inl (fun _ => 0))))) (pc + 4) L (.ref (ad G la) :: st)) : J (p, l, e, R, s, m, args, below, meth, c, A, nL, Q, cs, sl) (RepC G B t E) pc L (.int k :: .int n :: st) := by
  obtain ⟨hx, hb, hml, hown, hts, hlk, hK, hB, hR1, hR2, hr, hSx, hao, hnm, hG⟩ := C
  intro H locs ls h1 h2 h3
  subst hN
  subst hK2
  intro T hT Xs
  have ea := hB.1 t la hk0
  obtain ⟨vm₁, cA, comp, -, fA, fC, hO, -, X', step⟩ := Xs.multianewarray2F hx hown (hts _ hw) (va_aoU hao.2.2.2) (hts _ tm_aI) (g := F0 m pc ls (.int k :: .int n :: st)) rfl (by rw [hb]; exact hd) rfl hn hk hb1 hb2 hb3 rfl rfl hcs hsl
  have e7 : cA = G.2.2.1 7 := arr_cy (ty := .array .int) hK rfl fA
  have e0 : comp = G.2.2.1 0 := arr_cy (ty := .int) hK rfl fC
  subst e7; subst e0
  generalize hF : Jvm.Free.Multi.fill (T.setVm vm₁) (G.2.2.1 7) (G.2.2.1 0) n.toNatClampNeg k.toNatClampNeg (defaultValue .int) n.toNatClampNeg = F at X' step
  have hTh : (T.setVm vm₁).heap = H := hT
  obtain ⟨f1, f2, -, -⟩ := Jvm.Free.Multi.fill_facts (T.setVm vm₁) (G.2.2.1 7) (G.2.2.1 0) n.toNatClampNeg k.toNatClampNeg (defaultValue .int) n.toNatClampNeg
  rw [hF, hTh] at f1 f2
  have hold : ∀ x : Nat, x < H.size → F.heap[x]? = H[x]? := fun x hx => by
    have := Jvm.Free.Multi.fill_old (T.setVm vm₁) (G.2.2.1 7) (G.2.2.1 0) n.toNatClampNeg k.toNatClampNeg (defaultValue .int) (a := x) (by rw [hTh]; exact hx) n.toNatClampNeg
    rw [hF, hTh] at this
    exact this
  have hrow : ∀ j : Nat, j < n.toNatClampNeg → F.heap[H.size + 1 + j]? = some (vp_cell (G.2.2.1 0) (k.toNatClampNeg, .inl (fun _ => 0))) := fun j hj => by
    have := Jvm.Free.Multi.fill_inner (T.setVm vm₁) (G.2.2.1 7) (G.2.2.1 0) n.toNatClampNeg k.toNatClampNeg (defaultValue .int) n.toNatClampNeg j hj
    rw [hF, hTh] at this
    rw [this, vp_cell_i, ← arrV_new]
    rfl
  have hout : Jvm.Free.Multi.outerC (G.2.2.1 7) n.toNatClampNeg H.size n.toNatClampNeg = vp_cell (G.2.2.1 7) (n.toNatClampNeg, .inr (.inr (.inr (.inr (fun j => some (ad G (rw1 j))))))) := by
    rw [vp_cell_q, vr_outer]
    unfold arrV
    congr 2
    funext j
    have e5 := hB.1 _ _ (hrw j.1 j.2)
    show va_rf (if j.1 < n.toNatClampNeg then some (H.size + 1 + j.1) else none) = va_rf (some (ad G (rw1 j.1)))
    rw [if_pos j.2, e5, h1.1, show B + t + 1 + j.1 = B + (t + 1 + j.1) by omega]
  rw [hout] at f2
  have hsz : F.heap.size = H.size + 1 + n.toNatClampNeg := by omega
  obtain ⟨t2, a1, b1⟩ := kk F.heap locs ls ⟨by rw [hsz, h1.1]; omega, fun j lb hj hlb => by
    by_cases hb0 : lb = la
    · subst hb0
      simp only [mnE, if_true]
      rw [ea, ← h1.1]
      exact f2
    · simp only [mnE, if_neg hb0]
      have ejb := hB.1 j lb hlb
      by_cases hbr : lb ∈ (List.range n.toNatClampNeg).map rw1
      · rw [if_pos hbr]
        obtain ⟨i, hi, rfl⟩ := List.mem_map.mp hbr
        have hi := List.mem_range.mp hi
        have e3 := hB.1 _ _ (hrw i hi)
        rw [e3]
        have := hrow i hi
        rw [h1.1] at this
        rw [show B + (t + 1 + i) = B + t + 1 + i by omega]
        exact this
      · rw [if_neg hbr]
        have hjt : j < t := by
          rcases Nat.lt_or_ge j t with q | q
          · exact q
          · rcases Nat.lt_or_ge t j with q2 | q2
            · exfalso
              apply hbr
              have hi : j - (t + 1) < n.toNatClampNeg := by omega
              have h4 := hrw (j - (t + 1)) hi
              rw [show t + 1 + (j - (t + 1)) = j by omega] at h4
              exact List.mem_map.mpr ⟨j - (t + 1), List.mem_range.mpr hi, (Option.some.inj (hlb.symm.trans h4)).symm⟩
            · have : j = t := by omega
              subst this
              exact absurd (Option.some.inj (hlb.symm.trans hk0)) hb0
        exact (h1.2 j lb hjt hlb).kept (hold _ (by show ad G lb < H.size; rw [ejb, h1.1]; omega))⟩ (vaS_grow h2 (by omega) hold) h3 F rfl X'
  refine ⟨t2, step t2 ?_, b1⟩
  have e9 : T.heap.size = ad G la := by rw [hT, h1.1, ea]
  rw [e9]
  exact a1
end CT3
