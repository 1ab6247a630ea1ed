/-! ===== the system's cells by structured names: (class, number, field + 1, row + 1) ===== -/
abbrev LA : Type := Nat × Nat × Nat × Nat
/-- the ints (fields and rows), the longs, the references that change -/
abbrev Dt : Type := (LA → Nat → Int32) × (LA → Nat → Int64) × (LA → Nat → Option Nat)
/-- class ids, slots, array class ids, addresses, the list of all cells, the String constants' addresses and their rows' -/
abbrev Gt : Type := (Nat → ClassId) × (Nat → Nat → Nat) × (Nat → ClassId) × (LA → Nat) × List LA × (Nat → Nat) × (Nat → Nat) × Option Nat
def ad (G : Gt) : LA → Nat := G.2.2.2.1
def lyG (G : Gt) : List LA := G.2.2.2.2.1
/-- the address of a String constant -/
def sK (G : Gt) : Nat → Nat := G.2.2.2.2.2.1
def sV (G : Gt) : Nat → Nat := G.2.2.2.2.2.2.1
/-- what the JDK's own formatter of index faults is -/
def fmG (G : Gt) : Option Nat := G.2.2.2.2.2.2.2
def dG (G : Gt) : va_G := (G.1, G.2.1)
def cR : Nat → String
  | 0 => RX0 | 1 => RX1 | 2 => RX2 | 3 => RX3 | 4 => RX4 | 5 => RX5 | 6 => RX6 | 7 => RX7 | 8 => RX8 | 9 => RX9 | 10 => RX10 | _ => RX11
def cT : Nat → u_T
  | 0 => TX0 | 1 => TX1 | 2 => TX2 | 3 => TX3 | 4 => TX4 | 5 => TX5 | 6 => TX6 | 7 => TX7 | 8 => TX8 | 9 => TX9 | 10 => TX10 | _ => TX11
def cN : Nat → Nat
  | 0 => 2 | 1 => 12 | 2 => 9 | 3 => 8 | 4 => 2 | 5 => 9 | 6 => 8 | 7 => 1 | 8 => 9 | 9 => 9 | 10 => 11 | _ => 58
def cY : Nat → Nat → FieldType
  | 0 => tyX0 | 1 => tyX1 | 2 => tyX2 | 3 => tyX3 | 4 => tyX4 | 5 => tyX5 | 6 => tyX6 | 7 => tyX7 | 8 => tyX8 | 9 => tyX9 | 10 => tyX10 | _ => tyX11
def vwCl : List vw_C := [(RX0, TX0, 2), (RX1, TX1, 12), (RX2, TX2, 9), (RX3, TX3, 8), (RX4, TX4, 2), (RX5, TX5, 9), (RX6, TX6, 8), (RX7, TX7, 1), (RX8, TX8, 9), (RX9, TX9, 9), (RX10, TX10, 11), (RX11, TX11, 58)]
/-- how many objects of each class -/
def nO : Nat → Nat
  | 0 => 5 | 1 => 1 | 2 => 1 | 3 => 6 | 4 => 1 | 5 => 6 | 6 => 111 | 7 => 1 | 8 => 2 | 9 => 5 | 10 => 1 | 11 => 1 | _ => 0
/-- a class's fields: 0 an int, 1 a reference that stays, 2 one that changes -/
def fk : Nat → List Nat
  | 0 => [1, 0]
  | 1 => [1, 1, 1, 1, 1, 1, 1, 1, 1, 1, 0, 0]
  | 2 => [1, 0, 1, 1, 1, 0, 0, 0, 0]
  | 3 => [1, 1, 0, 1, 1, 1, 0, 1]
  | 4 => [1, 0]
  | 5 => [0, 0, 0, 0, 1, 1, 1, 1, 1]
  | 6 => [1, 1, 1, 1, 1, 0, 0, 0]
  | 7 => [1]
  | 8 => [2, 2, 0, 0, 0, 0, 0, 0, 1]
  | 9 => [1, 1, 1, 1, 1, 1, 0, 0, 0]
  | 10 => [1, 1, 1, 1, 1, 0, 1, 1, 1, 1, 1]
  | 11 => [0, 1, 1, 1, 1, 1, 1, 1, 1, 1, 1, 1, 1, 1, 1, 1, 1, 1, 1, 0, 0, 0, 0, 0, 0, 0, 0, 0, 0, 1, 1, 1, 1, 1, 1, 1, 1, 1, 1, 0, 0, 0, 0, 0, 1, 1, 0, 0, 0, 1, 1, 1, 1, 1, 1, 1, 0, 0]
  | _ => []
/-- the row that a field holds: its kind (0 int, 1 long, 2 boolean, 3 byte, 4 states that change, 5 rules, 6 worlds, 7 rows of ints, 8 states that stay), its length -/
def arT : Nat → Nat → Option (Nat × Nat)
  | 0, 0 => some (4, 20)
  | 1, 4 => some (8, 5) | 1, 5 => some (0, 4) | 1, 6 => some (0, 4) | 1, 7 => some (2, 7) | 1, 8 => some (7, 7) | 1, 9 => some (0, 32)
  | 2, 0 => some (0, 400) | 2, 2 => some (0, 401) | 2, 3 => some (0, 401) | 2, 4 => some (0, 401)
  | 3, 0 => some (0, 400) | 3, 1 => some (0, 400) | 3, 3 => some (0, 12) | 3, 4 => some (0, 12) | 3, 5 => some (0, 12) | 3, 7 => some (1, 64)
  | 5, 4 => some (0, 5) | 5, 5 => some (0, 5) | 5, 6 => some (0, 5) | 5, 7 => some (7, 5) | 5, 8 => some (7, 5)
  | 6, 0 => some (0, 5) | 6, 1 => some (0, 5) | 6, 2 => some (0, 5) | 6, 3 => some (0, 5) | 6, 4 => some (0, 5)
  | 8, 8 => some (1, 12)
  | 9, 3 => some (0, 10) | 9, 4 => some (0, 10) | 9, 5 => some (0, 10)
  | 10, 4 => some (5, 6) | 10, 7 => some (6, 4) | 10, 8 => some (2, 4)
  | 11, 1 => some (0, 9)
  | 11, 2 => some (0, 5) | 11, 3 => some (0, 5) | 11, 4 => some (0, 5) | 11, 5 => some (0, 5) | 11, 6 => some (0, 5) | 11, 7 => some (0, 305)
  | 11, 8 => some (0, 10) | 11, 9 => some (0, 10) | 11, 10 => some (0, 10)
  | 11, 11 => some (0, 5) | 11, 12 => some (0, 5) | 11, 13 => some (0, 5)
  | 11, 14 => some (0, 3) | 11, 15 => some (0, 5) | 11, 16 => some (0, 5) | 11, 17 => some (0, 5) | 11, 18 => some (0, 305)
  | 11, 29 => some (3, 400) | 11, 30 => some (0, 1800) | 11, 31 => some (0, 1800) | 11, 32 => some (0, 6)
  | 11, 33 => some (0, 72) | 11, 34 => some (0, 72) | 11, 35 => some (0, 72) | 11, 36 => some (0, 402)
  | 11, 37 => some (1, 12) | 11, 38 => some (1, 300)
  | 11, 44 => some (0, 560) | 11, 45 => some (0, 1)
  | 11, 49 => some (0, 4) | 11, 50 => some (0, 4) | 11, 51 => some (0, 16) | 11, 52 => some (0, 305) | 11, 53 => some (0, 35)
  | 11, 54 => some (0, 5000) | 11, 55 => some (2, 4)
  | _, _ => none
/-- the length of the rows of a field of rows -/
def rwL : Nat → Nat
  | 1 => 5 | _ => 61
def sh : LA → (Nat × List Nat) ⊕ (Nat × Nat)
  | (ci, _, 0, _) => .inl (ci, fk ci)
  | (ci, _, q + 1, 0) => .inr ((arT ci q).getD (99, 0))
  | (ci, _, _ + 1, _ + 1) => .inr (0, rwL ci)
def sr : LA → Nat → LA
  | (1, _, 0, _), k => match k with
    | 0 => (9, 0, 0, 0) | 1 => (10, 0, 5, 0) | 2 => (8, 1, 0, 0) | 3 => (6, 105, 0, 0) | k => (1, 0, k + 1, 0)
  | (4, _, 0, _), _ => (2, 0, 0, 0)
  | (7, _, 0, _), _ => (2, 0, 0, 0)
  | (9, w, 0, _), k => match k with
    | 0 => (5, w, 0, 0) | 1 => (6, 21 * w, 0, 0) | 2 => (0, w, 0, 0) | k => (9, w, k + 1, 0)
  | (10, _, 0, _), k => match k with
    | 0 => (2, 0, 0, 0) | 1 => (7, 0, 0, 0) | 2 => (4, 0, 0, 0) | 3 => (5, 5, 0, 0) | 6 => (9, 0, 0, 0) | 9 => (8, 0, 0, 0) | 10 => (1, 0, 0, 0) | k => (10, 0, k + 1, 0)
  | (10, _, 5, _), k => (3, k, 0, 0)
  | (10, _, 8, _), k => (9, k + 1, 0, 0)
  | (1, _, 5, _), k => (6, 106 + k, 0, 0)
  | (ci, n, 0, _), k => (ci, n, k + 1, 0)
  | (ci, n, q, _), k => (ci, n, q, k + 1)
/-- of which class are the references that change -/
def dk : LA → Nat → Nat
  | (0, _, _, _), _ => 6
  | _, 0 => 5
  | _, _ => 3
/-- the cells that there are -/
def V : LA → Bool
  | (ci, n, 0, j) => decide (n < nO ci) && decide (j = 0)
  | (ci, n, q + 1, 0) => decide (n < nO ci) && (arT ci q).isSome
  | (ci, n, q + 1, j + 1) => decide (n < nO ci) && (match arT ci q with | some (7, len) => decide (j < len) | _ => false)
def fv (G : Gt) (D : Dt) (la : LA) (kd k : Nat) : Value := match kd with
  | 0 => .int (D.1 la k)
  | 1 => .ref (ad G (sr la k))
  | _ => va_rf ((D.2.2 la k).map (fun n => ad G (dk la k, n, 0, 0)))
def arC (G : Gt) (D : Dt) (la : LA) (tc : Nat) : (Nat → Int32) ⊕ (Nat → Int64) ⊕ (Nat → UInt32) ⊕ (Nat → UInt64) ⊕ (Nat → Option Nat) := match tc with
  | 1 => .inr (.inl (D.2.1 la))
  | 4 => .inr (.inr (.inr (.inr (fun j => (D.2.2 la j).map (fun n => ad G (dk la j, n, 0, 0))))))
  | 5 => .inr (.inr (.inr (.inr (fun j => some (ad G (sr la j))))))
  | 6 => .inr (.inr (.inr (.inr (fun j => some (ad G (sr la j))))))
  | 7 => .inr (.inr (.inr (.inr (fun j => some (ad G (sr la j))))))
  | 8 => .inr (.inr (.inr (.inr (fun j => some (ad G (sr la j))))))
  | _ => .inl (D.1 la)
def fvs (G : Gt) (D : Dt) (la : LA) (ks : List Nat) : List Value := (List.range ks.length).map (fun k => fv G D la (ks.getD k 0) k)
def cellOf (G : Gt) (D : Dt) (la : LA) : va_E := match sh la with
  | .inl (ci, ks) => .inr (ci, fvs G D la ks)
  | .inr (tc, n) => .inl (G.2.2.1 tc, n, arC G D la tc)
def wsG (G : Gt) (D : Dt) : va_W := (lyG G).map (fun la => (ad G la, cellOf G D la))
def Rep (G : Gt) (D : Dt) (H : Heap) : Prop := va_P (dG G) vwCl (wsG G D) H
def Gok (G : Gt) (A : Nat → Prop) : Prop := (∀ la, V la = true → la ∈ lyG G) ∧ (∀ la ∈ lyG G, ∀ lb ∈ lyG G, ad G la = ad G lb → la = lb) ∧ (lyG G).Nodup ∧ (∀ la ∈ lyG G, A (ad G la))
def tysG (G : Gt) : List (ClassId × FieldType) := [(G.2.2.1 0, .int), (G.2.2.1 1, .long), (G.2.2.1 2, .boolean), (G.2.2.1 3, .byte), (G.2.2.1 4, .object "SunTable$State"), (G.2.2.1 5, .object "SunTable$Rule"), (G.2.2.1 6, .object "SunTable$World"), (G.2.2.1 7, .array .int), (G.2.2.1 8, .object "SunTable$State")]
/-! ===== words ===== -/
def tg : List Cond := lw_tbl.filter goodWord
def isNest : Cond → Bool
  | .fieldLinkNest .. => true
  | .methodLinkNest .. => true
  | _ => false
def nw : List Cond := lw_tbl.filter isNest
theorem tg_good : ∀ w ∈ tg, (w.onTables && w.keeps) = true ∨ ∃ ty, w = .arrayClass ty := fun w h => good_of_word (List.mem_filter.mp h).2
theorem tg_of {w : Cond} (h : w ∈ lw_tbl) (g : goodWord w = true) : w ∈ tg := List.mem_filter.mpr ⟨h, g⟩
theorem nw_of {w : Cond} (h : w ∈ lw_tbl) (g : isNest w = true) : w ∈ nw := List.mem_filter.mpr ⟨h, g⟩
/-- what holds of the tables at every state of the run -/
def Kx (G : Gt) (U : State) : Prop := va_K (dG G) vwCl (tysG G) U ∧ ∀ w ∈ nw, va_Nw w U
theorem nw_tab {w : Cond} (h : w ∈ nw) : w.onTables = true := by
  have h2 := (List.mem_filter.mp h).2
  cases w <;> first | rfl | (simp [isNest] at h2)
theorem Kx.same {G : Gt} {u U : State} (h : u.vm = U.vm) (hK : Kx G u) : Kx G U := ⟨va_K.moved (by rw [h]; exact Vm.Alike.refl _) hK.1, fun w hw => va_Nw.same (nw_tab hw) h (hK.2 w hw)⟩
theorem Kx.warm {G : Gt} {s U : State} (hW : s.WarmedH U.vm) (hK : Kx G s) : Kx G U := by
  refine ⟨va_K.moved hW.alike hK.1, fun w hw => ?_⟩
  have h2 := (List.mem_filter.mp hw).2
  have h3 := hK.2 w hw
  cases w <;> first | exact va_Nw.warmF hW h3 | exact va_Nw.warmM hW h3 | (simp [isNest] at h2)
/-! ===== the String constants ===== -/
def sOw : List (String × Nat × String) := [("SunTable$Reader", 73, "land other men sun hay barn theirmen theirsun theirhay rate soon week table buy if not and or"), ("SunTable$Reader", 66, ";[]+-*/%<=>"), ("SunTableModel", 263, "table"), ("SunTableModel", 145, "land"), ("SunTableModel", 150, "sun"), ("SunTableModel", 301, "buy"), ("SunTableModel", 147, "other"), ("SunTableModel", 149, "men"), ("SunTableModel", 151, "hay"), ("SunTableModel", 152, "barn"), ("SunTableModel", 153, "theirmen"), ("SunTableModel", 155, "theirsun"), ("SunTableModel", 157, "theirhay"), ("SunTableModel", 159, "rate"), ("SunTableModel", 161, "soon"), ("SunTableModel", 163, "week"), ("SunTableModel", 303, "if"), ("SunTableModel", 245, "not"), ("SunTableModel", 259, "and"), ("SunTableModel", 261, "or")]
def lenS : List Nat := [93, 11, 5, 4, 3, 3, 5, 3, 3, 4, 8, 8, 8, 4, 4, 4, 2, 3, 3, 2]
def bytS : List (List Int32) := [[108, 97, 110, 100, 32, 111, 116, 104, 101, 114, 32, 109, 101, 110, 32, 115, 117, 110, 32, 104, 97, 121, 32, 98, 97, 114, 110, 32, 116, 104, 101, 105, 114, 109, 101, 110, 32, 116, 104, 101, 105, 114, 115, 117, 110, 32, 116, 104, 101, 105, 114, 104, 97, 121, 32, 114, 97, 116, 101, 32, 115, 111, 111, 110, 32, 119, 101, 101, 107, 32, 116, 97, 98, 108, 101, 32, 98, 117, 121, 32, 105, 102, 32, 110, 111, 116, 32, 97, 110, 100, 32, 111, 114], [59, 91, 93, 43, 45, 42, 47, 37, 60, 61, 62], [116, 97, 98, 108, 101], [108, 97, 110, 100], [115, 117, 110], [98, 117, 121], [111, 116, 104, 101, 114], [109, 101, 110], [104, 97, 121], [98, 97, 114, 110], [116, 104, 101, 105, 114, 109, 101, 110], [116, 104, 101, 105, 114, 115, 117, 110], [116, 104, 101, 105, 114, 104, 97, 121], [114, 97, 116, 101], [115, 111, 111, 110], [119, 101, 101, 107], [105, 102], [110, 111, 116], [97, 110, 100], [111, 114]]
def Sx (G : Gt) (A : Nat → Prop) (U : State) (H : Heap) : Prop := vk_S 20 lenS bytS (sK G) (sV G) A U H ∧ (∀ (i : Nat) (q : String × Nat × String), sOw[i]? = some q → vk_R q.1 q.2.1 q.2.2 (sK G i) U) ∧ va_Z "java/lang/String" "COMPACT_STRINGS" "Z" (.int 1) A U H ∧ va_Z "jdk/internal/util/Preconditions" "SIOOBE_FORMATTER" "Ljava/util/function/BiFunction;" (va_rf (fmG G)) A U H
theorem Sx.same {G : Gt} {A : Nat → Prop} {u U : State} {H : Heap} (h : u.vm = U.vm) (hS : Sx G A u H) : Sx G A U H := ⟨hS.1.moved (by rw [h]; exact Vm.Alike.refl _), fun i q hq => vk_R.same h.symm (hS.2.1 i q hq), hS.2.2.1.moved (by rw [h]; exact Vm.Alike.refl _), hS.2.2.2.moved (by rw [h]; exact Vm.Alike.refl _)⟩
theorem Sx.warm {G : Gt} {A : Nat → Prop} {s U : State} {H : Heap} {locs : List Loc} (hW : s.WarmedH U.vm) (hS : va_S A s.heap H locs) (h : Sx G A s s.heap) : Sx G A U H := ⟨(h.1.moved hW.alike).kept hS.2.1, fun i q hq => vk_R.warm hW (h.2.1 i q hq), (h.2.2.1.moved hW.alike).kept hS.2.1, (h.2.2.2.moved hW.alike).kept hS.2.1⟩
def rmL (n : Nat) : Room := { frames := n, cells := 0, slots := 0, locals := 100 * n }
def wsO (y : MethodName) (cc : ByteArray) (nL : Nat) (ret : Option FieldType) : List Cond := Cond.code y cc nL ret :: tg
/-- a method's contract: with these arguments, from D it answers r and leaves D' -/
def QcD (G : Gt) (A : Nat → Prop) (r : Option Value) (D' : Dt) : Array Value → State → Outcome → State → Prop := fun _ st oc t => oc = .returned r ∧ Rep G D' t.heap ∧ Kx G t ∧ Sx G A t t.heap ∧ va_F A st t
def MD (l : Launch) (G : Gt) (A : Nat → Prop) (lv : Nat) (y : MethodName) (cc : ByteArray) (nL : Nat) (ret : Option FieldType) (av : List Value) (D : Dt) (r : Option Value) (D' : Dt) : Prop :=
  Met l y (wsO y cc nL ret) (rmL lv) (va_Pc av (fun U => Rep G D U.heap ∧ Kx G U ∧ Sx G A U U.heap)) (QcD G A r D') 0 0 A
/-! ===== the walk within a method ===== -/
abbrev Ctx : Type := Program × Launch × Env × Room × State × MethodId × Array Value × List Frame × Method × Code × (Nat → Prop) × Nat × (State → Prop) × Nat × Nat
def J (X : Ctx) (Φ : Heap → Prop) (pc : Nat) (L : List (Nat × Value)) (st : List Value) : Prop := match X with
  | (p, l, e, R, s, m, args, below, meth, c, A, nL, Q, cs, sl) => ∀ (H : Heap) (locs : List Loc) (ls : Array Slot), Φ H → va_S A s.heap H locs → lv_has ls nL L → W p l e R s m args below meth c H locs cs sl Q (F0 m pc ls st)
def Cx (X : Ctx) (cc : ByteArray) (own : String) (G : Gt) (l0 : Launch) (A0 : Nat → Prop) (lv n0 : Nat) (ret : Option FieldType) (r : Option Value) (D' : Dt) : Prop := match X with
  | (p, l, e, R, s, m, args, below, meth, c, A, nL, Q, cs, sl) => p.tables.exec = Jvm.exec ∧ c.code = cc ∧ c.maxLocals = nL ∧ s.vm.findClass own = some m.cls ∧ (∀ w ∈ tg, w.before args s = true) ∧ meth.locks = false ∧ Kx G s ∧ Gok G A ∧ (lv ≤ R.frames ∧ 100 * lv ≤ R.locals ∧ cs ≤ R.cells ∧ sl ≤ R.slots) ∧ meth.sig.returnType = ret ∧ (ret.isSome = r.isSome → Q = MQ below (QcD G A r D') args s cs sl A) ∧ l = l0 ∧ A = A0 ∧ nL = n0 ∧ Sx G A s s.heap
/-! ===== field links ===== -/
def FL (own : String) (idx ci k : Nat) : Prop := ci < 12 ∧ (Cond.fieldLink own idx (cT ci k).1 (cT ci k).2.1 (cT ci k).2.2.1 ∈ tg ∨ ∃ h, Cond.fieldLinkNest own idx (cT ci k).1 (cT ci k).2.1 (cT ci k).2.2.1 h ∈ nw)
/-- the words of a call of an instance method of class ci -/
def CV (own : String) (idx : Nat) (y : MethodName) (ci : Nat) (bytes : ByteArray) (maxL : Nat) (ret : Option FieldType) (n : Nat) : Prop :=
  (Cond.methodLink own idx y ∈ tg ∨ ∃ h, Cond.methodLinkNest own idx y h ∈ nw) ∧ Cond.instanceMethod y ∈ tg ∧ Cond.selects (cR ci) y y ∈ tg ∧ Cond.initialized (cR ci) ∈ tg ∧ Cond.code y bytes maxL ret ∈ tg ∧ y.cls = cR ci ∧ (y.cls ≠ "java/lang/invoke/MethodHandle" ∧ y.cls ≠ "java/lang/invoke/VarHandle" ∧ (parseMethodDescriptor y.desc).map (fun d => d.parameters.length) = some n) ∧ ci < 12 ∧ maxL ≤ 81
/-- of a static one -/
def CS (own : String) (idx : Nat) (y : MethodName) (bytes : ByteArray) (maxL : Nat) (ret : Option FieldType) (n : Nat) : Prop :=
  (Cond.methodLink own idx y ∈ tg ∨ ∃ h, Cond.methodLinkNest own idx y h ∈ nw) ∧ Cond.static y ∈ tg ∧ Cond.initialized y.cls ∈ tg ∧ Cond.code y bytes maxL ret ∈ tg ∧ (y.cls ≠ "java/lang/invoke/MethodHandle" ∧ y.cls ≠ "java/lang/invoke/VarHandle" ∧ (parseMethodDescriptor y.desc).map (fun d => d.parameters.length) = some n) ∧ maxL ≤ 81
