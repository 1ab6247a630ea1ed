theorem tm_I : Cond.initialized "java/lang/Math" ∈ tg := tg_of (by decide +kernel) (by decide +kernel)
theorem tm_minS : Cond.static Lib.Math.min.name ∈ tg := tg_of (by decide +kernel) (by decide +kernel)
theorem tm_maxS : Cond.static Lib.Math.max.name ∈ tg := tg_of (by decide +kernel) (by decide +kernel)
theorem tm_minC : Cond.code Lib.Math.min.name Lib.Math.min.code 2 (some .int) ∈ tg := tg_of (by decide +kernel) (by decide +kernel)
theorem tm_maxC : Cond.code Lib.Math.max.name Lib.Math.max.code 2 (some .int) ∈ tg := tg_of (by decide +kernel) (by decide +kernel)
theorem md_start {l : Launch} {G : Gt} {A : Nat → Prop} {lv : Nat} {y : MethodName} {cc : ByteArray} {nL : Nat} {ret : Option FieldType} {av : List Value} {D : Dt} {r : Option Value} {D' : Dt} {L : List (Nat × Value)} (own : String) (hG : Gok G A) (hy : plainName y.cls = true) (ho : y.cls = own) (hsl : (lg_sl av).length ≤ nL) (hL : lv_args 0 av = L)
    (h : ∀ X : Ctx, Cx X cc own G l A lv nL ret r D' → J X (Rep G D) 0 L []) : MD l G A lv y cc nL ret av D r D' := by
  refine Met.ofW (cc := cc) (maxL := nL) (ret := ret) hy rfl ?_
  intro p e s m args below meth c s₁ B hml hv
  obtain ⟨rfl, hR, hK, hSx⟩ := hv
  have hts := atoms_spec (ws := wsO y cc nL ret) B.pre
  have hown : s.vm.findClass y.cls = some m.cls := findClass_of_methodNamed B.named
  subst ho; subst hL
  have k := h (p, l, e, (headSpec (wsO y cc nL ret) (rmL lv)).room, s, m, av.toArray, below, meth, c, A, nL, MQ below (QcD G A r D') av.toArray s 0 0 A, 0, 0) ⟨B.exec, B.bytes, hml, hown, fun w hw => hts w (List.mem_cons_of_mem _ hw), B.notSynchronized, hK, hG, ⟨Nat.le_refl _, Nat.le_refl _, Nat.le_refl _, Nat.le_refl _⟩, B.returns, fun _ => rfl, rfl, rfl, rfl, hSx⟩
  rw [lg_entry_eq]
  exact k s.heap [] _ hR va_S.rf (lv_entry av hsl)
theorem j_iconst {X : Ctx} {cc : ByteArray} {own : String} {G : Gt} {l0 : Launch} {A0 : Nat → Prop} {lv n0 : Nat} {rt : Option FieldType} {r : Option Value} {D' : Dt} {Φ : Heap → Prop} {pc : Nat} {L : List (Nat × Value)} {st : List Value} (C : Cx X cc own G l0 A0 lv n0 rt r D') {n : Int} (v : Int32) (hv : Int32.ofInt n = v) (hd : decode cc pc = .ok (.iconst n, 1)) (k : J X Φ (pc + 1) L (.int v :: st)) : J X Φ pc L (st) := by
  obtain ⟨p, l, e, R, s, m, args, below, meth, c, A, nL, Q, cs, sl⟩ := X
  obtain ⟨hx, hb, hml, hown, hts, hlk, hK, hG, hR, hr, hQ, hl0, hA0, hn0, hSx⟩ := C
  intro H locs ls h1 h2 h3
  exact lv_iconst hx hb hd hv (k H locs ls h1 h2 h3)
theorem j_bipush {X : Ctx} {cc : ByteArray} {own : String} {G : Gt} {l0 : Launch} {A0 : Nat → Prop} {lv n0 : Nat} {rt : Option FieldType} {r : Option Value} {D' : Dt} {Φ : Heap → Prop} {pc : Nat} {L : List (Nat × Value)} {st : List Value} (C : Cx X cc own G l0 A0 lv n0 rt r D') {n : Int} (v : Int32) (hv : (Int8.ofInt n).toInt32 = v) (hd : decode cc pc = .ok (.bipush n, 2)) (k : J X Φ (pc + 2) L (.int v :: st)) : J X Φ pc L (st) := by
  obtain ⟨p, l, e, R, s, m, args, below, meth, c, A, nL, Q, cs, sl⟩ := X
  obtain ⟨hx, hb, hml, hown, hts, hlk, hK, hG, hR, hr, hQ, hl0, hA0, hn0, hSx⟩ := C
  intro H locs ls h1 h2 h3
  exact lv_bipush hx hb hd hv (k H locs ls h1 h2 h3)
theorem j_sipush {X : Ctx} {cc : ByteArray} {own : String} {G : Gt} {l0 : Launch} {A0 : Nat → Prop} {lv n0 : Nat} {rt : Option FieldType} {r : Option Value} {D' : Dt} {Φ : Heap → Prop} {pc : Nat} {L : List (Nat × Value)} {st : List Value} (C : Cx X cc own G l0 A0 lv n0 rt r D') {n : Int} (v : Int32) (hv : (Int16.ofInt n).toInt32 = v) (hd : decode cc pc = .ok (.sipush n, 3)) (k : J X Φ (pc + 3) L (.int v :: st)) : J X Φ pc L (st) := by
  obtain ⟨p, l, e, R, s, m, args, below, meth, c, A, nL, Q, cs, sl⟩ := X
  obtain ⟨hx, hb, hml, hown, hts, hlk, hK, hG, hR, hr, hQ, hl0, hA0, hn0, hSx⟩ := C
  intro H locs ls h1 h2 h3
  exact lv_sipush hx hb hd hv (k H locs ls h1 h2 h3)
theorem j_lconst {X : Ctx} {cc : ByteArray} {own : String} {G : Gt} {l0 : Launch} {A0 : Nat → Prop} {lv n0 : Nat} {rt : Option FieldType} {r : Option Value} {D' : Dt} {Φ : Heap → Prop} {pc : Nat} {L : List (Nat × Value)} {st : List Value} (C : Cx X cc own G l0 A0 lv n0 rt r D') {n : Fin 2} (v : Int64) (hv : Int64.ofNat (n : Nat) = v) (hd : decode cc pc = .ok (.lconst n, 1)) (k : J X Φ (pc + 1) L (.long v :: st)) : J X Φ pc L (st) := by
  obtain ⟨p, l, e, R, s, m, args, below, meth, c, A, nL, Q, cs, sl⟩ := X
  obtain ⟨hx, hb, hml, hown, hts, hlk, hK, hG, hR, hr, hQ, hl0, hA0, hn0, hSx⟩ := C
  intro H locs ls h1 h2 h3
  exact lv_lconst hx hb hd hv (k H locs ls h1 h2 h3)
theorem j_null {X : Ctx} {cc : ByteArray} {own : String} {G : Gt} {l0 : Launch} {A0 : Nat → Prop} {lv n0 : Nat} {rt : Option FieldType} {r : Option Value} {D' : Dt} {Φ : Heap → Prop} {pc : Nat} {L : List (Nat × Value)} {st : List Value} (C : Cx X cc own G l0 A0 lv n0 rt r D')  (hd : decode cc pc = .ok (.aconst_null, 1)) (k : J X Φ (pc + 1) L (.null :: st)) : J X Φ pc L (st) := by
  obtain ⟨p, l, e, R, s, m, args, below, meth, c, A, nL, Q, cs, sl⟩ := X
  obtain ⟨hx, hb, hml, hown, hts, hlk, hK, hG, hR, hr, hQ, hl0, hA0, hn0, hSx⟩ := C
  intro H locs ls h1 h2 h3
  exact lv_null hx hb hd (k H locs ls h1 h2 h3)
theorem j_iload_n {X : Ctx} {cc : ByteArray} {own : String} {G : Gt} {l0 : Launch} {A0 : Nat → Prop} {lv n0 : Nat} {rt : Option FieldType} {r : Option Value} {D' : Dt} {Φ : Heap → Prop} {pc : Nat} {L : List (Nat × Value)} {st : List Value} (C : Cx X cc own G l0 A0 lv n0 rt r D') {kk : Fin 4} {i : Nat} {x : Int32} (q : Nat) (hd : decode cc pc = .ok (.iload_n kk, 1)) (hi : (kk : Nat) = i) (hl : L[q]? = some (i, .int x)) (k : J X Φ (pc + 1) L (.int x :: st)) : J X Φ pc L st := by
  obtain ⟨p, l, e, R, s, m, args, below, meth, c, A, nL, Q, cs, sl⟩ := X
  obtain ⟨hx, hb, hml, hown, hts, hlk, hK, hG, hR, hr, hQ, hl0, hA0, hn0, hSx⟩ := C
  intro H locs ls h1 h2 h3
  exact lv_iload_n hx hb hd hi (lv_at h3 q hl) (k H locs ls h1 h2 h3)
theorem j_iload {X : Ctx} {cc : ByteArray} {own : String} {G : Gt} {l0 : Launch} {A0 : Nat → Prop} {lv n0 : Nat} {rt : Option FieldType} {r : Option Value} {D' : Dt} {Φ : Heap → Prop} {pc : Nat} {L : List (Nat × Value)} {st : List Value} (C : Cx X cc own G l0 A0 lv n0 rt r D') {i : Nat} {x : Int32} (q : Nat) (hd : decode cc pc = .ok (.iload i, 2)) (hl : L[q]? = some (i, .int x)) (k : J X Φ (pc + 2) L (.int x :: st)) : J X Φ pc L st := by
  obtain ⟨p, l, e, R, s, m, args, below, meth, c, A, nL, Q, cs, sl⟩ := X
  obtain ⟨hx, hb, hml, hown, hts, hlk, hK, hG, hR, hr, hQ, hl0, hA0, hn0, hSx⟩ := C
  intro H locs ls h1 h2 h3
  exact lv_iload hx hb hd (lv_at h3 q hl) (k H locs ls h1 h2 h3)
theorem j_istore_n {X : Ctx} {cc : ByteArray} {own : String} {G : Gt} {l0 : Launch} {A0 : Nat → Prop} {lv n0 : Nat} {rt : Option FieldType} {r : Option Value} {D' : Dt} {Φ : Heap → Prop} {pc : Nat} {L : List (Nat × Value)} {st : List Value} (C : Cx X cc own G l0 A0 lv n0 rt r D') {kk : Fin 4} {i : Nat} {x y : Int32} (L' : List (Nat × Value)) (hd : decode cc pc = .ok (.istore_n kk, 1)) (hi : (kk : Nat) = i) (hn : i < n0) (hy : y = x) (hl : (i, Value.int y) :: L.filter (fun q => !(q.1 == i) && !(q.1 + 1 == i && q.2.category == 2)) = L') (k : J X Φ (pc + 1) L' st) : J X Φ pc L (.int x :: st) := by
  obtain ⟨p, l, e, R, s, m, args, below, meth, c, A, nL, Q, cs, sl⟩ := X
  obtain ⟨hx, hb, hml, hown, hts, hlk, hK, hG, hR, hr, hQ, hl0, hA0, hn0, hSx⟩ := C
  intro H locs ls h1 h2 h3
  subst hy; subst hn0
  exact lv_istore_n hx hb hd hi h3 hn hl (fun ls' h' => k H locs ls' h1 h2 h')
theorem j_istore {X : Ctx} {cc : ByteArray} {own : String} {G : Gt} {l0 : Launch} {A0 : Nat → Prop} {lv n0 : Nat} {rt : Option FieldType} {r : Option Value} {D' : Dt} {Φ : Heap → Prop} {pc : Nat} {L : List (Nat × Value)} {st : List Value} (C : Cx X cc own G l0 A0 lv n0 rt r D') {i : Nat} {x y : Int32} (L' : List (Nat × Value)) (hd : decode cc pc = .ok (.istore i, 2)) (hn : i < n0) (hy : y = x) (hl : (i, Value.int y) :: L.filter (fun q => !(q.1 == i) && !(q.1 + 1 == i && q.2.category == 2)) = L') (k : J X Φ (pc + 2) L' st) : J X Φ pc L (.int x :: st) := by
  obtain ⟨p, l, e, R, s, m, args, below, meth, c, A, nL, Q, cs, sl⟩ := X
  obtain ⟨hx, hb, hml, hown, hts, hlk, hK, hG, hR, hr, hQ, hl0, hA0, hn0, hSx⟩ := C
  intro H locs ls h1 h2 h3
  subst hy; subst hn0
  exact lv_istore hx hb hd h3 hn hl (fun ls' h' => k H locs ls' h1 h2 h')
theorem j_lload_n {X : Ctx} {cc : ByteArray} {own : String} {G : Gt} {l0 : Launch} {A0 : Nat → Prop} {lv n0 : Nat} {rt : Option FieldType} {r : Option Value} {D' : Dt} {Φ : Heap → Prop} {pc : Nat} {L : List (Nat × Value)} {st : List Value} (C : Cx X cc own G l0 A0 lv n0 rt r D') {kk : Fin 4} {i : Nat} {x : Int64} (q : Nat) (hd : decode cc pc = .ok (.lload_n kk, 1)) (hi : (kk : Nat) = i) (hl : L[q]? = some (i, .long x)) (k : J X Φ (pc + 1) L (.long x :: st)) : J X Φ pc L st := by
  obtain ⟨p, l, e, R, s, m, args, below, meth, c, A, nL, Q, cs, sl⟩ := X
  obtain ⟨hx, hb, hml, hown, hts, hlk, hK, hG, hR, hr, hQ, hl0, hA0, hn0, hSx⟩ := C
  intro H locs ls h1 h2 h3
  exact lv_lload_n hx hb hd hi (lv_at h3 q hl) (k H locs ls h1 h2 h3)
theorem j_lload {X : Ctx} {cc : ByteArray} {own : String} {G : Gt} {l0 : Launch} {A0 : Nat → Prop} {lv n0 : Nat} {rt : Option FieldType} {r : Option Value} {D' : Dt} {Φ : Heap → Prop} {pc : Nat} {L : List (Nat × Value)} {st : List Value} (C : Cx X cc own G l0 A0 lv n0 rt r D') {i : Nat} {x : Int64} (q : Nat) (hd : decode cc pc = .ok (.lload i, 2)) (hl : L[q]? = some (i, .long x)) (k : J X Φ (pc + 2) L (.long x :: st)) : J X Φ pc L st := by
  obtain ⟨p, l, e, R, s, m, args, below, meth, c, A, nL, Q, cs, sl⟩ := X
  obtain ⟨hx, hb, hml, hown, hts, hlk, hK, hG, hR, hr, hQ, hl0, hA0, hn0, hSx⟩ := C
  intro H locs ls h1 h2 h3
  exact lv_lload hx hb hd (lv_at h3 q hl) (k H locs ls h1 h2 h3)
theorem j_lstore_n {X : Ctx} {cc : ByteArray} {own : String} {G : Gt} {l0 : Launch} {A0 : Nat → Prop} {lv n0 : Nat} {rt : Option FieldType} {r : Option Value} {D' : Dt} {Φ : Heap → Prop} {pc : Nat} {L : List (Nat × Value)} {st : List Value} (C : Cx X cc own G l0 A0 lv n0 rt r D') {kk : Fin 4} {i : Nat} {x y : Int64} (L' : List (Nat × Value)) (hd : decode cc pc = .ok (.lstore_n kk, 1)) (hi : (kk : Nat) = i) (hn : i + 1 < n0) (hy : y = x) (hl : (i, Value.long y) :: L.filter (fun q => !(q.1 == i) && (!(q.1 == i + 1) && !(q.1 + 1 == i && q.2.category == 2))) = L') (k : J X Φ (pc + 1) L' st) : J X Φ pc L (.long x :: st) := by
  obtain ⟨p, l, e, R, s, m, args, below, meth, c, A, nL, Q, cs, sl⟩ := X
  obtain ⟨hx, hb, hml, hown, hts, hlk, hK, hG, hR, hr, hQ, hl0, hA0, hn0, hSx⟩ := C
  intro H locs ls h1 h2 h3
  subst hy; subst hn0
  exact lv_lstore_n hx hb hd hi h3 hn hl (fun ls' h' => k H locs ls' h1 h2 h')
theorem j_lstore {X : Ctx} {cc : ByteArray} {own : String} {G : Gt} {l0 : Launch} {A0 : Nat → Prop} {lv n0 : Nat} {rt : Option FieldType} {r : Option Value} {D' : Dt} {Φ : Heap → Prop} {pc : Nat} {L : List (Nat × Value)} {st : List Value} (C : Cx X cc own G l0 A0 lv n0 rt r D') {i : Nat} {x y : Int64} (L' : List (Nat × Value)) (hd : decode cc pc = .ok (.lstore i, 2)) (hn : i + 1 < n0) (hy : y = x) (hl : (i, Value.long y) :: L.filter (fun q => !(q.1 == i) && (!(q.1 == i + 1) && !(q.1 + 1 == i && q.2.category == 2))) = L') (k : J X Φ (pc + 2) L' st) : J X Φ pc L (.long x :: st) := by
  obtain ⟨p, l, e, R, s, m, args, below, meth, c, A, nL, Q, cs, sl⟩ := X
  obtain ⟨hx, hb, hml, hown, hts, hlk, hK, hG, hR, hr, hQ, hl0, hA0, hn0, hSx⟩ := C
  intro H locs ls h1 h2 h3
  subst hy; subst hn0
  exact lv_lstore hx hb hd h3 hn hl (fun ls' h' => k H locs ls' h1 h2 h')
theorem j_aload_n {X : Ctx} {cc : ByteArray} {own : String} {G : Gt} {l0 : Launch} {A0 : Nat → Prop} {lv n0 : Nat} {rt : Option FieldType} {r : Option Value} {D' : Dt} {Φ : Heap → Prop} {pc : Nat} {L : List (Nat × Value)} {st : List Value} (C : Cx X cc own G l0 A0 lv n0 rt r D') {kk : Fin 4} {i : Nat} {x : Nat} (q : Nat) (hd : decode cc pc = .ok (.aload_n kk, 1)) (hi : (kk : Nat) = i) (hl : L[q]? = some (i, .ref x)) (k : J X Φ (pc + 1) L (.ref x :: st)) : J X Φ pc L st := by
  obtain ⟨p, l, e, R, s, m, args, below, meth, c, A, nL, Q, cs, sl⟩ := X
  obtain ⟨hx, hb, hml, hown, hts, hlk, hK, hG, hR, hr, hQ, hl0, hA0, hn0, hSx⟩ := C
  intro H locs ls h1 h2 h3
  exact lv_aload_n hx hb hd hi (lv_at h3 q hl) (k H locs ls h1 h2 h3)
theorem j_aload {X : Ctx} {cc : ByteArray} {own : String} {G : Gt} {l0 : Launch} {A0 : Nat → Prop} {lv n0 : Nat} {rt : Option FieldType} {r : Option Value} {D' : Dt} {Φ : Heap → Prop} {pc : Nat} {L : List (Nat × Value)} {st : List Value} (C : Cx X cc own G l0 A0 lv n0 rt r D') {i : Nat} {x : Nat} (q : Nat) (hd : decode cc pc = .ok (.aload i, 2)) (hl : L[q]? = some (i, .ref x)) (k : J X Φ (pc + 2) L (.ref x :: st)) : J X Φ pc L st := by
  obtain ⟨p, l, e, R, s, m, args, below, meth, c, A, nL, Q, cs, sl⟩ := X
  obtain ⟨hx, hb, hml, hown, hts, hlk, hK, hG, hR, hr, hQ, hl0, hA0, hn0, hSx⟩ := C
  intro H locs ls h1 h2 h3
  exact lv_aload hx hb hd (lv_at h3 q hl) (k H locs ls h1 h2 h3)
theorem j_astore_n {X : Ctx} {cc : ByteArray} {own : String} {G : Gt} {l0 : Launch} {A0 : Nat → Prop} {lv n0 : Nat} {rt : Option FieldType} {r : Option Value} {D' : Dt} {Φ : Heap → Prop} {pc : Nat} {L : List (Nat × Value)} {st : List Value} (C : Cx X cc own G l0 A0 lv n0 rt r D') {kk : Fin 4} {i : Nat} {x y : Nat} (L' : List (Nat × Value)) (hd : decode cc pc = .ok (.astore_n kk, 1)) (hi : (kk : Nat) = i) (hn : i < n0) (hy : y = x) (hl : (i, Value.ref y) :: L.filter (fun q => !(q.1 == i) && !(q.1 + 1 == i && q.2.category == 2)) = L') (k : J X Φ (pc + 1) L' st) : J X Φ pc L (.ref x :: st) := by
  obtain ⟨p, l, e, R, s, m, args, below, meth, c, A, nL, Q, cs, sl⟩ := X
  obtain ⟨hx, hb, hml, hown, hts, hlk, hK, hG, hR, hr, hQ, hl0, hA0, hn0, hSx⟩ := C
  intro H locs ls h1 h2 h3
  subst hy; subst hn0
  exact lv_astore_n hx hb hd hi h3 hn hl (fun ls' h' => k H locs ls' h1 h2 h')
theorem j_astore {X : Ctx} {cc : ByteArray} {own : String} {G : Gt} {l0 : Launch} {A0 : Nat → Prop} {lv n0 : Nat} {rt : Option FieldType} {r : Option Value} {D' : Dt} {Φ : Heap → Prop} {pc : Nat} {L : List (Nat × Value)} {st : List Value} (C : Cx X cc own G l0 A0 lv n0 rt r D') {i : Nat} {x y : Nat} (L' : List (Nat × Value)) (hd : decode cc pc = .ok (.astore i, 2)) (hn : i < n0) (hy : y = x) (hl : (i, Value.ref y) :: L.filter (fun q => !(q.1 == i) && !(q.1 + 1 == i && q.2.category == 2)) = L') (k : J X Φ (pc + 2) L' st) : J X Φ pc L (.ref x :: st) := by
  obtain ⟨p, l, e, R, s, m, args, below, meth, c, A, nL, Q, cs, sl⟩ := X
  obtain ⟨hx, hb, hml, hown, hts, hlk, hK, hG, hR, hr, hQ, hl0, hA0, hn0, hSx⟩ := C
  intro H locs ls h1 h2 h3
  subst hy; subst hn0
  exact lv_astore hx hb hd h3 hn hl (fun ls' h' => k H locs ls' h1 h2 h')
theorem j_iinc {X : Ctx} {cc : ByteArray} {own : String} {G : Gt} {l0 : Launch} {A0 : Nat → Prop} {lv n0 : Nat} {rt : Option FieldType} {r : Option Value} {D' : Dt} {Φ : Heap → Prop} {pc : Nat} {L : List (Nat × Value)} {st : List Value} (C : Cx X cc own G l0 A0 lv n0 rt r D') {i : Nat} {n : Int} {x y : Int32} (q : Nat) (L' : List (Nat × Value)) (hd : decode cc pc = .ok (.iinc i n, 3)) (hk : L[q]? = some (i, .int x)) (hn : i < n0) (hy : y = x + Int32.ofInt n) (hl : (i, Value.int y) :: L.filter (fun q => !(q.1 == i) && !(q.1 + 1 == i && q.2.category == 2)) = L') (k : J X Φ (pc + 3) L' st) : J X Φ pc L st := by
  obtain ⟨p, l, e, R, s, m, args, below, meth, c, A, nL, Q, cs, sl⟩ := X
  obtain ⟨hx, hb, hml, hown, hts, hlk, hK, hG, hR, hr, hQ, hl0, hA0, hn0, hSx⟩ := C
  intro H locs ls h1 h2 h3
  subst hn0
  exact lv_iinc hx hb hd h3 hk hy.symm hn hl (fun ls' h' => k H locs ls' h1 h2 h')
theorem j_sub {X : Ctx} {Φ : Heap → Prop} {pc : Nat} {L : List (Nat × Value)} {st : List Value} (ks : List Nat) (L' : List (Nat × Value)) (hl : lv_pick L ks = L') (k : J X Φ pc L' st) : J X Φ pc L st := by
  obtain ⟨p, l, e, R, s, m, args, below, meth, c, A, nL, Q, cs, sl⟩ := X
  intro H locs ls h1 h2 h3
  exact k H locs ls h1 h2 (lv_sub h3 ks hl)
theorem j_iadd {X : Ctx} {cc : ByteArray} {own : String} {G : Gt} {l0 : Launch} {A0 : Nat → Prop} {lv n0 : Nat} {rt : Option FieldType} {r : Option Value} {D' : Dt} {Φ : Heap → Prop} {pc : Nat} {L : List (Nat × Value)} {st : List Value} (C : Cx X cc own G l0 A0 lv n0 rt r D') {x y : Int32} (hd : decode cc pc = .ok (.iadd, 1)) (k : J X Φ (pc + 1) L (.int (x + y) :: st)) : J X Φ pc L (.int y :: .int x :: st) := by
  obtain ⟨p, l, e, R, s, m, args, below, meth, c, A, nL, Q, cs, sl⟩ := X
  obtain ⟨hx, hb, hml, hown, hts, hlk, hK, hG, hR, hr, hQ, hl0, hA0, hn0, hSx⟩ := C
  intro H locs ls h1 h2 h3
  exact lv_iadd hx hb hd (k H locs ls h1 h2 h3)
theorem j_isub {X : Ctx} {cc : ByteArray} {own : String} {G : Gt} {l0 : Launch} {A0 : Nat → Prop} {lv n0 : Nat} {rt : Option FieldType} {r : Option Value} {D' : Dt} {Φ : Heap → Prop} {pc : Nat} {L : List (Nat × Value)} {st : List Value} (C : Cx X cc own G l0 A0 lv n0 rt r D') {x y : Int32} (hd : decode cc pc = .ok (.isub, 1)) (k : J X Φ (pc + 1) L (.int (x - y) :: st)) : J X Φ pc L (.int y :: .int x :: st) := by
  obtain ⟨p, l, e, R, s, m, args, below, meth, c, A, nL, Q, cs, sl⟩ := X
  obtain ⟨hx, hb, hml, hown, hts, hlk, hK, hG, hR, hr, hQ, hl0, hA0, hn0, hSx⟩ := C
  intro H locs ls h1 h2 h3
  exact lv_isub hx hb hd (k H locs ls h1 h2 h3)
theorem j_imul {X : Ctx} {cc : ByteArray} {own : String} {G : Gt} {l0 : Launch} {A0 : Nat → Prop} {lv n0 : Nat} {rt : Option FieldType} {r : Option Value} {D' : Dt} {Φ : Heap → Prop} {pc : Nat} {L : List (Nat × Value)} {st : List Value} (C : Cx X cc own G l0 A0 lv n0 rt r D') {x y : Int32} (hd : decode cc pc = .ok (.imul, 1)) (k : J X Φ (pc + 1) L (.int (x * y) :: st)) : J X Φ pc L (.int y :: .int x :: st) := by
  obtain ⟨p, l, e, R, s, m, args, below, meth, c, A, nL, Q, cs, sl⟩ := X
  obtain ⟨hx, hb, hml, hown, hts, hlk, hK, hG, hR, hr, hQ, hl0, hA0, hn0, hSx⟩ := C
  intro H locs ls h1 h2 h3
  exact lv_imul hx hb hd (k H locs ls h1 h2 h3)
theorem j_iand {X : Ctx} {cc : ByteArray} {own : String} {G : Gt} {l0 : Launch} {A0 : Nat → Prop} {lv n0 : Nat} {rt : Option FieldType} {r : Option Value} {D' : Dt} {Φ : Heap → Prop} {pc : Nat} {L : List (Nat × Value)} {st : List Value} (C : Cx X cc own G l0 A0 lv n0 rt r D') {x y : Int32} (hd : decode cc pc = .ok (.iand, 1)) (k : J X Φ (pc + 1) L (.int (x &&& y) :: st)) : J X Φ pc L (.int y :: .int x :: st) := by
  obtain ⟨p, l, e, R, s, m, args, below, meth, c, A, nL, Q, cs, sl⟩ := X
  obtain ⟨hx, hb, hml, hown, hts, hlk, hK, hG, hR, hr, hQ, hl0, hA0, hn0, hSx⟩ := C
  intro H locs ls h1 h2 h3
  exact lv_iand hx hb hd (k H locs ls h1 h2 h3)
theorem j_ior {X : Ctx} {cc : ByteArray} {own : String} {G : Gt} {l0 : Launch} {A0 : Nat → Prop} {lv n0 : Nat} {rt : Option FieldType} {r : Option Value} {D' : Dt} {Φ : Heap → Prop} {pc : Nat} {L : List (Nat × Value)} {st : List Value} (C : Cx X cc own G l0 A0 lv n0 rt r D') {x y : Int32} (hd : decode cc pc = .ok (.ior, 1)) (k : J X Φ (pc + 1) L (.int (x ||| y) :: st)) : J X Φ pc L (.int y :: .int x :: st) := by
  obtain ⟨p, l, e, R, s, m, args, below, meth, c, A, nL, Q, cs, sl⟩ := X
  obtain ⟨hx, hb, hml, hown, hts, hlk, hK, hG, hR, hr, hQ, hl0, hA0, hn0, hSx⟩ := C
  intro H locs ls h1 h2 h3
  exact lv_ior hx hb hd (k H locs ls h1 h2 h3)
theorem j_ixor {X : Ctx} {cc : ByteArray} {own : String} {G : Gt} {l0 : Launch} {A0 : Nat → Prop} {lv n0 : Nat} {rt : Option FieldType} {r : Option Value} {D' : Dt} {Φ : Heap → Prop} {pc : Nat} {L : List (Nat × Value)} {st : List Value} (C : Cx X cc own G l0 A0 lv n0 rt r D') {x y : Int32} (hd : decode cc pc = .ok (.ixor, 1)) (k : J X Φ (pc + 1) L (.int (x ^^^ y) :: st)) : J X Φ pc L (.int y :: .int x :: st) := by
  obtain ⟨p, l, e, R, s, m, args, below, meth, c, A, nL, Q, cs, sl⟩ := X
  obtain ⟨hx, hb, hml, hown, hts, hlk, hK, hG, hR, hr, hQ, hl0, hA0, hn0, hSx⟩ := C
  intro H locs ls h1 h2 h3
  exact lv_ixor hx hb hd (k H locs ls h1 h2 h3)
theorem j_ishl {X : Ctx} {cc : ByteArray} {own : String} {G : Gt} {l0 : Launch} {A0 : Nat → Prop} {lv n0 : Nat} {rt : Option FieldType} {r : Option Value} {D' : Dt} {Φ : Heap → Prop} {pc : Nat} {L : List (Nat × Value)} {st : List Value} (C : Cx X cc own G l0 A0 lv n0 rt r D') {x y : Int32} (hd : decode cc pc = .ok (.ishl, 1)) (k : J X Φ (pc + 1) L (.int (x <<< (y &&& 31)) :: st)) : J X Φ pc L (.int y :: .int x :: st) := by
  obtain ⟨p, l, e, R, s, m, args, below, meth, c, A, nL, Q, cs, sl⟩ := X
  obtain ⟨hx, hb, hml, hown, hts, hlk, hK, hG, hR, hr, hQ, hl0, hA0, hn0, hSx⟩ := C
  intro H locs ls h1 h2 h3
  exact lv_ishl hx hb hd (k H locs ls h1 h2 h3)
theorem j_ishr {X : Ctx} {cc : ByteArray} {own : String} {G : Gt} {l0 : Launch} {A0 : Nat → Prop} {lv n0 : Nat} {rt : Option FieldType} {r : Option Value} {D' : Dt} {Φ : Heap → Prop} {pc : Nat} {L : List (Nat × Value)} {st : List Value} (C : Cx X cc own G l0 A0 lv n0 rt r D') {x y : Int32} (hd : decode cc pc = .ok (.ishr, 1)) (k : J X Φ (pc + 1) L (.int (x >>> (y &&& 31)) :: st)) : J X Φ pc L (.int y :: .int x :: st) := by
  obtain ⟨p, l, e, R, s, m, args, below, meth, c, A, nL, Q, cs, sl⟩ := X
  obtain ⟨hx, hb, hml, hown, hts, hlk, hK, hG, hR, hr, hQ, hl0, hA0, hn0, hSx⟩ := C
  intro H locs ls h1 h2 h3
  exact lv_ishr hx hb hd (k H locs ls h1 h2 h3)
theorem j_ladd {X : Ctx} {cc : ByteArray} {own : String} {G : Gt} {l0 : Launch} {A0 : Nat → Prop} {lv n0 : Nat} {rt : Option FieldType} {r : Option Value} {D' : Dt} {Φ : Heap → Prop} {pc : Nat} {L : List (Nat × Value)} {st : List Value} (C : Cx X cc own G l0 A0 lv n0 rt r D') {x y : Int64} (hd : decode cc pc = .ok (.ladd, 1)) (k : J X Φ (pc + 1) L (.long (x + y) :: st)) : J X Φ pc L (.long y :: .long x :: st) := by
  obtain ⟨p, l, e, R, s, m, args, below, meth, c, A, nL, Q, cs, sl⟩ := X
  obtain ⟨hx, hb, hml, hown, hts, hlk, hK, hG, hR, hr, hQ, hl0, hA0, hn0, hSx⟩ := C
  intro H locs ls h1 h2 h3
  exact lv_ladd hx hb hd (k H locs ls h1 h2 h3)
theorem j_lsub {X : Ctx} {cc : ByteArray} {own : String} {G : Gt} {l0 : Launch} {A0 : Nat → Prop} {lv n0 : Nat} {rt : Option FieldType} {r : Option Value} {D' : Dt} {Φ : Heap → Prop} {pc : Nat} {L : List (Nat × Value)} {st : List Value} (C : Cx X cc own G l0 A0 lv n0 rt r D') {x y : Int64} (hd : decode cc pc = .ok (.lsub, 1)) (k : J X Φ (pc + 1) L (.long (x - y) :: st)) : J X Φ pc L (.long y :: .long x :: st) := by
  obtain ⟨p, l, e, R, s, m, args, below, meth, c, A, nL, Q, cs, sl⟩ := X
  obtain ⟨hx, hb, hml, hown, hts, hlk, hK, hG, hR, hr, hQ, hl0, hA0, hn0, hSx⟩ := C
  intro H locs ls h1 h2 h3
  exact lv_lsub hx hb hd (k H locs ls h1 h2 h3)
theorem j_lmul {X : Ctx} {cc : ByteArray} {own : String} {G : Gt} {l0 : Launch} {A0 : Nat → Prop} {lv n0 : Nat} {rt : Option FieldType} {r : Option Value} {D' : Dt} {Φ : Heap → Prop} {pc : Nat} {L : List (Nat × Value)} {st : List Value} (C : Cx X cc own G l0 A0 lv n0 rt r D') {x y : Int64} (hd : decode cc pc = .ok (.lmul, 1)) (k : J X Φ (pc + 1) L (.long (x * y) :: st)) : J X Φ pc L (.long y :: .long x :: st) := by
  obtain ⟨p, l, e, R, s, m, args, below, meth, c, A, nL, Q, cs, sl⟩ := X
  obtain ⟨hx, hb, hml, hown, hts, hlk, hK, hG, hR, hr, hQ, hl0, hA0, hn0, hSx⟩ := C
  intro H locs ls h1 h2 h3
  exact lv_lmul hx hb hd (k H locs ls h1 h2 h3)
theorem j_land {X : Ctx} {cc : ByteArray} {own : String} {G : Gt} {l0 : Launch} {A0 : Nat → Prop} {lv n0 : Nat} {rt : Option FieldType} {r : Option Value} {D' : Dt} {Φ : Heap → Prop} {pc : Nat} {L : List (Nat × Value)} {st : List Value} (C : Cx X cc own G l0 A0 lv n0 rt r D') {x y : Int64} (hd : decode cc pc = .ok (.land, 1)) (k : J X Φ (pc + 1) L (.long (x &&& y) :: st)) : J X Φ pc L (.long y :: .long x :: st) := by
  obtain ⟨p, l, e, R, s, m, args, below, meth, c, A, nL, Q, cs, sl⟩ := X
  obtain ⟨hx, hb, hml, hown, hts, hlk, hK, hG, hR, hr, hQ, hl0, hA0, hn0, hSx⟩ := C
  intro H locs ls h1 h2 h3
  exact lv_land hx hb hd (k H locs ls h1 h2 h3)
theorem j_lor {X : Ctx} {cc : ByteArray} {own : String} {G : Gt} {l0 : Launch} {A0 : Nat → Prop} {lv n0 : Nat} {rt : Option FieldType} {r : Option Value} {D' : Dt} {Φ : Heap → Prop} {pc : Nat} {L : List (Nat × Value)} {st : List Value} (C : Cx X cc own G l0 A0 lv n0 rt r D') {x y : Int64} (hd : decode cc pc = .ok (.lor, 1)) (k : J X Φ (pc + 1) L (.long (x ||| y) :: st)) : J X Φ pc L (.long y :: .long x :: st) := by
  obtain ⟨p, l, e, R, s, m, args, below, meth, c, A, nL, Q, cs, sl⟩ := X
  obtain ⟨hx, hb, hml, hown, hts, hlk, hK, hG, hR, hr, hQ, hl0, hA0, hn0, hSx⟩ := C
  intro H locs ls h1 h2 h3
  exact lv_lor hx hb hd (k H locs ls h1 h2 h3)
theorem j_iushr {X : Ctx} {cc : ByteArray} {own : String} {G : Gt} {l0 : Launch} {A0 : Nat → Prop} {lv n0 : Nat} {rt : Option FieldType} {r : Option Value} {D' : Dt} {Φ : Heap → Prop} {pc : Nat} {L : List (Nat × Value)} {st : List Value} (C : Cx X cc own G l0 A0 lv n0 rt r D') {x y : Int32} (hd : decode cc pc = .ok (.iushr, 1)) (k : J X Φ (pc + 1) L (.int ((x.toUInt32 >>> (y.toUInt32 &&& Int32.toUInt32 31)).toInt32) :: st)) : J X Φ pc L (.int y :: .int x :: st) := by
  obtain ⟨p, l, e, R, s, m, args, below, meth, c, A, nL, Q, cs, sl⟩ := X
  obtain ⟨hx, hb, hml, hown, hts, hlk, hK, hG, hR, hr, hQ, hl0, hA0, hn0, hSx⟩ := C
  intro H locs ls h1 h2 h3
  exact lv_iushr hx hb hd rfl (k H locs ls h1 h2 h3)
theorem j_idiv {X : Ctx} {cc : ByteArray} {own : String} {G : Gt} {l0 : Launch} {A0 : Nat → Prop} {lv n0 : Nat} {rt : Option FieldType} {r : Option Value} {D' : Dt} {Φ : Heap → Prop} {pc : Nat} {L : List (Nat × Value)} {st : List Value} (C : Cx X cc own G l0 A0 lv n0 rt r D') {x y : Int32} (hne : ¬ y = 0) (hd : decode cc pc = .ok (.idiv, 1)) (k : J X Φ (pc + 1) L (.int (x / y) :: st)) : J X Φ pc L (.int y :: .int x :: st) := by
  obtain ⟨p, l, e, R, s, m, args, below, meth, c, A, nL, Q, cs, sl⟩ := X
  obtain ⟨hx, hb, hml, hown, hts, hlk, hK, hG, hR, hr, hQ, hl0, hA0, hn0, hSx⟩ := C
  intro H locs ls h1 h2 h3
  exact lv_idiv hx hb hd hne (k H locs ls h1 h2 h3)
theorem j_irem {X : Ctx} {cc : ByteArray} {own : String} {G : Gt} {l0 : Launch} {A0 : Nat → Prop} {lv n0 : Nat} {rt : Option FieldType} {r : Option Value} {D' : Dt} {Φ : Heap → Prop} {pc : Nat} {L : List (Nat × Value)} {st : List Value} (C : Cx X cc own G l0 A0 lv n0 rt r D') {x y : Int32} (hne : ¬ y = 0) (hd : decode cc pc = .ok (.irem, 1)) (k : J X Φ (pc + 1) L (.int (x - x / y * y) :: st)) : J X Φ pc L (.int y :: .int x :: st) := by
  obtain ⟨p, l, e, R, s, m, args, below, meth, c, A, nL, Q, cs, sl⟩ := X
  obtain ⟨hx, hb, hml, hown, hts, hlk, hK, hG, hR, hr, hQ, hl0, hA0, hn0, hSx⟩ := C
  intro H locs ls h1 h2 h3
  exact lv_irem hx hb hd hne (k H locs ls h1 h2 h3)
theorem j_ldiv {X : Ctx} {cc : ByteArray} {own : String} {G : Gt} {l0 : Launch} {A0 : Nat → Prop} {lv n0 : Nat} {rt : Option FieldType} {r : Option Value} {D' : Dt} {Φ : Heap → Prop} {pc : Nat} {L : List (Nat × Value)} {st : List Value} (C : Cx X cc own G l0 A0 lv n0 rt r D') {x y : Int64} (hne : ¬ y = 0) (hd : decode cc pc = .ok (.ldiv, 1)) (k : J X Φ (pc + 1) L (.long (x / y) :: st)) : J X Φ pc L (.long y :: .long x :: st) := by
  obtain ⟨p, l, e, R, s, m, args, below, meth, c, A, nL, Q, cs, sl⟩ := X
  obtain ⟨hx, hb, hml, hown, hts, hlk, hK, hG, hR, hr, hQ, hl0, hA0, hn0, hSx⟩ := C
  intro H locs ls h1 h2 h3
  exact lv_ldiv hx hb hd hne (k H locs ls h1 h2 h3)
theorem j_lrem {X : Ctx} {cc : ByteArray} {own : String} {G : Gt} {l0 : Launch} {A0 : Nat → Prop} {lv n0 : Nat} {rt : Option FieldType} {r : Option Value} {D' : Dt} {Φ : Heap → Prop} {pc : Nat} {L : List (Nat × Value)} {st : List Value} (C : Cx X cc own G l0 A0 lv n0 rt r D') {x y : Int64} (hne : ¬ y = 0) (hd : decode cc pc = .ok (.lrem, 1)) (k : J X Φ (pc + 1) L (.long (x - x / y * y) :: st)) : J X Φ pc L (.long y :: .long x :: st) := by
  obtain ⟨p, l, e, R, s, m, args, below, meth, c, A, nL, Q, cs, sl⟩ := X
  obtain ⟨hx, hb, hml, hown, hts, hlk, hK, hG, hR, hr, hQ, hl0, hA0, hn0, hSx⟩ := C
  intro H locs ls h1 h2 h3
  exact lv_lrem hx hb hd hne (k H locs ls h1 h2 h3)
theorem j_i2l {X : Ctx} {cc : ByteArray} {own : String} {G : Gt} {l0 : Launch} {A0 : Nat → Prop} {lv n0 : Nat} {rt : Option FieldType} {r : Option Value} {D' : Dt} {Φ : Heap → Prop} {pc : Nat} {L : List (Nat × Value)} {st : List Value} (C : Cx X cc own G l0 A0 lv n0 rt r D') {x : Int32} (hd : decode cc pc = .ok (.i2l, 1)) (k : J X Φ (pc + 1) L (.long x.toInt64 :: st)) : J X Φ pc L (.int x :: st) := by
  obtain ⟨p, l, e, R, s, m, args, below, meth, c, A, nL, Q, cs, sl⟩ := X
  obtain ⟨hx, hb, hml, hown, hts, hlk, hK, hG, hR, hr, hQ, hl0, hA0, hn0, hSx⟩ := C
  intro H locs ls h1 h2 h3
  exact lv_i2l hx hb hd rfl (k H locs ls h1 h2 h3)
theorem j_l2i {X : Ctx} {cc : ByteArray} {own : String} {G : Gt} {l0 : Launch} {A0 : Nat → Prop} {lv n0 : Nat} {rt : Option FieldType} {r : Option Value} {D' : Dt} {Φ : Heap → Prop} {pc : Nat} {L : List (Nat × Value)} {st : List Value} (C : Cx X cc own G l0 A0 lv n0 rt r D') {x : Int64} (hd : decode cc pc = .ok (.l2i, 1)) (k : J X Φ (pc + 1) L (.int x.toInt32 :: st)) : J X Φ pc L (.long x :: st) := by
  obtain ⟨p, l, e, R, s, m, args, below, meth, c, A, nL, Q, cs, sl⟩ := X
  obtain ⟨hx, hb, hml, hown, hts, hlk, hK, hG, hR, hr, hQ, hl0, hA0, hn0, hSx⟩ := C
  intro H locs ls h1 h2 h3
  exact lv_l2i hx hb hd rfl (k H locs ls h1 h2 h3)
theorem j_i2b {X : Ctx} {cc : ByteArray} {own : String} {G : Gt} {l0 : Launch} {A0 : Nat → Prop} {lv n0 : Nat} {rt : Option FieldType} {r : Option Value} {D' : Dt} {Φ : Heap → Prop} {pc : Nat} {L : List (Nat × Value)} {st : List Value} (C : Cx X cc own G l0 A0 lv n0 rt r D') {x : Int32} (hd : decode cc pc = .ok (.i2b, 1)) (k : J X Φ (pc + 1) L (.int x.toInt8.toInt32 :: st)) : J X Φ pc L (.int x :: st) := by
  obtain ⟨p, l, e, R, s, m, args, below, meth, c, A, nL, Q, cs, sl⟩ := X
  obtain ⟨hx, hb, hml, hown, hts, hlk, hK, hG, hR, hr, hQ, hl0, hA0, hn0, hSx⟩ := C
  intro H locs ls h1 h2 h3
  exact lv_i2b hx hb hd rfl (k H locs ls h1 h2 h3)
theorem j_i2c {X : Ctx} {cc : ByteArray} {own : String} {G : Gt} {l0 : Launch} {A0 : Nat → Prop} {lv n0 : Nat} {rt : Option FieldType} {r : Option Value} {D' : Dt} {Φ : Heap → Prop} {pc : Nat} {L : List (Nat × Value)} {st : List Value} (C : Cx X cc own G l0 A0 lv n0 rt r D') {x : Int32} (hd : decode cc pc = .ok (.i2c, 1)) (k : J X Φ (pc + 1) L (.int (x.toUInt32 % 65536).toInt32 :: st)) : J X Φ pc L (.int x :: st) := by
  obtain ⟨p, l, e, R, s, m, args, below, meth, c, A, nL, Q, cs, sl⟩ := X
  obtain ⟨hx, hb, hml, hown, hts, hlk, hK, hG, hR, hr, hQ, hl0, hA0, hn0, hSx⟩ := C
  intro H locs ls h1 h2 h3
  exact lv_i2c hx hb hd rfl (k H locs ls h1 h2 h3)
theorem j_lcmp {X : Ctx} {cc : ByteArray} {own : String} {G : Gt} {l0 : Launch} {A0 : Nat → Prop} {lv n0 : Nat} {rt : Option FieldType} {r : Option Value} {D' : Dt} {Φ : Heap → Prop} {pc : Nat} {L : List (Nat × Value)} {st : List Value} (C : Cx X cc own G l0 A0 lv n0 rt r D') {x y : Int64} (hd : decode cc pc = .ok (.lcmp, 1)) (k : J X Φ (pc + 1) L (.int (lg_cmp x y) :: st)) : J X Φ pc L (.long y :: .long x :: st) := by
  obtain ⟨p, l, e, R, s, m, args, below, meth, c, A, nL, Q, cs, sl⟩ := X
  obtain ⟨hx, hb, hml, hown, hts, hlk, hK, hG, hR, hr, hQ, hl0, hA0, hn0, hSx⟩ := C
  intro H locs ls h1 h2 h3
  exact W.lcmp hx hb hd (k H locs ls h1 h2 h3)
theorem j_dup {X : Ctx} {cc : ByteArray} {own : String} {G : Gt} {l0 : Launch} {A0 : Nat → Prop} {lv n0 : Nat} {rt : Option FieldType} {r : Option Value} {D' : Dt} {Φ : Heap → Prop} {pc : Nat} {L : List (Nat × Value)} {st : List Value} (C : Cx X cc own G l0 A0 lv n0 rt r D') {va : Value} (hva : va.category = 1) (hd : decode cc pc = .ok (.dup, 1)) (k : J X Φ (pc + 1) L (va :: va :: st)) : J X Φ pc L (va :: st) := by
  obtain ⟨p, l, e, R, s, m, args, below, meth, c, A, nL, Q, cs, sl⟩ := X
  obtain ⟨hx, hb, hml, hown, hts, hlk, hK, hG, hR, hr, hQ, hl0, hA0, hn0, hSx⟩ := C
  intro H locs ls h1 h2 h3
  exact lv_dup hx hb hd hva (k H locs ls h1 h2 h3)
theorem j_pop {X : Ctx} {cc : ByteArray} {own : String} {G : Gt} {l0 : Launch} {A0 : Nat → Prop} {lv n0 : Nat} {rt : Option FieldType} {r : Option Value} {D' : Dt} {Φ : Heap → Prop} {pc : Nat} {L : List (Nat × Value)} {st : List Value} (C : Cx X cc own G l0 A0 lv n0 rt r D') {va : Value} (hva : va.category = 1) (hd : decode cc pc = .ok (.pop, 1)) (k : J X Φ (pc + 1) L (st)) : J X Φ pc L (va :: st) := by
  obtain ⟨p, l, e, R, s, m, args, below, meth, c, A, nL, Q, cs, sl⟩ := X
  obtain ⟨hx, hb, hml, hown, hts, hlk, hK, hG, hR, hr, hQ, hl0, hA0, hn0, hSx⟩ := C
  intro H locs ls h1 h2 h3
  exact lv_pop hx hb hd hva (k H locs ls h1 h2 h3)
theorem j_dup2 {X : Ctx} {cc : ByteArray} {own : String} {G : Gt} {l0 : Launch} {A0 : Nat → Prop} {lv n0 : Nat} {rt : Option FieldType} {r : Option Value} {D' : Dt} {Φ : Heap → Prop} {pc : Nat} {L : List (Nat × Value)} {st : List Value} (C : Cx X cc own G l0 A0 lv n0 rt r D') {va vb : Value} (hva : va.category = 1) (hvb : vb.category = 1) (hd : decode cc pc = .ok (.dup2, 1)) (k : J X Φ (pc + 1) L (va :: vb :: va :: vb :: st)) : J X Φ pc L (va :: vb :: st) := by
  obtain ⟨p, l, e, R, s, m, args, below, meth, c, A, nL, Q, cs, sl⟩ := X
  obtain ⟨hx, hb, hml, hown, hts, hlk, hK, hG, hR, hr, hQ, hl0, hA0, hn0, hSx⟩ := C
  intro H locs ls h1 h2 h3
  exact lv_dup2_11 hx hb hd hva hvb (k H locs ls h1 h2 h3)
theorem j_if_eq {X : Ctx} {cc : ByteArray} {own : String} {G : Gt} {l0 : Launch} {A0 : Nat → Prop} {lv n0 : Nat} {rt : Option FieldType} {r : Option Value} {D' : Dt} {Φ : Heap → Prop} {pc : Nat} {L : List (Nat × Value)} {st : List Value} (C : Cx X cc own G l0 A0 lv n0 rt r D') {x : Int32} {off : Int} (tgt : Nat) (hd : decode cc pc = .ok (.ifCond .eq off, 3)) (ht : (pc : Int) + off = (tgt : Int)) (kt : x = 0 → J X Φ tgt L st) (kf : ¬ x = 0 → J X Φ (pc + 3) L st) : J X Φ pc L (.int x :: st) := by
  obtain ⟨p, l, e, R, s, m, args, below, meth, c, A, nL, Q, cs, sl⟩ := X
  obtain ⟨hx, hb, hml, hown, hts, hlk, hK, hG, hR, hr, hQ, hl0, hA0, hn0, hSx⟩ := C
  intro H locs ls h1 h2 h3
  exact lv_if_eq hx hb hd ht (fun q => kt q H locs ls h1 h2 h3) (fun q => kf q H locs ls h1 h2 h3)
theorem j_if_ne {X : Ctx} {cc : ByteArray} {own : String} {G : Gt} {l0 : Launch} {A0 : Nat → Prop} {lv n0 : Nat} {rt : Option FieldType} {r : Option Value} {D' : Dt} {Φ : Heap → Prop} {pc : Nat} {L : List (Nat × Value)} {st : List Value} (C : Cx X cc own G l0 A0 lv n0 rt r D') {x : Int32} {off : Int} (tgt : Nat) (hd : decode cc pc = .ok (.ifCond .ne off, 3)) (ht : (pc : Int) + off = (tgt : Int)) (kt : ¬ x = 0 → J X Φ tgt L st) (kf : x = 0 → J X Φ (pc + 3) L st) : J X Φ pc L (.int x :: st) := by
  obtain ⟨p, l, e, R, s, m, args, below, meth, c, A, nL, Q, cs, sl⟩ := X
  obtain ⟨hx, hb, hml, hown, hts, hlk, hK, hG, hR, hr, hQ, hl0, hA0, hn0, hSx⟩ := C
  intro H locs ls h1 h2 h3
  exact lv_if_ne hx hb hd ht (fun q => kt q H locs ls h1 h2 h3) (fun q => kf q H locs ls h1 h2 h3)
theorem j_if_lt {X : Ctx} {cc : ByteArray} {own : String} {G : Gt} {l0 : Launch} {A0 : Nat → Prop} {lv n0 : Nat} {rt : Option FieldType} {r : Option Value} {D' : Dt} {Φ : Heap → Prop} {pc : Nat} {L : List (Nat × Value)} {st : List Value} (C : Cx X cc own G l0 A0 lv n0 rt r D') {x : Int32} {off : Int} (tgt : Nat) (hd : decode cc pc = .ok (.ifCond .lt off, 3)) (ht : (pc : Int) + off = (tgt : Int)) (kt : x < 0 → J X Φ tgt L st) (kf : ¬ x < 0 → J X Φ (pc + 3) L st) : J X Φ pc L (.int x :: st) := by
  obtain ⟨p, l, e, R, s, m, args, below, meth, c, A, nL, Q, cs, sl⟩ := X
  obtain ⟨hx, hb, hml, hown, hts, hlk, hK, hG, hR, hr, hQ, hl0, hA0, hn0, hSx⟩ := C
  intro H locs ls h1 h2 h3
  exact lv_if_lt hx hb hd ht (fun q => kt q H locs ls h1 h2 h3) (fun q => kf q H locs ls h1 h2 h3)
theorem j_if_ge {X : Ctx} {cc : ByteArray} {own : String} {G : Gt} {l0 : Launch} {A0 : Nat → Prop} {lv n0 : Nat} {rt : Option FieldType} {r : Option Value} {D' : Dt} {Φ : Heap → Prop} {pc : Nat} {L : List (Nat × Value)} {st : List Value} (C : Cx X cc own G l0 A0 lv n0 rt r D') {x : Int32} {off : Int} (tgt : Nat) (hd : decode cc pc = .ok (.ifCond .ge off, 3)) (ht : (pc : Int) + off = (tgt : Int)) (kt : 0 ≤ x → J X Φ tgt L st) (kf : ¬ 0 ≤ x → J X Φ (pc + 3) L st) : J X Φ pc L (.int x :: st) := by
  obtain ⟨p, l, e, R, s, m, args, below, meth, c, A, nL, Q, cs, sl⟩ := X
  obtain ⟨hx, hb, hml, hown, hts, hlk, hK, hG, hR, hr, hQ, hl0, hA0, hn0, hSx⟩ := C
  intro H locs ls h1 h2 h3
  exact lv_if_ge hx hb hd ht (fun q => kt q H locs ls h1 h2 h3) (fun q => kf q H locs ls h1 h2 h3)
theorem j_if_gt {X : Ctx} {cc : ByteArray} {own : String} {G : Gt} {l0 : Launch} {A0 : Nat → Prop} {lv n0 : Nat} {rt : Option FieldType} {r : Option Value} {D' : Dt} {Φ : Heap → Prop} {pc : Nat} {L : List (Nat × Value)} {st : List Value} (C : Cx X cc own G l0 A0 lv n0 rt r D') {x : Int32} {off : Int} (tgt : Nat) (hd : decode cc pc = .ok (.ifCond .gt off, 3)) (ht : (pc : Int) + off = (tgt : Int)) (kt : 0 < x → J X Φ tgt L st) (kf : ¬ 0 < x → J X Φ (pc + 3) L st) : J X Φ pc L (.int x :: st) := by
  obtain ⟨p, l, e, R, s, m, args, below, meth, c, A, nL, Q, cs, sl⟩ := X
  obtain ⟨hx, hb, hml, hown, hts, hlk, hK, hG, hR, hr, hQ, hl0, hA0, hn0, hSx⟩ := C
  intro H locs ls h1 h2 h3
  exact lv_if_gt hx hb hd ht (fun q => kt q H locs ls h1 h2 h3) (fun q => kf q H locs ls h1 h2 h3)
theorem j_if_le {X : Ctx} {cc : ByteArray} {own : String} {G : Gt} {l0 : Launch} {A0 : Nat → Prop} {lv n0 : Nat} {rt : Option FieldType} {r : Option Value} {D' : Dt} {Φ : Heap → Prop} {pc : Nat} {L : List (Nat × Value)} {st : List Value} (C : Cx X cc own G l0 A0 lv n0 rt r D') {x : Int32} {off : Int} (tgt : Nat) (hd : decode cc pc = .ok (.ifCond .le off, 3)) (ht : (pc : Int) + off = (tgt : Int)) (kt : x ≤ 0 → J X Φ tgt L st) (kf : ¬ x ≤ 0 → J X Φ (pc + 3) L st) : J X Φ pc L (.int x :: st) := by
  obtain ⟨p, l, e, R, s, m, args, below, meth, c, A, nL, Q, cs, sl⟩ := X
  obtain ⟨hx, hb, hml, hown, hts, hlk, hK, hG, hR, hr, hQ, hl0, hA0, hn0, hSx⟩ := C
  intro H locs ls h1 h2 h3
  exact lv_if_le hx hb hd ht (fun q => kt q H locs ls h1 h2 h3) (fun q => kf q H locs ls h1 h2 h3)
theorem j_icmp_eq {X : Ctx} {cc : ByteArray} {own : String} {G : Gt} {l0 : Launch} {A0 : Nat → Prop} {lv n0 : Nat} {rt : Option FieldType} {r : Option Value} {D' : Dt} {Φ : Heap → Prop} {pc : Nat} {L : List (Nat × Value)} {st : List Value} (C : Cx X cc own G l0 A0 lv n0 rt r D') {x y : Int32} {off : Int} (tgt : Nat) (hd : decode cc pc = .ok (.if_icmp .eq off, 3)) (ht : (pc : Int) + off = (tgt : Int)) (kt : x = y → J X Φ tgt L st) (kf : ¬ x = y → J X Φ (pc + 3) L st) : J X Φ pc L (.int y :: .int x :: st) := by
  obtain ⟨p, l, e, R, s, m, args, below, meth, c, A, nL, Q, cs, sl⟩ := X
  obtain ⟨hx, hb, hml, hown, hts, hlk, hK, hG, hR, hr, hQ, hl0, hA0, hn0, hSx⟩ := C
  intro H locs ls h1 h2 h3
  exact lv_icmp_eq hx hb hd ht (fun q => kt q H locs ls h1 h2 h3) (fun q => kf q H locs ls h1 h2 h3)
theorem j_icmp_ne {X : Ctx} {cc : ByteArray} {own : String} {G : Gt} {l0 : Launch} {A0 : Nat → Prop} {lv n0 : Nat} {rt : Option FieldType} {r : Option Value} {D' : Dt} {Φ : Heap → Prop} {pc : Nat} {L : List (Nat × Value)} {st : List Value} (C : Cx X cc own G l0 A0 lv n0 rt r D') {x y : Int32} {off : Int} (tgt : Nat) (hd : decode cc pc = .ok (.if_icmp .ne off, 3)) (ht : (pc : Int) + off = (tgt : Int)) (kt : ¬ x = y → J X Φ tgt L st) (kf : x = y → J X Φ (pc + 3) L st) : J X Φ pc L (.int y :: .int x :: st) := by
  obtain ⟨p, l, e, R, s, m, args, below, meth, c, A, nL, Q, cs, sl⟩ := X
  obtain ⟨hx, hb, hml, hown, hts, hlk, hK, hG, hR, hr, hQ, hl0, hA0, hn0, hSx⟩ := C
  intro H locs ls h1 h2 h3
  exact lv_icmp_ne hx hb hd ht (fun q => kt q H locs ls h1 h2 h3) (fun q => kf q H locs ls h1 h2 h3)
theorem j_icmp_lt {X : Ctx} {cc : ByteArray} {own : String} {G : Gt} {l0 : Launch} {A0 : Nat → Prop} {lv n0 : Nat} {rt : Option FieldType} {r : Option Value} {D' : Dt} {Φ : Heap → Prop} {pc : Nat} {L : List (Nat × Value)} {st : List Value} (C : Cx X cc own G l0 A0 lv n0 rt r D') {x y : Int32} {off : Int} (tgt : Nat) (hd : decode cc pc = .ok (.if_icmp .lt off, 3)) (ht : (pc : Int) + off = (tgt : Int)) (kt : x < y → J X Φ tgt L st) (kf : ¬ x < y → J X Φ (pc + 3) L st) : J X Φ pc L (.int y :: .int x :: st) := by
  obtain ⟨p, l, e, R, s, m, args, below, meth, c, A, nL, Q, cs, sl⟩ := X
  obtain ⟨hx, hb, hml, hown, hts, hlk, hK, hG, hR, hr, hQ, hl0, hA0, hn0, hSx⟩ := C
  intro H locs ls h1 h2 h3
  exact lv_icmp_lt hx hb hd ht (fun q => kt q H locs ls h1 h2 h3) (fun q => kf q H locs ls h1 h2 h3)
theorem j_icmp_ge {X : Ctx} {cc : ByteArray} {own : String} {G : Gt} {l0 : Launch} {A0 : Nat → Prop} {lv n0 : Nat} {rt : Option FieldType} {r : Option Value} {D' : Dt} {Φ : Heap → Prop} {pc : Nat} {L : List (Nat × Value)} {st : List Value} (C : Cx X cc own G l0 A0 lv n0 rt r D') {x y : Int32} {off : Int} (tgt : Nat) (hd : decode cc pc = .ok (.if_icmp .ge off, 3)) (ht : (pc : Int) + off = (tgt : Int)) (kt : y ≤ x → J X Φ tgt L st) (kf : ¬ y ≤ x → J X Φ (pc + 3) L st) : J X Φ pc L (.int y :: .int x :: st) := by
  obtain ⟨p, l, e, R, s, m, args, below, meth, c, A, nL, Q, cs, sl⟩ := X
  obtain ⟨hx, hb, hml, hown, hts, hlk, hK, hG, hR, hr, hQ, hl0, hA0, hn0, hSx⟩ := C
  intro H locs ls h1 h2 h3
  exact lv_icmp_ge hx hb hd ht (fun q => kt q H locs ls h1 h2 h3) (fun q => kf q H locs ls h1 h2 h3)
theorem j_icmp_gt {X : Ctx} {cc : ByteArray} {own : String} {G : Gt} {l0 : Launch} {A0 : Nat → Prop} {lv n0 : Nat} {rt : Option FieldType} {r : Option Value} {D' : Dt} {Φ : Heap → Prop} {pc : Nat} {L : List (Nat × Value)} {st : List Value} (C : Cx X cc own G l0 A0 lv n0 rt r D') {x y : Int32} {off : Int} (tgt : Nat) (hd : decode cc pc = .ok (.if_icmp .gt off, 3)) (ht : (pc : Int) + off = (tgt : Int)) (kt : y < x → J X Φ tgt L st) (kf : ¬ y < x → J X Φ (pc + 3) L st) : J X Φ pc L (.int y :: .int x :: st) := by
  obtain ⟨p, l, e, R, s, m, args, below, meth, c, A, nL, Q, cs, sl⟩ := X
  obtain ⟨hx, hb, hml, hown, hts, hlk, hK, hG, hR, hr, hQ, hl0, hA0, hn0, hSx⟩ := C
  intro H locs ls h1 h2 h3
  exact lv_icmp_gt hx hb hd ht (fun q => kt q H locs ls h1 h2 h3) (fun q => kf q H locs ls h1 h2 h3)
theorem j_icmp_le {X : Ctx} {cc : ByteArray} {own : String} {G : Gt} {l0 : Launch} {A0 : Nat → Prop} {lv n0 : Nat} {rt : Option FieldType} {r : Option Value} {D' : Dt} {Φ : Heap → Prop} {pc : Nat} {L : List (Nat × Value)} {st : List Value} (C : Cx X cc own G l0 A0 lv n0 rt r D') {x y : Int32} {off : Int} (tgt : Nat) (hd : decode cc pc = .ok (.if_icmp .le off, 3)) (ht : (pc : Int) + off = (tgt : Int)) (kt : x ≤ y → J X Φ tgt L st) (kf : ¬ x ≤ y → J X Φ (pc + 3) L st) : J X Φ pc L (.int y :: .int x :: st) := by
  obtain ⟨p, l, e, R, s, m, args, below, meth, c, A, nL, Q, cs, sl⟩ := X
  obtain ⟨hx, hb, hml, hown, hts, hlk, hK, hG, hR, hr, hQ, hl0, hA0, hn0, hSx⟩ := C
  intro H locs ls h1 h2 h3
  exact lv_icmp_le hx hb hd ht (fun q => kt q H locs ls h1 h2 h3) (fun q => kf q H locs ls h1 h2 h3)
theorem j_goto {X : Ctx} {cc : ByteArray} {own : String} {G : Gt} {l0 : Launch} {A0 : Nat → Prop} {lv n0 : Nat} {rt : Option FieldType} {r : Option Value} {D' : Dt} {Φ : Heap → Prop} {pc : Nat} {L : List (Nat × Value)} {st : List Value} (C : Cx X cc own G l0 A0 lv n0 rt r D') {off : Int} (tgt : Nat) (hd : decode cc pc = .ok (.goto off, 3)) (ht : (pc : Int) + off = (tgt : Int)) (k : J X Φ tgt L st) : J X Φ pc L st := by
  obtain ⟨p, l, e, R, s, m, args, below, meth, c, A, nL, Q, cs, sl⟩ := X
  obtain ⟨hx, hb, hml, hown, hts, hlk, hK, hG, hR, hr, hQ, hl0, hA0, hn0, hSx⟩ := C
  intro H locs ls h1 h2 h3
  exact lv_goto hx hb hd ht (k H locs ls h1 h2 h3)
theorem j_ifnonnull {X : Ctx} {cc : ByteArray} {own : String} {G : Gt} {l0 : Launch} {A0 : Nat → Prop} {lv n0 : Nat} {rt : Option FieldType} {r : Option Value} {D' : Dt} {Φ : Heap → Prop} {pc : Nat} {L : List (Nat × Value)} {st : List Value} (C : Cx X cc own G l0 A0 lv n0 rt r D') {x : Nat} {off : Int} (tgt : Nat) (hd : decode cc pc = .ok (.ifnonnull off, 3)) (ht : (pc : Int) + off = (tgt : Int)) (k : J X Φ tgt L st) : J X Φ pc L (.ref x :: st) := by
  obtain ⟨p, l, e, R, s, m, args, below, meth, c, A, nL, Q, cs, sl⟩ := X
  obtain ⟨hx, hb, hml, hown, hts, hlk, hK, hG, hR, hr, hQ, hl0, hA0, hn0, hSx⟩ := C
  intro H locs ls h1 h2 h3
  exact lv_ifnonnull hx hb hd ht (k H locs ls h1 h2 h3)
theorem j_ifnonnullN {X : Ctx} {cc : ByteArray} {own : String} {G : Gt} {l0 : Launch} {A0 : Nat → Prop} {lv n0 : Nat} {rt : Option FieldType} {r : Option Value} {D' : Dt} {Φ : Heap → Prop} {pc : Nat} {L : List (Nat × Value)} {st : List Value} (C : Cx X cc own G l0 A0 lv n0 rt r D') {off : Int} (hd : decode cc pc = .ok (.ifnonnull off, 3)) (k : J X Φ (pc + 3) L st) : J X Φ pc L (.null :: st) := by
  obtain ⟨p, l, e, R, s, m, args, below, meth, c, A, nL, Q, cs, sl⟩ := X
  obtain ⟨hx, hb, hml, hown, hts, hlk, hK, hG, hR, hr, hQ, hl0, hA0, hn0, hSx⟩ := C
  intro H locs ls h1 h2 h3
  exact lv_ifnonnullN hx hb hd (k H locs ls h1 h2 h3)
theorem j_tabIn {X : Ctx} {cc : ByteArray} {own : String} {G : Gt} {l0 : Launch} {A0 : Nat → Prop} {lv n0 : Nat} {rt : Option FieldType} {r : Option Value} {D' : Dt} {Φ : Heap → Prop} {pc : Nat} {L : List (Nat × Value)} {st : List Value} (C : Cx X cc own G l0 A0 lv n0 rt r D') {dflt lo hi : Int} {offs : Array Int} {len : Nat} {x : Int32} (v : Int32) {off : Int} (tgt : Nat) (hd : decode cc pc = .ok (.tableswitch dflt lo hi offs, len)) (hv : x = v) (hin : lo ≤ v.toInt ∧ v.toInt ≤ hi) (ho : offs[(v.toInt - lo).toNat]? = some off) (ht : (pc : Int) + off = (tgt : Int)) (k : J X Φ tgt L st) : J X Φ pc L (.int x :: st) := by
  obtain ⟨p, l, e, R, s, m, args, below, meth, c, A, nL, Q, cs, sl⟩ := X
  obtain ⟨hx, hb, hml, hown, hts, hlk, hK, hG, hR, hr, hQ, hl0, hA0, hn0, hSx⟩ := C
  intro H locs ls h1 h2 h3
  subst hv
  exact lv_tableIn hx hb hd (by omega) (by omega) ho ht (k H locs ls h1 h2 h3)
theorem j_tabOut {X : Ctx} {cc : ByteArray} {own : String} {G : Gt} {l0 : Launch} {A0 : Nat → Prop} {lv n0 : Nat} {rt : Option FieldType} {r : Option Value} {D' : Dt} {Φ : Heap → Prop} {pc : Nat} {L : List (Nat × Value)} {st : List Value} (C : Cx X cc own G l0 A0 lv n0 rt r D') {dflt lo hi : Int} {offs : Array Int} {len : Nat} {x : Int32} (tgt : Nat) (hd : decode cc pc = .ok (.tableswitch dflt lo hi offs, len)) (hv : x.toInt < lo ∨ hi < x.toInt) (ht : (pc : Int) + dflt = (tgt : Int)) (k : J X Φ tgt L st) : J X Φ pc L (.int x :: st) := by
  obtain ⟨p, l, e, R, s, m, args, below, meth, c, A, nL, Q, cs, sl⟩ := X
  obtain ⟨hx, hb, hml, hown, hts, hlk, hK, hG, hR, hr, hQ, hl0, hA0, hn0, hSx⟩ := C
  intro H locs ls h1 h2 h3
  exact lv_tableOut hx hb hd hv ht (k H locs ls h1 h2 h3)
theorem j_look {X : Ctx} {cc : ByteArray} {own : String} {G : Gt} {l0 : Launch} {A0 : Nat → Prop} {lv n0 : Nat} {rt : Option FieldType} {r : Option Value} {D' : Dt} {Φ : Heap → Prop} {pc : Nat} {L : List (Nat × Value)} {st : List Value} (C : Cx X cc own G l0 A0 lv n0 rt r D') {dflt : Int} {ps : Array (Int × Int)} {len : Nat} {x : Int32} {off : Int} (tgt : Nat) (hd : decode cc pc = .ok (.lookupswitch dflt ps, len)) (hp : (ps.toList.zip (ps.toList.drop 1)).all (fun (a, next) => a.1 < next.1) = true) (ho : Op.lookupswitch.offset ps.toList dflt x.toInt = off) (ht : (pc : Int) + off = (tgt : Int)) (k : J X Φ tgt L st) : J X Φ pc L (.int x :: st) := by
  obtain ⟨p, l, e, R, s, m, args, below, meth, c, A, nL, Q, cs, sl⟩ := X
  obtain ⟨hx, hb, hml, hown, hts, hlk, hK, hG, hR, hr, hQ, hl0, hA0, hn0, hSx⟩ := C
  intro H locs ls h1 h2 h3
  exact lv_lookup hx hb hd hp ho ht (k H locs ls h1 h2 h3)
theorem j_ldc {X : Ctx} {cc : ByteArray} {own : String} {G : Gt} {l0 : Launch} {A0 : Nat → Prop} {lv n0 : Nat} {rt : Option FieldType} {r : Option Value} {D' : Dt} {Φ : Heap → Prop} {pc : Nat} {L : List (Nat × Value)} {st : List Value} (C : Cx X cc own G l0 A0 lv n0 rt r D') {idx : Nat} (v : Int32) (hw : Cond.constant own idx v ∈ tg) (hd : decode cc pc = .ok (.ldc idx, 2)) (k : J X Φ (pc + 2) L (.int v :: st)) : J X Φ pc L st := by
  obtain ⟨p, l, e, R, s, m, args, below, meth, c, A, nL, Q, cs, sl⟩ := X
  obtain ⟨hx, hb, hml, hown, hts, hlk, hK, hG, hR, hr, hQ, hl0, hA0, hn0, hSx⟩ := C
  intro H locs ls h1 h2 h3
  exact lv_ldc hx hb hown (hts _ hw) hd (k H locs ls h1 h2 h3)
theorem j_ldc2 {X : Ctx} {cc : ByteArray} {own : String} {G : Gt} {l0 : Launch} {A0 : Nat → Prop} {lv n0 : Nat} {rt : Option FieldType} {r : Option Value} {D' : Dt} {Φ : Heap → Prop} {pc : Nat} {L : List (Nat × Value)} {st : List Value} (C : Cx X cc own G l0 A0 lv n0 rt r D') {idx : Nat} (v : Int64) (hw : Cond.constantLong own idx v ∈ tg) (hd : decode cc pc = .ok (.ldc2_w idx, 3)) (k : J X Φ (pc + 3) L (.long v :: st)) : J X Φ pc L st := by
  obtain ⟨p, l, e, R, s, m, args, below, meth, c, A, nL, Q, cs, sl⟩ := X
  obtain ⟨hx, hb, hml, hown, hts, hlk, hK, hG, hR, hr, hQ, hl0, hA0, hn0, hSx⟩ := C
  intro H locs ls h1 h2 h3
  exact lv_ldc2 hx hb hown (hts _ hw) hd (k H locs ls h1 h2 h3)
theorem j_min {X : Ctx} {cc : ByteArray} {own : String} {G : Gt} {l0 : Launch} {A0 : Nat → Prop} {lv n0 : Nat} {rt : Option FieldType} {r : Option Value} {D' : Dt} {Φ : Heap → Prop} {pc : Nat} {L : List (Nat × Value)} {st : List Value} (C : Cx X cc own G l0 A0 lv n0 rt r D') {idx : Nat} {x y : Int32} (hw : Cond.methodLink own idx Lib.Math.min.name ∈ tg) (hlv : 1 ≤ lv) (hst : (st.map fun v => v.category).sum ≤ 8) (hd : decode cc pc = .ok (.invokestatic idx, 3)) (k : J X Φ (pc + 3) L (.int (if y < x then y else x) :: st)) : J X Φ pc L (.int y :: .int x :: st) := by
  obtain ⟨p, l, e, R, s, m, args, below, meth, c, A, nL, Q, cs, sl⟩ := X
  obtain ⟨hx, hb, hml, hown, hts, hlk, hK, hG, hR, hr, hQ, hl0, hA0, hn0, hSx⟩ := C
  intro H locs ls h1 h2 h3
  obtain ⟨hR1, hR2, hR3, hR4⟩ := hR
  exact va_mmin hx hb (hml.trans h3.1.symm) hown (hts _ hw) (hts _ tm_minS) (hts _ tm_I) (hts _ tm_minC) (by omega) (by omega) hR3 hR4 hd (k H locs ls h1 h2 h3)
theorem j_max {X : Ctx} {cc : ByteArray} {own : String} {G : Gt} {l0 : Launch} {A0 : Nat → Prop} {lv n0 : Nat} {rt : Option FieldType} {r : Option Value} {D' : Dt} {Φ : Heap → Prop} {pc : Nat} {L : List (Nat × Value)} {st : List Value} (C : Cx X cc own G l0 A0 lv n0 rt r D') {idx : Nat} {x y : Int32} (hw : Cond.methodLink own idx Lib.Math.max.name ∈ tg) (hlv : 1 ≤ lv) (hst : (st.map fun v => v.category).sum ≤ 8) (hd : decode cc pc = .ok (.invokestatic idx, 3)) (k : J X Φ (pc + 3) L (.int (if x < y then y else x) :: st)) : J X Φ pc L (.int y :: .int x :: st) := by
  obtain ⟨p, l, e, R, s, m, args, below, meth, c, A, nL, Q, cs, sl⟩ := X
  obtain ⟨hx, hb, hml, hown, hts, hlk, hK, hG, hR, hr, hQ, hl0, hA0, hn0, hSx⟩ := C
  intro H locs ls h1 h2 h3
  obtain ⟨hR1, hR2, hR3, hR4⟩ := hR
  exact va_mmax hx hb (hml.trans h3.1.symm) hown (hts _ hw) (hts _ tm_maxS) (hts _ tm_I) (hts _ tm_maxC) (by omega) (by omega) hR3 hR4 hd (k H locs ls h1 h2 h3)
