section AR
variable {X : Ctx} {cc : ByteArray} {own : String} {G : Gt} {l0 : Launch} {A0 : Nat → Prop} {lv n0 : Nat} {rt : Option FieldType} {r : Option Value} {D' : Dt} {pc : Nat} {L : List (Nat × Value)} {st : List Value} {D : Dt} {la : LA}
/-! ===== rows ===== -/
theorem j_alen (C : Cx X cc own G l0 A0 lv n0 rt r D') {tc n : Nat} (v : Int32) (hd : decode cc pc = .ok (.arraylength, 1)) (hV : V la = true) (hs : sh la = .inr (tc, n)) (htc : tc < 9) (hv : Int32.ofNat n = v)
    (kk : J X (Rep G D) (pc + 1) L (.int v :: st)) : J X (Rep G D) pc L (.ref (ad G la) :: st) := by
  obtain ⟨p, l, e, R, s, m, args, below, meth, c, A, nL, Q, cs, sl⟩ := X
  obtain ⟨hx, hb, hml, hown, hts, hlk, hK, hG, hR, hr, hQ, hl0, hA0, hn0, hSx⟩ := C
  intro H locs ls h1 h2 h3
  obtain ⟨q, hq, hw⟩ := ws_at (D := D) hG hV
  rw [cell_arr hs] at hw
  have ht : ∃ ty, (tysG G)[tc]? = some (G.2.2.1 tc, ty) := by
    match tc, htc with
    | 0, _ => exact ⟨_, rfl⟩
    | 1, _ => exact ⟨_, rfl⟩
    | 2, _ => exact ⟨_, rfl⟩
    | 3, _ => exact ⟨_, rfl⟩
    | 4, _ => exact ⟨_, rfl⟩
    | 5, _ => exact ⟨_, rfl⟩
    | 6, _ => exact ⟨_, rfl⟩
    | 7, _ => exact ⟨_, rfl⟩
    | 8, _ => exact ⟨_, rfl⟩
  obtain ⟨ty, ht⟩ := ht
  exact va_alen hx hb hK.1 h1 q tc hw ht hv hd (kk H locs ls h1 h2 h3)
theorem j_iald (C : Cx X cc own G l0 A0 lv n0 rt r D') (n : Nat) {i : Int32} (hd : decode cc pc = .ok (.iaload, 1)) (hV : V la = true) (hs : sh la = .inr (0, n)) (hin : inB i n = true)
    (kk : J X (Rep G D) (pc + 1) L (.int (D.1 la i.toNatClampNeg) :: st)) : J X (Rep G D) pc L (.int i :: .ref (ad G la) :: st) := by
  obtain ⟨p, l, e, R, s, m, args, below, meth, c, A, nL, Q, cs, sl⟩ := X
  obtain ⟨hx, hb, hml, hown, hts, hlk, hK, hG, hR, hr, hQ, hl0, hA0, hn0, hSx⟩ := C
  intro H locs ls h1 h2 h3
  obtain ⟨q, hq, hw⟩ := ws_at (D := D) hG hV
  rw [cell_arr hs] at hw
  exact va_iald hx hb hK.1 h1 q 0 hw rfl (inB_in hin) hd (kk H locs ls h1 h2 h3)
theorem j_zald (C : Cx X cc own G l0 A0 lv n0 rt r D') (n : Nat) {i : Int32} (hd : decode cc pc = .ok (.baload, 1)) (hV : V la = true) (hs : sh la = .inr (2, n)) (hin : inB i n = true)
    (kk : J X (Rep G D) (pc + 1) L (.int (D.1 la i.toNatClampNeg) :: st)) : J X (Rep G D) pc L (.int i :: .ref (ad G la) :: st) := by
  obtain ⟨p, l, e, R, s, m, args, below, meth, c, A, nL, Q, cs, sl⟩ := X
  obtain ⟨hx, hb, hml, hown, hts, hlk, hK, hG, hR, hr, hQ, hl0, hA0, hn0, hSx⟩ := C
  intro H locs ls h1 h2 h3
  obtain ⟨q, hq, hw⟩ := ws_at (D := D) hG hV
  rw [cell_arr hs] at hw
  exact va_zald hx hb hK.1 h1 q 2 hw rfl (inB_in hin) hd (kk H locs ls h1 h2 h3)
theorem j_bald (C : Cx X cc own G l0 A0 lv n0 rt r D') (n : Nat) {i : Int32} (hd : decode cc pc = .ok (.baload, 1)) (hV : V la = true) (hs : sh la = .inr (3, n)) (hin : inB i n = true)
    (kk : J X (Rep G D) (pc + 1) L (.int (D.1 la i.toNatClampNeg) :: st)) : J X (Rep G D) pc L (.int i :: .ref (ad G la) :: st) := by
  obtain ⟨p, l, e, R, s, m, args, below, meth, c, A, nL, Q, cs, sl⟩ := X
  obtain ⟨hx, hb, hml, hown, hts, hlk, hK, hG, hR, hr, hQ, hl0, hA0, hn0, hSx⟩ := C
  intro H locs ls h1 h2 h3
  obtain ⟨q, hq, hw⟩ := ws_at (D := D) hG hV
  rw [cell_arr hs] at hw
  exact va_bald hx hb hK.1 h1 q 3 hw rfl (inB_in hin) hd (kk H locs ls h1 h2 h3)
theorem j_lald (C : Cx X cc own G l0 A0 lv n0 rt r D') (n : Nat) {i : Int32} (hd : decode cc pc = .ok (.laload, 1)) (hV : V la = true) (hs : sh la = .inr (1, n)) (hin : inB i n = true)
    (kk : J X (Rep G D) (pc + 1) L (.long (D.2.1 la i.toNatClampNeg) :: st)) : J X (Rep G D) pc L (.int i :: .ref (ad G la) :: st) := by
  obtain ⟨p, l, e, R, s, m, args, below, meth, c, A, nL, Q, cs, sl⟩ := X
  obtain ⟨hx, hb, hml, hown, hts, hlk, hK, hG, hR, hr, hQ, hl0, hA0, hn0, hSx⟩ := C
  intro H locs ls h1 h2 h3
  obtain ⟨q, hq, hw⟩ := ws_at (D := D) hG hV
  rw [cell_arr hs] at hw
  exact va_lald hx hb hK.1 h1 q 1 hw rfl (inB_in hin) hd (kk H locs ls h1 h2 h3)
theorem j_iast (C : Cx X cc own G l0 A0 lv n0 rt r D') (n : Nat) {i x : Int32} (hd : decode cc pc = .ok (.iastore, 1)) (hV : V la = true) (hs : sh la = .inr (0, n)) (hin : inB i n = true)
    (kk : J X (Rep G (setI D la i.toNatClampNeg x)) (pc + 1) L st) : J X (Rep G D) pc L (.int x :: .int i :: .ref (ad G la) :: st) := by
  obtain ⟨p, l, e, R, s, m, args, below, meth, c, A, nL, Q, cs, sl⟩ := X
  obtain ⟨hx, hb, hml, hown, hts, hlk, hK, hG, hR, hr, hQ, hl0, hA0, hn0, hSx⟩ := C
  intro H locs ls h1 h2 h3
  obtain ⟨q, hq, hw⟩ := ws_at (D := D) hG hV
  rw [cell_arr hs] at hw
  have hset : (wsG G D).set q (ad G la, .inl (G.2.2.1 0, n, .inl (upd (D.1 la) i.toNatClampNeg x))) = wsG G (setI D la i.toNatClampNeg x) := ws_set hG hq (by rw [cell_arr hs]; unfold arC; rw [setI_eq]; rfl) (fun lb h => setI_cell h)
  exact va_iast hx hb hK.1 h1 (ws_D hG) h2 q 0 hw rfl (inB_in hin) hd (fun H1 locs1 hP hD hS => kk H1 locs1 ls (by rw [hset] at hP; exact hP) hS h3)
theorem j_zast (C : Cx X cc own G l0 A0 lv n0 rt r D') (n : Nat) {i x : Int32} (hd : decode cc pc = .ok (.bastore, 1)) (hV : V la = true) (hs : sh la = .inr (2, n)) (hin : inB i n = true)
    (kk : J X (Rep G (setI D la i.toNatClampNeg (vp_nar .boolean x))) (pc + 1) L st) : J X (Rep G D) pc L (.int x :: .int i :: .ref (ad G la) :: st) := by
  obtain ⟨p, l, e, R, s, m, args, below, meth, c, A, nL, Q, cs, sl⟩ := X
  obtain ⟨hx, hb, hml, hown, hts, hlk, hK, hG, hR, hr, hQ, hl0, hA0, hn0, hSx⟩ := C
  intro H locs ls h1 h2 h3
  obtain ⟨q, hq, hw⟩ := ws_at (D := D) hG hV
  rw [cell_arr hs] at hw
  have hset : (wsG G D).set q (ad G la, .inl (G.2.2.1 2, n, .inl (upd (D.1 la) i.toNatClampNeg (vp_nar .boolean x)))) = wsG G (setI D la i.toNatClampNeg (vp_nar .boolean x)) := ws_set hG hq (by rw [cell_arr hs]; unfold arC; rw [setI_eq]; rfl) (fun lb h => setI_cell h)
  exact va_zast hx hb hK.1 h1 (ws_D hG) h2 q 2 hw rfl (inB_in hin) hd (fun H1 locs1 hP hD hS => kk H1 locs1 ls (by rw [hset] at hP; exact hP) hS h3)
theorem j_bast (C : Cx X cc own G l0 A0 lv n0 rt r D') (n : Nat) {i x : Int32} (hd : decode cc pc = .ok (.bastore, 1)) (hV : V la = true) (hs : sh la = .inr (3, n)) (hin : inB i n = true)
    (kk : J X (Rep G (setI D la i.toNatClampNeg (vp_nar .byte x))) (pc + 1) L st) : J X (Rep G D) pc L (.int x :: .int i :: .ref (ad G la) :: st) := by
  obtain ⟨p, l, e, R, s, m, args, below, meth, c, A, nL, Q, cs, sl⟩ := X
  obtain ⟨hx, hb, hml, hown, hts, hlk, hK, hG, hR, hr, hQ, hl0, hA0, hn0, hSx⟩ := C
  intro H locs ls h1 h2 h3
  obtain ⟨q, hq, hw⟩ := ws_at (D := D) hG hV
  rw [cell_arr hs] at hw
  have hset : (wsG G D).set q (ad G la, .inl (G.2.2.1 3, n, .inl (upd (D.1 la) i.toNatClampNeg (vp_nar .byte x)))) = wsG G (setI D la i.toNatClampNeg (vp_nar .byte x)) := ws_set hG hq (by rw [cell_arr hs]; unfold arC; rw [setI_eq]; rfl) (fun lb h => setI_cell h)
  exact va_bast hx hb hK.1 h1 (ws_D hG) h2 q 3 hw rfl (inB_in hin) hd (fun H1 locs1 hP hD hS => kk H1 locs1 ls (by rw [hset] at hP; exact hP) hS h3)
theorem j_last (C : Cx X cc own G l0 A0 lv n0 rt r D') (n : Nat) {i : Int32} {x : Int64} (hd : decode cc pc = .ok (.lastore, 1)) (hV : V la = true) (hs : sh la = .inr (1, n)) (hin : inB i n = true)
    (kk : J X (Rep G (setL D la i.toNatClampNeg x)) (pc + 1) L st) : J X (Rep G D) pc L (.long x :: .int i :: .ref (ad G la) :: st) := by
  obtain ⟨p, l, e, R, s, m, args, below, meth, c, A, nL, Q, cs, sl⟩ := X
  obtain ⟨hx, hb, hml, hown, hts, hlk, hK, hG, hR, hr, hQ, hl0, hA0, hn0, hSx⟩ := C
  intro H locs ls h1 h2 h3
  obtain ⟨q, hq, hw⟩ := ws_at (D := D) hG hV
  rw [cell_arr hs] at hw
  have hset : (wsG G D).set q (ad G la, .inl (G.2.2.1 1, n, .inr (.inl (vp_updL (D.2.1 la) i.toNatClampNeg x)))) = wsG G (setL D la i.toNatClampNeg x) := ws_set hG hq (by rw [cell_arr hs]; unfold arC; rw [setL_eq]; rfl) (fun lb h => setL_cell h)
  exact va_last hx hb hK.1 h1 (ws_D hG) h2 q 1 hw rfl (inB_in hin) hd (fun H1 locs1 hP hD hS => kk H1 locs1 ls (by rw [hset] at hP; exact hP) hS h3)
theorem j_aald (C : Cx X cc own G l0 A0 lv n0 rt r D') (tc n : Nat) {i : Int32} (lb : LA) (hd : decode cc pc = .ok (.aaload, 1)) (hV : V la = true) (hs : sh la = .inr (tc, n)) (htc : tc = 5 ∨ tc = 6 ∨ tc = 7 ∨ tc = 8) (hin : inB i n = true) (hb2 : sr la i.toNatClampNeg = lb)
    (kk : J X (Rep G D) (pc + 1) L (.ref (ad G lb) :: st)) : J X (Rep G D) pc L (.int i :: .ref (ad G la) :: st) := by
  obtain ⟨p, l, e, R, s, m, args, below, meth, c, A, nL, Q, cs, sl⟩ := X
  obtain ⟨hx, hb, hml, hown, hts, hlk, hK, hG, hR, hr, hQ, hl0, hA0, hn0, hSx⟩ := C
  intro H locs ls h1 h2 h3
  subst hb2
  obtain ⟨q, hq, hw⟩ := ws_at (D := D) hG hV
  rw [cell_arr hs] at hw
  have hin := inB_in hin
  have hlt : i.toNatClampNeg < n := Nat.not_le.mp fun q => hin (Or.inr q)
  rcases htc with rfl | rfl | rfl | rfl
  · exact va_aldq hx hb hK.1 h1 q 5 hw rfl hin hd (kk H locs ls h1 h2 h3)
  · exact va_aldq hx hb hK.1 h1 q 6 hw rfl hin hd (kk H locs ls h1 h2 h3)
  · have ha : (wsG G D)[q]? = some (ad G la, .inl (G.2.2.1 7, n, .inr (.inr (.inr (.inr (fun j => some (ad G (sr la j)))))))) := hw
    exact W.aald (v := va_rf (some (ad G (sr la i.toNatClampNeg)))) (ty := .array .int) hx hb (h1 q _ ha) ((hK.1.2 7 _ rfl).1 n (fun j => va_rf (some (ad G (sr la j))))) rfl (fun q => by cases q) (by show ¬ (i < 0 ∨ (arrV _ _ _).slots.size ≤ _); rw [arrV_size]; exact hin) (by show (arrV _ _ _).slots[_]? = _; rw [arrV_read _ _ hlt]) rfl rfl hd (kk H locs ls h1 h2 h3)
  · exact va_aldq hx hb hK.1 h1 q 8 hw rfl hin hd (kk H locs ls h1 h2 h3)
theorem j_aaldD (C : Cx X cc own G l0 A0 lv n0 rt r D') (n : Nat) {i : Int32} (hd : decode cc pc = .ok (.aaload, 1)) (hV : V la = true) (hs : sh la = .inr (4, n)) (h6 : ∀ k, dk la k = 6) (hin : inB i n = true)
    (kk : J X (Rep G D) (pc + 1) L (va_rf ((D.2.2 la i.toNatClampNeg).map (fun n => ad G (6, n, 0, 0))) :: st)) : J X (Rep G D) pc L (.int i :: .ref (ad G la) :: st) := by
  obtain ⟨p, l, e, R, s, m, args, below, meth, c, A, nL, Q, cs, sl⟩ := X
  obtain ⟨hx, hb, hml, hown, hts, hlk, hK, hG, hR, hr, hQ, hl0, hA0, hn0, hSx⟩ := C
  intro H locs ls h1 h2 h3
  obtain ⟨q, hq, hw⟩ := ws_at (D := D) hG hV
  rw [cell_arr hs] at hw
  have kk := kk H locs ls h1 h2 h3
  rw [← h6 i.toNatClampNeg] at kk
  exact va_aldq hx hb hK.1 h1 q 4 hw rfl (inB_in hin) hd kk
theorem setR_up {k : Nat} {v : Option Nat} : (setR D la k v).2.2 la = va_up (D.2.2 la) k v := by
  funext j
  simp [setR, va_up]
theorem j_aast (C : Cx X cc own G l0 A0 lv n0 rt r D') (n : Nat) {i : Int32} {x : Nat} (hd : decode cc pc = .ok (.aastore, 1)) (hV : V la = true) (hs : sh la = .inr (4, n)) (h6 : ∀ k, dk la k = 6) (hin : inB i n = true) (hx6 : V (6, x, 0, 0) = true)
    (kk : J X (Rep G (setR D la i.toNatClampNeg (some x))) (pc + 1) L st) : J X (Rep G D) pc L (.ref (ad G (6, x, 0, 0)) :: .int i :: .ref (ad G la) :: st) := by
  obtain ⟨p, l, e, R, s, m, args, below, meth, c, A, nL, Q, cs, sl⟩ := X
  obtain ⟨hx, hb, hml, hown, hts, hlk, hK, hG, hR, hr, hQ, hl0, hA0, hn0, hSx⟩ := C
  intro H locs ls h1 h2 h3
  obtain ⟨q, hq, hw⟩ := ws_at (D := D) hG hV
  obtain ⟨q2, hq2, hw2⟩ := ws_at (D := D) hG hx6
  rw [cell_arr hs] at hw
  have hw : (wsG G D)[q]? = some (ad G la, .inl (G.2.2.1 4, n, .inr (.inr (.inr (.inr (fun j => (D.2.2 la j).map (fun n => ad G (6, n, 0, 0)))))))) := by
    rw [hw]
    simp only [arC, h6]
  rw [cell_obj rfl] at hw2
  have hset : (wsG G D).set q (ad G la, .inl (G.2.2.1 4, n, .inr (.inr (.inr (.inr (va_up (fun j => (D.2.2 la j).map (fun n => ad G (6, n, 0, 0))) i.toNatClampNeg (some (ad G (6, x, 0, 0))))))))) = wsG G (setR D la i.toNatClampNeg (some x)) := by
    refine ws_set hG hq ?_ (fun lb h => setR_cell h)
    rw [cell_arr hs]
    simp only [arC, h6, setR_up]
    congr 7
    funext j
    by_cases hj : j = i.toNatClampNeg
    · simp [va_up, hj]
    · simp [va_up, hj]
  exact va_astq (r := (RX6, TX6, 8)) hx hb hK.1 h1 (ws_D hG) h2 q 4 q2 6 hw rfl hw2 rfl (inB_in hin) hd (fun H1 locs1 hP hD hS => kk H1 locs1 ls (by rw [hset] at hP; exact hP) hS h3)
theorem j_some {G : Gt} {Φ : Heap → Prop} {cj x : Nat} {o : Option Nat} (ho : o = some x) (k : J X Φ pc L (.ref (ad G (cj, x, 0, 0)) :: st)) : J X Φ pc L (va_rf (o.map (fun n => ad G (cj, n, 0, 0))) :: st) := by
  subst ho
  exact k
end AR
/-! ===== answers ===== -/
section RET
variable {X : Ctx} {cc : ByteArray} {own : String} {G : Gt} {l0 : Launch} {A0 : Nat → Prop} {lv n0 : Nat} {D' : Dt} {pc : Nat} {L : List (Nat × Value)} {D : Dt}
theorem j_iret {v : Int32} (C : Cx X cc own G l0 A0 lv n0 (some .int) (some (.int v)) D) (hd : decode cc pc = .ok (.ireturn, 1)) : J X (Rep G D) pc L [.int v] := by
  obtain ⟨p, l, e, R, s, m, args, below, meth, c, A, nL, Q, cs, sl⟩ := X
  obtain ⟨hx, hb, hml, hown, hts, hlk, hK, hG, hR, hr, hQ, hl0, hA0, hn0, hSx⟩ := C
  intro H locs ls h1 h2 h3
  have hQ := hQ rfl
  subst hQ
  exact W.iret hx hb hr (fun t ht hW => ⟨rfl, by rw [ht]; exact h1, hK.warm hW, by rw [ht]; exact hSx.warm hW h2, h2.F ht⟩) h2.2.2 hd hlk
theorem j_zret {v : Int32} (C : Cx X cc own G l0 A0 lv n0 (some .boolean) (some (.int v)) D) (hv : v = 0 ∨ v = 1) (hd : decode cc pc = .ok (.ireturn, 1)) : J X (Rep G D) pc L [.int v] := by
  obtain ⟨p, l, e, R, s, m, args, below, meth, c, A, nL, Q, cs, sl⟩ := X
  obtain ⟨hx, hb, hml, hown, hts, hlk, hK, hG, hR, hr, hQ, hl0, hA0, hn0, hSx⟩ := C
  intro H locs ls h1 h2 h3
  have hQ := hQ rfl
  subst hQ
  exact W.zret hx hb hr (nar_z hv).1 (fun t ht hW => ⟨rfl, by rw [ht]; exact h1, hK.warm hW, by rw [ht]; exact hSx.warm hW h2, h2.F ht⟩) h2.2.2 hd hlk
theorem j_lret {v : Int64} (C : Cx X cc own G l0 A0 lv n0 (some .long) (some (.long v)) D) (hd : decode cc pc = .ok (.lreturn, 1)) : J X (Rep G D) pc L [.long v] := by
  obtain ⟨p, l, e, R, s, m, args, below, meth, c, A, nL, Q, cs, sl⟩ := X
  obtain ⟨hx, hb, hml, hown, hts, hlk, hK, hG, hR, hr, hQ, hl0, hA0, hn0, hSx⟩ := C
  intro H locs ls h1 h2 h3
  have hQ := hQ rfl
  subst hQ
  exact W.lret hx hb hr (fun t ht hW => ⟨rfl, by rw [ht]; exact h1, hK.warm hW, by rw [ht]; exact hSx.warm hW h2, h2.F ht⟩) h2.2.2 hd hlk
theorem j_vret (C : Cx X cc own G l0 A0 lv n0 none none D) (hd : decode cc pc = .ok (.return_, 1)) : J X (Rep G D) pc L [] := by
  obtain ⟨p, l, e, R, s, m, args, below, meth, c, A, nL, Q, cs, sl⟩ := X
  obtain ⟨hx, hb, hml, hown, hts, hlk, hK, hG, hR, hr, hQ, hl0, hA0, hn0, hSx⟩ := C
  intro H locs ls h1 h2 h3
  have hQ := hQ rfl
  subst hQ
  exact W.vret hx hb hr (fun t ht hW => ⟨rfl, by rw [ht]; exact h1, hK.warm hW, by rw [ht]; exact hSx.warm hW h2, h2.F ht⟩) h2.2.2 hd hlk
theorem j_aret {nm : String} {v : Value} (C : Cx X cc own G l0 A0 lv n0 (some (.object nm)) (some v) D) (hv : v = .null ∨ ∃ a, v = .ref a) (hd : decode cc pc = .ok (.areturn, 1)) : J X (Rep G D) pc L [v] := by
  obtain ⟨p, l, e, R, s, m, args, below, meth, c, A, nL, Q, cs, sl⟩ := X
  obtain ⟨hx, hb, hml, hown, hts, hlk, hK, hG, hR, hr, hQ, hl0, hA0, hn0, hSx⟩ := C
  intro H locs ls h1 h2 h3
  have hQ := hQ rfl
  subst hQ
  exact W.aret hx hb hr (Or.inl ⟨_, rfl⟩) hv (fun t ht hW => ⟨rfl, by rw [ht]; exact h1, hK.warm hW, by rw [ht]; exact hSx.warm hW h2, h2.F ht⟩) h2.2.2 hd hlk
end RET
/-! ===== calls ===== -/
theorem gi_ws {y : MethodName} {bytes : ByteArray} {maxL : Nat} {ret : Option FieldType} {pre : List Cond} (hc : Cond.code y bytes maxL ret ∈ tg) (hp : ∀ w ∈ pre, w ∈ tg) : GoodIn tg (pre ++ wsO y bytes maxL ret) := by
  intro w hw
  have h : w ∈ tg := by
    rcases List.mem_append.mp hw with h | h
    · exact hp w h
    · rcases List.mem_cons.mp h with h | h
      · rw [h]; exact hc
      · exact h
  exact ⟨h, tg_good w h⟩
section CALL
variable {p : Program} {l : Launch} {e : Env} {R : Room} {s : State} {m : MethodId} {args : Array Value} {below : List Frame} {meth : Method} {c : Code} {H : Heap} {locs : List Loc} {Q : State → Prop}
theorem run_W {cs sl : Nat} {G : Gt} {A : Nat → Prop} {pc : Nat} {ls : Array Slot} {st0 rest : List Value} {r1 : Option Value} {D1 : Dt} {a : Array Value} (hr : va_Run p l e R s m args below meth c H locs cs sl 0 0 (F0 m pc ls st0) rest (QcD G A r1 D1 a) A) (hS : va_S A s.heap H locs)
    (kk : ∀ (H1 : Heap) (locs1 : List Loc), Rep G D1 H1 → va_S A s.heap H1 locs1 → W p l e R s m args below meth c H1 locs1 cs sl Q (F0 m (pc + 3) ls (r1.toList ++ rest))) : W p l e R s m args below meth c H locs cs sl Q (F0 m pc ls st0) := by
  intro T hT Xs
  obtain ⟨v, st₀, t, T', L, h0, X', hL, e1, e2, ⟨hv, hP, hK, -, hz, hk⟩, st⟩ := hr T hT Xs
  cases hv
  rw [h0] at hz hk
  obtain ⟨t2, a1, b1⟩ := kk T'.heap (locs ++ L) (by rw [e1]; exact hP) ⟨Nat.le_trans hS.1 (by rw [e1]; exact hz), fun q h1 h2 => by rw [e1, hk q (Nat.lt_of_lt_of_le h1 hS.1) h2]; exact hS.2.1 q h1 h2, fun q hq => by
      rcases List.mem_append.mp hq with h | h
      · exact hS.2.2 q h
      · exact hL q h⟩ T' rfl X'
  exact ⟨t2, st t2 a1, b1⟩
end CALL
section CALL2
variable {X : Ctx} {cc : ByteArray} {own : String} {G : Gt} {l0 : Launch} {A0 : Nat → Prop} {lv n0 : Nat} {rt : Option FieldType} {r : Option Value} {D' : Dt} {pc : Nat} {L : List (Nat × Value)} {st : List Value} {D : Dt} {la : LA}
theorem blindD {G : Gt} {A : Nat → Prop} {av : List Value} {D : Dt} : FrameBlind (va_Pc av (fun U => Rep G D U.heap ∧ Kx G U ∧ Sx G A U U.heap)) := fun a U g mk q => ⟨q.1, q.2.1, Kx.same (u := U) (U := U.calling g mk a) rfl q.2.2.1, Sx.same (u := U) (U := U.calling g mk a) rfl q.2.2.2⟩
theorem j_callV (C : Cx X cc own G l0 A0 lv n0 rt r D') {idx ci maxL n lv' : Nat} {y : MethodName} {bytes : ByteArray} {ret : Option FieldType} {r1 : Option Value} {D1 : Dt} (As rest : List Value) (K : CV own idx y ci bytes maxL ret n) (hM : MD l0 G A0 lv' y bytes maxL ret (.ref (ad G la) :: As) D r1 D1) (hlv : lv' + 1 ≤ lv) (hd : decode cc pc = .ok (.invokevirtual idx, 3)) (hV : V la = true) (h0 : la.1 = ci ∧ la.2.2.1 = 0) (hn : As.length = n) (hs : st = As.reverse ++ .ref (ad G la) :: rest) (hst : (rest.map fun v => v.category).sum ≤ 8)
    (kk : J X (Rep G D1) (pc + 3) L (r1.toList ++ rest)) : J X (Rep G D) pc L st := by
  obtain ⟨p, l, e, R, s, m, args, below, meth, c, A, nL, Q, cs, sl⟩ := X
  obtain ⟨hx, hb, hml, hown, hts, hlk, hK, hG, hR, hr, hQ, hl0, hA0, hn0, hSx⟩ := C
  intro H locs ls h1 h2 h3
  subst hl0; subst hA0; subst hn0; obtain ⟨hR1, hR2, hR3, hR4⟩ := hR
  obtain ⟨hlink, hin, hsel, hini, hcode, hyc, hd2, hci, hmax⟩ := K
  obtain ⟨q, hq, hw⟩ := ws_at (D := D) hG hV
  rw [cell_obj h0.2, h0.1] at hw
  have hpre : PreV s H (cR ci) (ad G la) (va_Pc (.ref (ad G la) :: As) (fun U => Rep G D U.heap ∧ Kx G U ∧ Sx G A U U.heap)) As := ⟨blindD, va_recv hK.1 h1 (cls_cl ci hci) hw, fun U hU hW => ⟨rfl, by rw [hU]; exact h1, hK.warm hW, by rw [hU]; exact hSx.warm hW h2⟩⟩
  have hroom : (rmL lv').frames + 1 ≤ R.frames ∧ 8 + (maxL + 11) + (rmL lv').locals ≤ R.locals := by simp only [rmL]; omega
  have S : CallFix p m c cc nL s args tg own := ⟨hx, hb, hml, hown, hts⟩
  subst hs
  rcases hlink with hlink | ⟨host, hlink⟩
  · exact run_W (va_runV S hM (cwV n hts (gi_ws hcode (by
      intro w hw
      simp only [List.mem_cons, List.not_mem_nil, or_false] at hw
      rcases hw with rfl | rfl | rfl | rfl
      · exact hlink
      · exact hin
      · exact hsel
      · exact hini)) rfl rfl rfl ⟨hyc, hd2⟩ hroom) hpre rfl hn h3.1 rfl (lv_room hst) hd ⟨hR3, hR4⟩) h2 (fun H1 locs1 hP hS => kk H1 locs1 ls hP hS h3)
  · exact run_W (va_runVN S hM ⟨va_cnB n hts (gi_ws (pre := []) hcode (fun w h => by cases h)) rfl rfl rfl (hK.2 _ hlink) (by rw [hyc]; exact hts _ hini) hd2 hroom, hts _ hin, hts _ hsel⟩ hpre rfl hn h3.1 rfl (lv_room hst) hd ⟨hR3, hR4⟩) h2 (fun H1 locs1 hP hS => kk H1 locs1 ls hP hS h3)
theorem j_callS (C : Cx X cc own G l0 A0 lv n0 rt r D') {idx maxL n lv' : Nat} {y : MethodName} {bytes : ByteArray} {ret : Option FieldType} {r1 : Option Value} {D1 : Dt} (As rest : List Value) (K : CS own idx y bytes maxL ret n) (hM : MD l0 G A0 lv' y bytes maxL ret As D r1 D1) (hlv : lv' + 1 ≤ lv) (hd : decode cc pc = .ok (.invokestatic idx, 3)) (hn : As.length = n) (hs : st = As.reverse ++ rest) (hst : (rest.map fun v => v.category).sum ≤ 8)
    (kk : J X (Rep G D1) (pc + 3) L (r1.toList ++ rest)) : J X (Rep G D) pc L st := by
  obtain ⟨p, l, e, R, s, m, args, below, meth, c, A, nL, Q, cs, sl⟩ := X
  obtain ⟨hx, hb, hml, hown, hts, hlk, hK, hG, hR, hr, hQ, hl0, hA0, hn0, hSx⟩ := C
  intro H locs ls h1 h2 h3
  subst hl0; subst hA0; subst hn0; obtain ⟨hR1, hR2, hR3, hR4⟩ := hR
  obtain ⟨hlink, hstat, hini, hcode, hd2, hmax⟩ := K
  have hpre : PreS s H (va_Pc As (fun U => Rep G D U.heap ∧ Kx G U ∧ Sx G A U U.heap)) As := ⟨blindD, fun U hU hW => ⟨rfl, by rw [hU]; exact h1, hK.warm hW, by rw [hU]; exact hSx.warm hW h2⟩⟩
  have hroom : (rmL lv').frames + 1 ≤ R.frames ∧ 8 + (maxL + 11) + (rmL lv').locals ≤ R.locals := by simp only [rmL]; omega
  have S : CallFix p m c cc nL s args tg own := ⟨hx, hb, hml, hown, hts⟩
  subst hs
  rcases hlink with hlink | ⟨host, hlink⟩
  · exact run_W (va_runS S hM (va_cwS n hts (gi_ws hcode (by
      intro w hw
      simp only [List.mem_cons, List.not_mem_nil, or_false] at hw
      rcases hw with rfl | rfl | rfl
      · exact hlink
      · exact hstat
      · exact hini)) rfl rfl rfl hd2 hroom) hpre rfl hn h3.1 rfl (lv_room hst) hd ⟨hR3, hR4⟩) h2 (fun H1 locs1 hP hS => kk H1 locs1 ls hP hS h3)
  · exact run_W (va_runSN S hM ⟨va_cnB n hts (gi_ws (pre := []) hcode (fun w h => by cases h)) rfl rfl rfl (hK.2 _ hlink) (hts _ hini) hd2 hroom, hts _ hstat, trivial⟩ hpre rfl hn h3.1 rfl (lv_room hst) hd ⟨hR3, hR4⟩) h2 (fun H1 locs1 hP hS => kk H1 locs1 ls hP hS h3)
end CALL2
