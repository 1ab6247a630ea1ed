/-! ===== what is asked: WEEKS on rows of one's own ===== -/
theorem wB1_se {c : Cf} {a : Nat} {x y : Wq} (h1 : x.1 = y.1) (h2 : x.2.1 = y.2.1) (h3 : x.2.2.1 = y.2.2.1) : (wB1 c a x).1 = (wB1 c a y).1 ∧ (wB1 c a x).2.1 = (wB1 c a y).2.1 ∧ (wB1 c a x).2.2.1 = (wB1 c a y).2.2.1 := by
  unfold wB1
  rw [h1, h2, h3]
  split
  · exact ⟨rfl, rfl, rfl⟩
  · exact ⟨rfl, rfl, rfl⟩
theorem itB_se {c : Cf} {x y : Wq} (h1 : x.1 = y.1) (h2 : x.2.1 = y.2.1) (h3 : x.2.2.1 = y.2.2.1) : ∀ n, (itr (wB1 c) n x).1 = (itr (wB1 c) n y).1 ∧ (itr (wB1 c) n x).2.1 = (itr (wB1 c) n y).2.1 ∧ (itr (wB1 c) n x).2.2.1 = (itr (wB1 c) n y).2.2.1
  | 0 => ⟨h1, h2, h3⟩
  | n + 1 => by
    obtain ⟨g1, g2, g3⟩ := itB_se h1 h2 h3 n
    exact wB1_se g1 g2 g3
theorem pWk_se {c : Cf} {m : Bool} {s : St} {se se' : Int32} : (pWk c m s se).1 = (pWk c m s se').1 ∧ (pWk c m s se).2.1 = (pWk c m s se').2.1 ∧ (pWk c m s se).2.2.1 = (pWk c m s se').2.2.1 := by
  obtain ⟨g1, g2, g3⟩ := itB_se (c := c) (x := (wkA c s, 0, m, se)) (y := (wkA c s, 0, m, se')) rfl rfl rfl (cfN c)
  refine ⟨?_, g2, g3⟩
  show up (wkC c (itr (wB1 c) (cfN c) (wkA c s, 0, m, se)).1) 5 1 _ = up (wkC c (itr (wB1 c) (cfN c) (wkA c s, 0, m, se')).1) 5 1 _
  rw [show (wkB c (wkA c s, 0, m, se)).1 = (wkB c (wkA c s, 0, m, se')).1 from g1, g1]
theorem pkM_no {c : Cf} {m : Bool} {s : St} {a : Nat} (h : cfC c = -1) (ha : a < 2147483648) : pkM c m s a = m := by
  rw [pkM, if_neg]
  rintro ⟨e, _⟩
  rw [h] at e
  exact nI_nem1 ha e
theorem itB_m {c : Cf} {x : Wq} (h : cfC c = -1) : ∀ n, n < 2147483648 → (itr (wB1 c) n x).2.2.1 = x.2.2.1
  | 0, _ => rfl
  | n + 1, hn => by
    rw [itr]
    have ih := itB_m (x := x) h n (by omega)
    generalize itr (wB1 c) n x = y at ih ⊢
    have : (wB1 c n y).2.2.1 = pkM c y.2.2.1 y.1 n := by unfold wB1; split <;> rfl
    rw [this, pkM_no h (by omega), ih]
theorem pWk_m {c : Cf} {m : Bool} {s : St} {se : Int32} (h : cfC c = -1) (hn : cfN c ≤ 5) : (pWk c m s se).2.2.1 = m := itB_m (x := (wkA c s, 0, m, se)) h (cfN c) (by omega)
theorem wB1_wk {c : Cf} {a : Nat} {x : Wq} : (wB1 c a x).1 5 1 = x.1 5 1 := by
  unfold wB1
  split
  · show up x.1 4 a (-1) 5 1 = _
    rw [up_n (by omega)]
  · show pBuy (up x.1 4 a (pkP c x.2.2.1 x.1 a)) a (pkP c x.2.2.1 x.1 a).toNatClampNeg 5 1 = _
    rw [wk_buy, up_n (by omega)]
theorem itB_wk {c : Cf} {x : Wq} : ∀ n, (itr (wB1 c) n x).1 5 1 = x.1 5 1
  | 0 => rfl
  | n + 1 => by rw [itr, wB1_wk, itB_wk n]
theorem itC_wk {c : Cf} {s : St} : ∀ n, itr (wC1 c) n s 5 1 = s 5 1
  | 0 => rfl
  | n + 1 => by rw [itr, wC1, up_n (by omega), wk_harv, itC_wk n]
theorem pWk_wk {c : Cf} {m : Bool} {s : St} {se : Int32} : (pWk c m s se).1 5 1 = s 5 1 + 1 := by
  show up (wkC c (wkB c (wkA c s, 0, m, se)).1) 5 1 (wkC c (wkB c (wkA c s, 0, m, se)).1 5 1 + 1) 5 1 = _
  rw [up_s]
  congr 1
  unfold wkC wkB wkA
  rw [itC_wk, itB_wk]
  exact itrA_wk _
def wS (c : Cf) (s : St) : St := (pWk c false s 0).1
def wN (c : Cf) (s : St) : Int32 := (pWk c false s 0).2.1
def sI (c : Cf) (n : Nat) (s : St) : St := itr (fun _ => wS c) n s
theorem sI_s {c : Cf} {n : Nat} {s : St} : sI c (n + 1) s = wS c (sI c n s) := rfl
theorem sI_f {c : Cf} {s : St} : ∀ n, sI c (n + 1) s = sI c n (wS c s)
  | 0 => rfl
  | n + 1 => by rw [sI_s, sI_f n]; rfl
theorem wS_wk {c : Cf} {s : St} {w : Nat} (h : s 5 1 = nI w) : wS c s 5 1 = nI (w + 1) := by rw [wS, pWk_wk, h, nI_1]
theorem sI_wk {c : Cf} {s : St} {w : Nat} (h : s 5 1 = nI w) : ∀ n, sI c n s 5 1 = nI (w + n)
  | 0 => h
  | n + 1 => by rw [sI_s, wS_wk (sI_wk h n)]; rfl
theorem Gd.wS {c : Cf} {s : St} (hc : CfOk c) (h : Gd (cfN c) s) : Gd (cfN c) (wS c s) := h.wk hc
theorem Gd.sI {c : Cf} {s : St} (hc : CfOk c) (h : Gd (cfN c) s) : ∀ n, Gd (cfN c) (sI c n s)
  | 0 => h
  | n + 1 => (Gd.sI hc h n).wS hc
def ruN (A : Al) (f : Int32) : Option Rl := if f = -1 then none else some (alR A f.toNatClampNeg)
def cfX (A : Al) (f h i c o : Int32) : Cf := (shN (woH (alW A)), (woH (alW A)).2.2.1, shTl (woH (alW A)), ruN A f, h, i, c, o)
def cf0 (A : Al) : Cf := cfX A (woC (alW A)) 0 0 (-1) (-1)
theorem cfX_ok {A : Al} {f h i c o : Int32} (hA : okA A) : CfOk (cfX A f h i c o) := ⟨hA.1.1, hA.1.2.1, hA.1.2.2.1⟩
/-- a RULE's number, or none -/
def isF (A : Al) (f : Int32) : Prop := f = -1 ∨ ∃ r, r < alN A ∧ f = nI r
def ru2 (f : Int32) : Option Nat := if f = -1 then none else some f.toNatClampNeg
theorem c_ruleOf {A : Al} {f : Int32} {D : Dt} (hA : okA A) (hf : isF A f) : F_X10_ruleOf f D = some (ru2 f, D) := by
  have hN := hA.2.2.1
  rw [F_X10_ruleOf, c_within, cbd_s]
  rcases hf with rfl | ⟨r, hr, rfl⟩
  · rw [i1f (by decide)]
    rfl
  · rw [i1t (show (0 : Int32) ≤ nI r ∧ nI r ≤ 6 - 1 from ⟨nI_pos' (by omega), nI_le (b := 5) (by omega) (by decide)⟩), grd_t (inBe (by omega) (by decide)), ru2, if_neg (nI_nem1 (by omega))]
def qS : LA → Nat → Bool := fun la _ => la.1 == 8 || la.1 == 1 || (la.1 == 6 && decide (105 ≤ la.2.1)) || (la.1 == 3 && la.2.2.1 == 8)
theorem qS_W {D D' : Dt} (h : Sm qS D D') : Sm cW D D' := cW_of h (fun la k e => by
  simp only [cW, qS, Bool.or_eq_false_iff] at e ⊢
  exact ⟨⟨⟨e.1.1.1.1.1.1.2, e.1.1.1.1.1.2⟩, e.1.1.1.1.2⟩, e.1.1.1.2⟩)
theorem RC.scr {D D' : Dt} {A : Al} (h : RC D A) (s : Sm qS D D') : RC D' A := by
  have := h.setW (qS_W s) (W' := alW A) (h.1.sm s (fun la k e => by
    simp only [wcl, qS, Bool.or_eq_true, Bool.and_eq_true, beq_iff_eq, decide_eq_true_eq, Bool.or_eq_false_iff, Bool.and_eq_false_iff, decide_eq_false_iff_not, beq_eq_false_iff_ne] at e ⊢
    omega))
  exact this
theorem fo_W {q : Nat} {D D' : Dt} (s : Sm (fun la _ => la == (8, q, 0, 0)) D D') : Sm qS D D' := s.mono (fun la k e => by
  rw [beq_eq_false_iff_ne]
  rintro rfl
  simp [qS] at e)
theorem RC.cfc {D : Dt} {A : Al} {q : Nat} {f h i c o : Int32} (r : RC D A) (hA : okA A) (ht : (woH (alW A)).1 = true) (hf : isF A f) (h0 : D.2.2 (8, q, 0, 0) 0 = some 0) (h1 : D.2.2 (8, q, 0, 0) 1 = ru2 f) (h2 : D.1 (8, q, 0, 0) 2 = h) (h3 : D.1 (8, q, 0, 0) 3 = i) (h4 : D.1 (8, q, 0, 0) 4 = c) (h5 : D.1 (8, q, 0, 0) 5 = o) : CfC D q (cfX A f h i c o) := by
  obtain ⟨a1, a2, a3, a4, a5, a6, a7⟩ := r.1.1
  have hN := hA.2.2.1
  refine ⟨0, h0, V5 (by decide), hA.1.1, a4, a3, fun k v hk hv => ⟨a6 k v hk hv, a7 ht k v hk hv⟩, ?_, h2, h3, h4, h5⟩
  rcases hf with rfl | ⟨x, hx, rfl⟩
  · exact Or.inl ⟨rfl, h1⟩
  · have hne := nI_nem1 (show x < 2147483648 by omega)
    refine Or.inr ⟨x, alR A x, ?_, ?_, ?_, hA.2.2.2.1 x hx, r.2.2.2.2.2.1 x hx⟩
    · show ruN A (nI x) = _
      rw [ruN, if_neg hne, nIc (by omega)]
    · rw [h1, ru2, if_neg hne, nIc (by omega)]
    · have hx6 : x < 6 := by omega
      simp [V, nO, hx6]
theorem c_follow {D : Dt} {A : Al} {q : Nat} {f : Int32} (hq : V (8, q, 0, 0) = true) (r : RC D A) (hA : okA A) (ht : (woH (alW A)).1 = true) (hf : isF A f) : ∃ D', F_X8_follow q 0 (ru2 f) D = some D' ∧ CfC D' q (cfX A f 0 0 (-1) (-1)) ∧ D'.1 (8, q, 0, 0) 6 = 0 ∧ D'.1 (8, q, 0, 0) 7 = 0 ∧ Sm (fun la _ => la == (8, q, 0, 0)) D D' := by
  rw [F_X8_follow, grd_t hq, grd_t (V5 (by decide))]
  simp only [bnd_e]
  generalize hE : setI (setI (setI (setI (setI (setI (setR (setR D (8, q, 0, 0) 0 (some 0)) (8, q, 0, 0) 1 (ru2 f)) (8, q, 0, 0) 2 0) (8, q, 0, 0) 3 0) (8, q, 0, 0) 4 (-1)) (8, q, 0, 0) 5 (-1)) (8, q, 0, 0) 6 0) (8, q, 0, 0) 7 0 = E
  have s : Sm (fun la _ => la == (8, q, 0, 0)) D E := by
    rw [← hE]
    exact (((((((Sm.sR (by simp)).trans (Sm.sR (by simp))).trans (Sm.sI (by simp))).trans (Sm.sI (by simp))).trans (Sm.sI (by simp))).trans (Sm.sI (by simp))).trans (Sm.sI (by simp))).trans (Sm.sI (by simp))
  refine ⟨E, rfl, (r.scr (fo_W s)).cfc hA ht hf ?_ ?_ ?_ ?_ ?_ ?_, ?_, ?_, s⟩ <;> (rw [← hE]; simp [gI, setI, setR])
/-- asking: what stands on State i -/
def QC (A : Al) (D : Dt) (c : Cf) (i : Nat) (s : St) : Prop := RC D A ∧ CfC D 1 c ∧ D.1 (8, 1, 0, 0) 6 = 0 ∧ rdS D i = s
theorem V81 : V (8, 1, 0, 0) = true := by decide
theorem we_q {i : Nat} (hi : 105 ≤ i) {D D' : Dt} (s : Sm (weS 1 i) D D') : Sm qS D D' := s.mono (fun la k e => by
  simp only [weS, qS, Bool.or_eq_false_iff, Bool.and_eq_false_iff, decide_eq_false_iff_not, beq_eq_false_iff_ne] at e ⊢
  omega)
theorem st_q {i : Nat} (hi : 105 ≤ i) {D D' : Dt} (s : Sm (stS i) D D') : Sm qS D D' := we_q hi (stS_we s)
theorem qc_pass {A : Al} {D : Dt} {c : Cf} {i w : Nat} {s : St} (hi : 105 ≤ i) (hi2 : i < 111) (h : QC A D c i s) (hch : cfC c = -1) (hw : s 5 1 = nI w) (hw2 : w < 100000) : ∃ D', F_X8_pass 1 i D = some (wN c s, D') ∧ QC A D' c i (wS c s) ∧ Sm (weS 1 i) D D' := by
  obtain ⟨h1, h2, h3, h4⟩ := h
  obtain ⟨D', e, r, q, _, m⟩ := c_pass (m := false) (se := D.1 (8, 1, 0, 0) 7) (V6 hi2) V81 h2 (by rw [h4]; exact hw) (by omega) h3 rfl (Or.inr rfl)
  obtain ⟨p1, p2, p3⟩ := pWk_se (c := c) (m := false) (s := rdS D i) (se := D.1 (8, 1, 0, 0) 7) (se' := 0)
  rw [pWk_m hch h2.n5] at q
  rw [p1] at r
  rw [p2] at e
  rw [h4] at e r
  exact ⟨D', e, ⟨h1.scr (we_q hi m), h2.sm m, q, r⟩, m⟩
theorem qc_st {A : Al} {D D' : Dt} {c : Cf} {i : Nat} {s s' : St} (hi : 105 ≤ i) (h : QC A D c i s) (m : Sm (stS i) D D') (hr : rdS D' i = s') : QC A D' c i s' := ⟨h.1.scr (st_q hi m), h.2.1.sm (i := i) (stS_we m), by rw [m.i stS_8]; exact h.2.2.1, hr⟩
theorem okF {A : Al} (hA : okA A) : isF A (woC (alW A)) := hA.1.2.2.2.2.2.2.2.2.2.1
theorem qc_start {A : Al} {D : Dt} {i : Nat} (hi : 105 ≤ i) (hi2 : i < 111) (hA : okA A) (ht : (woH (alW A)).1 = true) (h : RC D A) : ∃ D', F_X1_startOn i D = some D' ∧ QC A D' (cf0 A) i (woS (alW A)) ∧ Sm qS D D' ∧ D'.1 (8, 1, 0, 0) 7 = 0 := by
  obtain ⟨D1, e1, r1, m1⟩ := c_copyFrom (D := D) (i := i) (j := 0) (V6 hi2) vv0
  have h1 := h.scr (st_q hi m1)
  obtain ⟨D2, e2, c2, q2, z2, s2⟩ := c_follow V81 h1 hA ht (okF hA)
  rw [F_X1_startOn, grd_t (V6 hi2), e1, vbd_s, h1.1.2.2.2.2.2.2.2.2.1, c_ruleOf hA (okF hA), cbd_s, e2, vbd_s]
  refine ⟨D2, rfl, ⟨h1.scr (fo_W s2), c2, q2, ?_⟩, (st_q hi m1).trans (fo_W s2), z2⟩
  rw [rdS_sm s2 (fun q k => by simp), r1, h.s]
theorem land_there {A : Al} {x : Nat} (hA : okA A) (hx : x < shN (woH (alW A))) : (woH (alW A)).1 = true := by
  cases hh : (woH (alW A)).1 with
  | true => rfl
  | false =>
    have := hA.1.2.2.2.2.1 hh
    omega
/-! the reference asks on its own rows, and lays back -/
def qmS : LA → Nat → Bool := fun la k => la.1 == 11 && (decide (3 ≤ la.2.2.1 ∧ la.2.2.1 ≤ 7) || (la.2.2.1 == 2 && (decide (3 ≤ k ∧ k ≤ 5) || decide (7 ≤ k))) || decide (38 ≤ la.2.2.1 ∧ la.2.2.1 ≤ 39) || (la.2.2.1 == 55 && decide (4000 ≤ k)) || la.2.2.1 == 46 || decide (50 ≤ la.2.2.1 ∧ la.2.2.1 ≤ 54) || (la.2.2.1 == 0 && (decide (39 ≤ k ∧ k ≤ 43) || k == 56 || k == 57)))
theorem qmS_m {D D' : Dt} (s : Sm qmS D D') : Sm mS D D' := s.mono (fun la k e => by
  simp only [mS, beq_eq_false_iff_ne] at e
  simp [qmS, e])
theorem mo_q {D D' : Dt} (s : Sm moS D D') : Sm qmS D D' := s.mono (fun la k e => by
  simp only [moS, qmS, Bool.or_eq_false_iff, Bool.and_eq_false_iff, decide_eq_false_iff_not, beq_eq_false_iff_ne] at e ⊢
  omega)
def QG (A : Al) (D0 D : Dt) (f h i c o d : Int32) (s : St) : Prop := RM D0 A ∧ Sm qmS D0 D ∧ (∀ q k, q < 6 → k < roL q → D.1 (11, 0, 55, 0) (4000 + (roO q + k)) = lvR D0 q k) ∧ D.1 (11, 0, 2, 0) 8 = f ∧ D.1 (11, 0, 0, 0) 39 = h ∧ D.1 (11, 0, 0, 0) 42 = i ∧ D.1 (11, 0, 0, 0) 40 = c ∧ (c = -1 ∨ D.1 (11, 0, 0, 0) 41 = o) ∧ rdM D = s ∧ D.1 (11, 0, 2, 0) 7 = d
theorem qg_cfm {A : Al} {D0 D : Dt} {f h i c o d : Int32} {s : St} (hA : okA A) (hf : isF A f) (g : QG A D0 D f h i c o d s) (hc : c = -1 ∨ (i = 0 ∧ h = 0 ∧ (o = -1 ∨ inB o (shN (woH (alW A))) = true))) : CfM D (cfX A f h i c o) := by
  obtain ⟨g1, g2, g3, g4, g5, g6, g7, g8, g9, g10⟩ := g
  have hN := hA.2.2.1
  obtain ⟨r1, r2, r3, r4, r5, r6, r7, r8, r9, r10, r11, r12⟩ := g1.1
  refine ⟨hA.1.1, ?_, ?_, fun k v hk hv => ?_, ?_, g5, g6, g7, ?_⟩
  · rw [g2.i (by simp [qmS])]; exact r3
  · rw [g2.i (by simp [qmS])]; exact r2
  · rw [g2.i (by simp [qmS])]; exact r11 k v hk hv
  · rcases hf with rfl | ⟨x, hx, rfl⟩
    · exact Or.inl ⟨rfl, g4⟩
    · have hne := nI_nem1 (show x < 2147483648 by omega)
      refine Or.inr ⟨x, alR A x, by omega, ?_, g4, hA.2.2.2.1 x hx, (g1.2.2.2.2.1 x hx).sm g2 (fun q k a b => ?_)⟩
      · show ruN A (nI x) = _
        rw [ruN, if_neg hne, nIc (by omega)]
      · simp [qmS]
        omega
  · rcases hc with hc | ⟨a, b, d'⟩
    · exact Or.inl hc
    · rcases g8 with g8 | g8
      · exact Or.inl g8
      · exact Or.inr ⟨a, b, g8, d'⟩
theorem qg_mo {A : Al} {D0 D D' : Dt} {f h i c o d : Int32} {s s' : St} (g : QG A D0 D f h i c o d s) (m : Sm moS D D') (hr : rdM D' = s') : QG A D0 D' f h i c o d s' := by
  obtain ⟨g1, g2, g3, g4, g5, g6, g7, g8, g9, g10⟩ := g
  refine ⟨g1, g2.trans (mo_q m), fun q k hq hk => ?_, ?_, ?_, ?_, ?_, ?_, hr, ?_⟩
  · rw [m.i (by simp [moS])]; exact g3 q k hq hk
  · rw [m.i (moS_2 (by decide))]; exact g4
  · rw [m.i (moS_0 (by decide))]; exact g5
  · rw [m.i (moS_0 (by decide))]; exact g6
  · rw [m.i (moS_0 (by decide))]; exact g7
  · rw [m.i (moS_0 (by decide))]; exact g8
  · rw [m.i (moS_2 (by decide))]; exact g10
theorem qg_goes {A : Al} {D0 D : Dt} {f h i o d : Int32} {s : St} {w : Nat} (hA : okA A) (hf : isF A f) (g : QG A D0 D f h i (-1) o d s) (hg : Gd (shN (woH (alW A))) s) (hw : s 5 1 = nI w) (hw2 : w < 100000) : ∃ D', F_X11_goes D = some (wN (cfX A f h i (-1) o) s, D') ∧ QG A D0 D' f h i (-1) o d (wS (cfX A f h i (-1) o) s) := by
  have hs : rdM D = s := g.2.2.2.2.2.2.2.2.1
  obtain ⟨D', e, r, _, m⟩ := r_goes (D := D) (w := w) (m := false) 0 (cfX_ok hA) (qg_cfm hA hf g (Or.inl rfl)) (by rw [hs]; exact hg) (by rw [hs]; exact hw) hw2 (Or.inl rfl)
  rw [hs] at e r
  exact ⟨D', e, qg_mo g m r⟩
