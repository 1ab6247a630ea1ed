/-! ===== the reference reads a RULE ===== -/
def rrS (b : Nat) : LA → Nat → Bool := fun la k => (la == (11, 0, 0, 0) && decide ((20 ≤ k ∧ k ≤ 21) ∨ k = 24 ∨ k = 26)) || ((la == (11, 0, 31, 0) || la == (11, 0, 32, 0)) && decide (b ≤ k))
theorem rr_00 {b k : Nat} : rrS b (11, 0, 0, 0) k = decide ((20 ≤ k ∧ k ≤ 21) ∨ k = 24 ∨ k = 26) := by
  have h2 : (((11, 0, 0, 0) : LA) == (11, 0, 31, 0)) = false := rfl
  have h3 : (((11, 0, 0, 0) : LA) == (11, 0, 32, 0)) = false := rfl
  simp only [rrS, h2, h3, beq_self_eq_true, Bool.true_and, Bool.false_or, Bool.or_false, Bool.false_and]
theorem p21_rr {b : Nat} {D D' : Dt} (s : Sm p21 D D') : Sm (rrS b) D D' := s.mono (fun la k e => by
  by_cases c : la = (11, 0, 0, 0)
  · rw [c, rr_00, decide_eq_false_iff_not] at e
    simp [p21]
    omega
  · simp [p21, c])
theorem rr_w {b b' : Nat} {D D' : Dt} (h : b ≤ b') (s : Sm (rrS b') D D') : Sm (rrS b) D D' := s.mono (fun la k e => by
  simp only [rrS, Bool.or_eq_false_iff, Bool.and_eq_false_iff, decide_eq_false_iff_not] at e ⊢
  refine ⟨e.1, ?_⟩
  rcases e.2 with x | x
  · exact Or.inl x
  · exact Or.inr (by omega))
def RSt (D : Dt) (T : Tp) (s p : Nat) (f : Int32) (c n : Nat) : Prop := RP D T p f ∧ D.1 (11, 0, 0, 0) 22 = nI s ∧ D.1 (11, 0, 0, 0) 24 = nI n ∧ D.1 (11, 0, 0, 0) 26 = nI c ∧ D.1 (11, 0, 0, 0) 28 = 12
theorem RSt.p {D D' : Dt} {T : Tp} {s p c n p' : Nat} {f f' : Int32} (h : RSt D T s p f c n) (r : RP D' T p' f') (m : Sm p21 D D') : RSt D' T s p' f' c n := ⟨r, by rw [m.i (by simp [p21])]; exact h.2.1, by rw [m.i (by simp [p21])]; exact h.2.2.1, by rw [m.i (by simp [p21])]; exact h.2.2.2.1, by rw [m.i (by simp [p21])]; exact h.2.2.2.2⟩
theorem RSt.s20 {D : Dt} {T : Tp} {s p c n p' : Nat} {f : Int32} (h : RSt D T s p f c n) : RSt (setI D (11, 0, 0, 0) 20 (nI p')) T s p' f c n ∧ Sm p21 D (setI D (11, 0, 0, 0) 20 (nI p')) := by
  obtain ⟨r, m⟩ := h.1.s20 (p' := p')
  exact ⟨h.p r (p20_21 m), p20_21 m⟩
def SgM (D : Dt) (b : Nat) (l : List En) : Prop := ∀ i, i < l.length → D.1 (11, 0, 31, 0) (b + i) = cm (l.getD i (0, 0)).1 ∧ D.1 (11, 0, 32, 0) (b + i) = (l.getD i (0, 0)).2
theorem SgM.app {D : Dt} {n : Nat} {l1 l2 : List En} (a : SgM D n l1) (b : SgM D (n + l1.length) l2) : SgM D n (l1 ++ l2) := by
  intro i hi
  rw [List.length_append] at hi
  by_cases c : i < l1.length
  · rw [show (l1 ++ l2).getD i (0, 0) = l1.getD i (0, 0) by simp [List.getD, List.getElem?_append_left c]]
    exact a i c
  · have := b (i - l1.length) (by omega)
    rw [show n + l1.length + (i - l1.length) = n + i by omega] at this
    rw [show (l1 ++ l2).getD i (0, 0) = l2.getD (i - l1.length) (0, 0) by simp [List.getD, List.getElem?_append_right (show l1.length ≤ i by omega)]]
    exact this
theorem SgM.sm {D D' : Dt} {n b : Nat} {l : List En} (a : SgM D n l) (m : Sm (rrS b) D D') (h : n + l.length ≤ b) : SgM D' n l := by
  intro i hi
  have h1 : rrS b (11, 0, 31, 0) (n + i) = false := by simp [rrS]; omega
  have h2 : rrS b (11, 0, 32, 0) (n + i) = false := by simp [rrS]; omega
  rw [m.i h1, m.i h2]
  exact a i hi
def RrO (T : Tp) (s n : Nat) (D : Dt) (q c : Nat) (l : List En) (ex : Bool) (D' : Dt) : Prop := ∃ p, RSt D' T s p 0 c (n + l.length) ∧ sbk T p = q ∧ p ≤ tpL T ∧ (ex = true → p = q) ∧ SgM D' (300 * s + n) l ∧ Sm (rrS (300 * s + n)) D D'
def RrC (T : Tp) (s n : Nat) (D : Dt) (x : PR) (ex : Bool) (res : Option Dt) : Prop := match x with
  | .inl f => ∃ D' p c' n', res = some D' ∧ RSt D' T s p (nI f) c' n' ∧ p ≤ tpL T + 50 ∧ c' ≤ 70 ∧ 0 < f ∧ f < 100000 ∧ Sm (rrS (300 * s + n)) D D'
  | .inr (q, c, l) => ∃ D', res = some D' ∧ RrO T s n D q c l ex D'
theorem r_entry {D : Dt} {T : Tp} {s p c n : Nat} {a b : Int32} (hs : s < 6) (hn : n < 300) (h : RSt D T s p 0 c n) : ∃ D', F_X11_entry a b D = some D' ∧ RSt D' T s p 0 c (n + 1) ∧ D'.1 (11, 0, 31, 0) (300 * s + n) = a ∧ D'.1 (11, 0, 32, 0) (300 * s + n) = b ∧ Sm (rrS (300 * s + n)) D D' := by
  obtain ⟨h1, h2, h3, h4, h5⟩ := h
  have e22 : (setI D (11, 0, 31, 0) (300 * s + n) a).1 (11, 0, 0, 0) 22 = nI s := by rw [gI, if_neg (by simp)]; exact h2
  have e24 : (setI D (11, 0, 31, 0) (300 * s + n) a).1 (11, 0, 0, 0) 24 = nI n := by rw [gI, if_neg (by simp)]; exact h3
  have e24' : (setI (setI D (11, 0, 31, 0) (300 * s + n) a) (11, 0, 32, 0) (300 * s + n) b).1 (11, 0, 0, 0) 24 = nI n := by rw [gI, if_neg (by simp)]; exact e24
  have ix : (300 : Int32) * nI s + nI n = nI (300 * s + n) := by rw [show (300 : Int32) = nI 300 from rfl, pk_mul, nI_add]
  have hb := inBe (show 300 * s + n < 1800 by omega) (by decide)
  rw [F_X11_entry, h1.2.2, if_pos rfl, h2, h3, ix, grd_t hb, nIc (by omega), bnd_e, e22, e24, ix, grd_t hb, nIc (by omega), bnd_e, e24', nI_1, bnd_e]
  generalize hD' : setI (setI (setI D (11, 0, 31, 0) (300 * s + n) a) (11, 0, 32, 0) (300 * s + n) b) (11, 0, 0, 0) 24 (nI (n + 1)) = D'
  have m : Sm (fun la k => (la == (11, 0, 31, 0) || la == (11, 0, 32, 0)) && k == 300 * s + n || (la == (11, 0, 0, 0) && k == 24)) D D' := by
    rw [← hD']
    exact ((Sm.sI (by simp)).trans (Sm.sI (by simp))).trans (Sm.sI (by simp))
  refine ⟨D', rfl, ⟨⟨h1.1.sm m (by simp) (fun k => by simp), by rw [m.i (by simp)]; exact h1.2.1, by rw [m.i (by simp)]; exact h1.2.2⟩, by rw [m.i (by simp)]; exact h2, by rw [← hD', gI_s], by rw [m.i (by simp)]; exact h4, by rw [m.i (by simp)]; exact h5⟩, by rw [← hD']; simp [gI], by rw [← hD']; simp [gI], m.mono (fun la k e => ?_)⟩
  by_cases c : la = (11, 0, 0, 0)
  · rw [c, rr_00, decide_eq_false_iff_not] at e
    simp [c]
    omega
  · simp only [rrS, Bool.or_eq_false_iff, Bool.and_eq_false_iff, decide_eq_false_iff_not, beq_eq_false_iff_ne] at e ⊢
    refine ⟨?_, Or.inl c⟩
    rcases e.2 with x | x
    · exact Or.inl x
    · exact Or.inr (by omega)
theorem r_entry_f {D : Dt} {T : Tp} {s p c n : Nat} {f a b : Int32} (hf : ¬ f = 0) (h : RSt D T s p f c n) : F_X11_entry a b D = some D := by
  rw [F_X11_entry, h.1.2.2, if_neg hf]
theorem r_ent {D : Dt} {T : Tp} {s p c n q : Nat} {a a0 b : Int32} {ex : Bool} (hs : s < 6) (hn : n < 300) (h : RSt D T s p 0 c n) (ha : cm a0 = a) (hq : sbk T p = q) (hp : p ≤ tpL T) (hx : ex = true → p = q) : ∃ D', F_X11_entry a b D = some D' ∧ RrO T s n D q c [(a0, b)] ex D' := by
  obtain ⟨D', e, r, x1, x2, m⟩ := r_entry (a := a) (b := b) hs hn h
  refine ⟨D', e, p, r, hq, hp, hx, fun i hi => ?_, m⟩
  have : i = 0 := by simp only [List.length_cons, List.length_nil] at hi; omega
  subst this
  exact ⟨by rw [Nat.add_zero, x1]; exact ha.symm, by rw [Nat.add_zero, x2]; rfl⟩
theorem RrO.seq {T : Tp} {s n q1 c1 q2 c2 : Nat} {D D1 D2 : Dt} {l1 l2 : List En} {x1 x2 : Bool} (h : RrO T s n D q1 c1 l1 x1 D1) (g : RrO T s (n + l1.length) D1 q2 c2 l2 x2 D2) : RrO T s n D q2 c2 (l1 ++ l2) x2 D2 := by
  obtain ⟨p1, a1, a2, a3, a4, a5, a6⟩ := h
  obtain ⟨p2, b1, b2, b3, b4, b5, b6⟩ := g
  refine ⟨p2, by rw [List.length_append, ← Nat.add_assoc]; exact b1, b2, b3, b4, SgM.app (a5.sm b6 (by omega)) (by rw [Nat.add_assoc]; exact b5), a6.trans (rr_w (by omega) b6)⟩
/-- behind a part that went well -/
theorem RrC.seq {T : Tp} {s n q1 c1 : Nat} {D D1 : Dt} {l1 : List En} {x1 x2 : Bool} {f : Nat → Nat → PR} {res : Option Dt} (h : RrO T s n D q1 c1 l1 x1 D1) (g : RrC T s (n + l1.length) D1 (f q1 c1) x2 res) : RrC T s n D (pB (.inr (q1, c1, l1)) f) x2 res := by
  unfold pB
  simp only
  unfold RrC at g ⊢
  cases e : f q1 c1 with
  | inl e' =>
    rw [e] at g
    obtain ⟨D', p, c', n', a1, a2, a3, a4, a5, a6, a7⟩ := g
    obtain ⟨_, _, _, _, _, _, b6⟩ := h
    exact ⟨D', p, c', n', a1, a2, a3, a4, a5, a6, b6.trans (rr_w (by omega) a7)⟩
  | inr y =>
    obtain ⟨q2, c2, l2⟩ := y
    rw [e] at g
    obtain ⟨D', a, b⟩ := g
    exact ⟨D', a, h.seq b⟩
theorem RrC.to {T : Tp} {s n : Nat} {D : Dt} {x y : PR} {ex : Bool} {res : Option Dt} (h : RrC T s n D x ex res) (e : x = y) : RrC T s n D y ex res := by rw [← e]; exact h
theorem RrC.pre {T : Tp} {s n : Nat} {D D0 : Dt} {x : PR} {ex : Bool} {res : Option Dt} (h : RrC T s n D0 x ex res) (m : Sm (rrS (300 * s + n)) D D0) : RrC T s n D x ex res := by
  cases x with
  | inl f =>
    obtain ⟨D', p, c', n', a1, a2, a3, a4, a5, a6, a7⟩ := h
    exact ⟨D', p, c', n', a1, a2, a3, a4, a5, a6, m.trans a7⟩
  | inr y =>
    obtain ⟨q, c, l⟩ := y
    obtain ⟨D', a, p, b1, b2, b3, b4, b5, b6⟩ := h
    exact ⟨D', a, p, b1, b2, b3, b4, b5, m.trans b6⟩
theorem r_wordOf {k : Nat} {D : Dt} (hk : k < 12) : F_X11_wordOf (nI k) D = some (sx k, D) := by
  have : k = 0 ∨ k = 1 ∨ k = 2 ∨ k = 3 ∨ k = 4 ∨ k = 5 ∨ k = 6 ∨ k = 7 ∨ k = 8 ∨ k = 9 ∨ k = 10 ∨ k = 11 := by omega
  rcases this with rfl | rfl | rfl | rfl | rfl | rfl | rfl | rfl | rfl | rfl | rfl | rfl <;> rfl
def wdX (T : Tp) (q : Nat) : Nat := if 20 ≤ kd T q ∧ kd T q < 32 then kd T q - 20 else 12
theorem r_vWord {D : Dt} {T : Tp} {q : Nat} {f l1 : Int32} {kk : Int32 → Int32 → Dt → Option Dt} (hT : okT T) (hq : q < 100000) (h : RP D T q f) (h28 : D.1 (11, 0, 0, 0) 28 = 12) : ∀ m fu k, k + m = 12 → m < fu → (∀ i, i < k → kd T q ≠ 20 + i) → F_X11_value_b37 kk fu l1 (nI k) D = kk l1 (nI (wdX T q)) D := by
  intro m
  induction m with
  | zero =>
    intro fu k hk hf hno
    obtain ⟨fu, rfl⟩ : ∃ g, fu = g + 1 := ⟨fu - 1, by omega⟩
    have : wdX T q = 12 := by
      unfold wdX
      split
      · rename_i c
        have := hno (kd T q - 20) (by omega)
        omega
      · rfl
    have hk12 : k = 12 := by omega
    rw [F_X11_value_b37, h28, this, hk12, if_pos (show (12 : Int32) ≤ nI 12 by decide)]
  | succ m ih =>
    intro fu k hk hf hno
    obtain ⟨fu, rfl⟩ : ∃ g, fu = g + 1 := ⟨fu - 1, by omega⟩
    rw [F_X11_value_b37, h28, if_neg (show ¬ (12 : Int32) ≤ nI k from nI_ge (b := 12) (by omega) (by decide)), r_wordOf (by omega), cbd_s, grd_t (sx_b k (by omega)).1, r_word hT hq (by omega) h, cbd_s]
    by_cases c : kd T q = 20 + k
    · have : wdX T q = k := by
        unfold wdX
        rw [if_pos (by omega)]
        omega
      rw [i1t c, this]
    · rw [i1f c, bnd_e, nI_1]
      exact ih fu (k + 1) (by omega) (by omega) (fun i hi => by
        by_cases ci : i = k
        · rw [ci]; exact c
        · exact hno i (by omega))
theorem r_counted {D : Dt} {T : Tp} {s p c n x b : Nat} {f : Int32} (hc : c < 1000) (h : RSt D T s p f c n) : ∃ D', F_X11_isCounted (nI x) D = some D' ∧ RSt D' T s p (if c = 60 then ft f (nI (1 + 8 * x + 3)) else f) (c + 1) n ∧ Sm (rrS b) D D' := by
  have b15 : ∀ {E : Dt} {g : Int32}, RSt E T s p g c n → ∃ D', F_X11_isCounted_b15 (nI x) E = some D' ∧ RSt D' T s p g (c + 1) n ∧ Sm (rrS b) E D' := by
    intro E g hE
    have m : Sm (fun la k => la == (11, 0, 0, 0) && k == 26) E (setI E (11, 0, 0, 0) 26 (nI (c + 1))) := Sm.sI (by simp)
    rw [F_X11_isCounted_b15, hE.2.2.2.1, nI_1, bnd_e]
    refine ⟨_, rfl, ⟨⟨hE.1.1.sm m (by simp) (fun k => by simp), by rw [m.i (by simp)]; exact hE.1.2.1, by rw [m.i (by simp)]; exact hE.1.2.2⟩, by rw [m.i (by simp)]; exact hE.2.1, by rw [m.i (by simp)]; exact hE.2.2.1, gI_s, by rw [m.i (by simp)]; exact hE.2.2.2.2⟩, m.mono (fun la k e => ?_)⟩
    by_cases cl : la = (11, 0, 0, 0)
    · rw [cl, rr_00, decide_eq_false_iff_not] at e
      simp [cl]
      omega
    · simp [cl]
  have k60 : (nI c = (60 : Int32)) = (c = 60) := propext ⟨fun e => (nI_eq (b := 60) (by omega) (by decide)).mp e, fun e => by rw [e]; rfl⟩
  rw [F_X11_isCounted, h.2.2.2.1]
  simp only [k60]
  by_cases c60 : c = 60
  · obtain ⟨D1, e1, r1, m1⟩ := r_fails (x := x) (c := 3) h.1
    obtain ⟨D2, e2, r2, m2⟩ := b15 (h.p r1 (m21 m1))
    rw [if_pos c60, if_pos c60, show F_X11_fails 3 (nI x) D = _ from e1, vbd_s]
    exact ⟨D2, e2, r2, (p21_rr (m21 m1)).trans m2⟩
  · rw [if_neg c60, if_neg c60]
    exact b15 h
theorem ft_0 {g : Int32} : ft 0 g = g := by unfold ft; rw [if_pos rfl]
theorem ft_n {f g : Int32} (h : ¬ f = 0) : ft f g = f := by unfold ft; rw [if_neg h]
theorem nx_dg {T : Tp} {q : Nat} (h : kd T q = 1 ∨ kd T q = 2) : nx T q = eDg T q := by
  have hd := dg_p.mpr h
  unfold nx
  rw [if_neg (by omega), if_pos hd.2]
theorem RrO.blk {T : Tp} {s n q c : Nat} {D D1 : Dt} {l : List En} {ex : Bool} (hT : okT T) (h : RrO T s n D q c l ex D1) : ∃ D2, F_X11_blanks D1 = some D2 ∧ RrO T s n D q c l true D2 := by
  obtain ⟨p, a1, a2, a3, a4, a5, a6⟩ := h
  have hL := hT.1
  obtain ⟨D2, e, r, m⟩ := r_blk hT (by omega) a1.1
  have m' := p20_21 m
  rw [a2] at r
  refine ⟨D2, e, q, a1.p r m', ?_, by rw [← a2]; exact sbk_le a3, fun _ => rfl, fun i hi => ?_, a6.trans (p21_rr m')⟩
  · rw [← a2]; exact spE_idem
  · rw [p21_15 m' 31 _ (by decide), p21_15 m' 32 _ (by decide)]
    exact a5 i hi
theorem r_val {T : Tp} {s p c n : Nat} {D : Dt} (hT : okT T) (hs : s < 6) (hp : p ≤ tpL T) (hc : c ≤ 60) (hn : n < 300) (h : RSt D T s p 0 c n) : RrC T s n D (pVal T (sbk T p) c) false (F_X11_value D) := by
  have hL := hT.1
  obtain ⟨D1, e1, r1, m1⟩ := r_blk hT (by omega) h.1
  have h1 := h.p r1 (p20_21 m1)
  have m1' : Sm (rrS (300 * s + n)) D D1 := p21_rr (p20_21 m1)
  have hq := sbk_le hp
  rw [F_X11_value, e1, vbd_s, bnd_e]
  generalize sbk T p = q at r1 h1 hq ⊢
  rw [r_isDg hT (by omega) h1.1, cbd_s, h1.1.2.1]
  unfold pVal
  by_cases dg : kd T q = 1 ∨ kd T q = 2
  · rw [i1t (dg_p.mpr dg)]
    obtain ⟨D2, e2, r2, m2⟩ := r_digits hT (by omega) h1.1
    rw [e2, cbd_s]
    rw [if_pos dg] at r2
    have h2 := h1.p r2 m2
    obtain ⟨D3, e3, r3, m3⟩ := r_counted (x := q) (b := 300 * s + n) (by omega) h2
    have hle : eDg T q ≤ tpL T := spE_le hq
    have m13 := (m1'.trans (p21_rr m2)).trans m3
    rw [e3, vbd_s]
    by_cases c2 : kd T q = 2
    · have c1 : ¬ kd T q = 1 := by omega
      have hne : ¬ nI (1 + 8 * q + 1) = 0 := nI_ne0 (by omega) (by omega)
      rw [if_neg c1, if_pos c2, ft_0, ft_n hne, ite_self] at r3
      rw [if_pos c2, r_entry_f hne r3, vbd_s]
      exact ⟨D3, eDg T q, c + 1, n, rfl, r3, by omega, by omega, by omega, by omega, m13⟩
    · have c1 : kd T q = 1 := by omega
      rw [if_pos c1] at r3
      rw [if_neg c2, if_pos (Or.inl c1)]
      by_cases c60 : 60 ≤ c
      · have hne : ¬ nI (1 + 8 * q + 3) = 0 := nI_ne0 (by omega) (by omega)
        rw [if_pos (show c = 60 by omega), ft_0] at r3
        rw [if_pos c60, r_entry_f hne r3, vbd_s]
        exact ⟨D3, eDg T q, c + 1, n, rfl, r3, by omega, by omega, by omega, by omega, m13⟩
      · rw [if_neg (show ¬ c = 60 by omega)] at r3
        obtain ⟨D4, e4, r4⟩ := r_ent (a0 := 1) (a := 0) (b := nI (nm T q)) (q := nq T q) (ex := false) hs hn r3 (by decide) (by rw [← nx_dg dg]; rfl) hle (fun x => by cases x)
        rw [if_neg c60, if_pos c1, if_pos c1, e4, vbd_s]
        exact RrC.pre (x := .inr (nq T q, c + 1, [(1, nI (nm T q))])) ⟨D4, rfl, r4⟩ m13
  · have c1 : ¬ kd T q = 1 := fun x => dg (Or.inl x)
    have c2 : ¬ kd T q = 2 := fun x => dg (Or.inr x)
    rw [i1f (fun x => dg (dg_p.mp x)), show F_X11_value_b37 _ 2000 (nI q) 0 D1 = _ from r_vWord hT (by omega) h1.1 h1.2.2.2.2 12 2000 0 (by omega) (by omega) (fun i hi => absurd hi (Nat.not_lt_zero i)), h1.2.2.2.2, if_neg c2]
    by_cases cw : 20 ≤ kd T q ∧ kd T q < 32
    · obtain ⟨k, hk⟩ : ∃ k, kd T q = 20 + k := ⟨kd T q - 20, by omega⟩
      have hw : wdX T q = k := by unfold wdX; rw [if_pos cw]; omega
      have hlt := kd_lt (T := T) (q := q) (by omega)
      have hnx := kd_nx (by omega) hk
      have hnb := nx_le hq
      obtain ⟨D3, e3, r3, m3⟩ := r_counted (x := q) (b := 300 * s + n) (by omega) h1
      rw [hw, if_neg (show ¬ nI k = (12 : Int32) from fun e => by have := (nI_eq (b := 12) (by omega) (by decide)).mp e; omega), e3, vbd_s, r_wordOf (by omega), cbd_s, grd_t (sx_b k (by omega)).1, r3.1.2.1, show sLen (sx k) = nI (lnS (sx k)) from rfl, nI_add, bnd_e, if_pos (Or.inr cw), ← hnx]
      obtain ⟨r4, m4⟩ := r3.s20 (p' := nx T q)
      generalize setI D3 (11, 0, 0, 0) 20 (nI (nx T q)) = D4 at r4 m4 ⊢
      have m14 := (m1'.trans m3).trans (p21_rr m4)
      by_cases c60 : 60 ≤ c
      · have hne : ¬ nI (1 + 8 * q + 3) = 0 := nI_ne0 (by omega) (by omega)
        rw [if_pos (show c = 60 by omega), ft_0] at r4
        rw [if_pos c60, r_entry_f hne r4, vbd_s]
        exact ⟨D4, nx T q, c + 1, n, rfl, r4, by omega, by omega, by omega, by omega, m14⟩
      · rw [if_neg (show ¬ c = 60 by omega)] at r4
        obtain ⟨D5, e5, r5⟩ := r_ent (a0 := 20) (a := 1) (b := nI k) (q := nq T q) (ex := false) hs hn r4 (by decide) rfl hnb (fun x => by cases x)
        rw [if_neg c60, if_neg c1, show kd T q - 20 = k by omega, e5, vbd_s]
        exact RrC.pre (x := .inr (nq T q, c + 1, [(20, nI k)])) ⟨D5, rfl, r5⟩ m14
    · have hw : wdX T q = 12 := by unfold wdX; rw [if_neg cw]
      obtain ⟨D2, e2, r2, m2⟩ := r_fails (x := q) (c := 0) h1.1
      rw [ft_0] at r2
      rw [hw, if_pos (show nI 12 = (12 : Int32) from rfl), show F_X11_fails 0 (nI q) D1 = _ from e2, vbd_s, if_neg (fun x => x.elim c1 cw)]
      exact ⟨D2, q, c, n, rfl, h1.p r2 (m21 m2), by omega, by omega, by omega, by omega, m1'.trans (p21_rr (m21 m2))⟩
/-- at fault: the place goes on, nothing else -/
def FlC (T : Tp) (s b : Nat) (D : Dt) (p c k : Nat) (f : Int32) (n : Nat) (res : Option Dt) : Prop := ∃ D' p' c', res = some D' ∧ RSt D' T s p' f c' n ∧ p' ≤ max p (tpL T) + k ∧ c' ≤ c + k ∧ Sm (rrS b) D D'
theorem lnS_b : ∀ k, k < 18 → lnS (sx k) ≤ 10 := by decide +kernel
theorem sbk_m {T : Tp} {p : Nat} : sbk T p ≤ max p (tpL T) := by
  by_cases c : p ≤ tpL T
  · have := sbk_le c
    omega
  · have : sbk T p = p := spE_o (by omega)
    omega
theorem eDg_m {T : Tp} {p : Nat} : eDg T p ≤ max p (tpL T) := by
  by_cases c : p ≤ tpL T
  · have : eDg T p ≤ tpL T := spE_le c
    omega
  · have : eDg T p = p := spE_o (by omega)
    omega
theorem r_val_f {T : Tp} {s p c n b : Nat} {f : Int32} {D : Dt} (hT : okT T) (hf : ¬ f = 0) (hp : p ≤ 1000) (hc : c ≤ 200) (h : RSt D T s p f c n) : FlC T s b D p c 10 f n (F_X11_value D) := by
  have hL := hT.1
  obtain ⟨D1, e1, r1, m1⟩ := r_blk hT (by omega) h.1
  have h1 := h.p r1 (p20_21 m1)
  have m1' : Sm (rrS b) D D1 := p21_rr (p20_21 m1)
  have hq := sbk_m (T := T) (p := p)
  rw [F_X11_value, e1, vbd_s, bnd_e]
  generalize sbk T p = q at r1 h1 hq ⊢
  rw [r_isDg hT (by omega) h1.1, cbd_s, h1.1.2.1]
  by_cases dg : kd T q = 1 ∨ kd T q = 2
  · rw [i1t (dg_p.mpr dg)]
    obtain ⟨D2, e2, r2, m2⟩ := r_digits hT (by omega) h1.1
    rw [e2, cbd_s]
    rw [if_pos dg, ft_n hf, ft_n hf, ite_self, ite_self] at r2
    have h2 := h1.p r2 m2
    obtain ⟨D3, e3, r3, m3⟩ := r_counted (x := q) (b := b) (by omega) h2
    rw [ft_n hf, ite_self] at r3
    have hle := eDg_m (T := T) (p := q)
    rw [e3, vbd_s, r_entry_f hf r3, vbd_s]
    exact ⟨D3, eDg T q, c + 1, rfl, r3, by omega, by omega, (m1'.trans (p21_rr m2)).trans m3⟩
  · rw [i1f (fun x => dg (dg_p.mp x)), show F_X11_value_b37 _ 2000 (nI q) 0 D1 = _ from r_vWord hT (by omega) h1.1 h1.2.2.2.2 12 2000 0 (by omega) (by omega) (fun i hi => absurd hi (Nat.not_lt_zero i)), h1.2.2.2.2]
    by_cases cw : 20 ≤ kd T q ∧ kd T q < 32
    · obtain ⟨k, hk⟩ : ∃ k, kd T q = 20 + k := ⟨kd T q - 20, by omega⟩
      have hw : wdX T q = k := by unfold wdX; rw [if_pos cw]; omega
      have hlb := lnS_b k (by omega)
      obtain ⟨D3, e3, r3, m3⟩ := r_counted (x := q) (b := b) (by omega) h1
      rw [ft_n hf, ite_self] at r3
      rw [hw, if_neg (show ¬ nI k = (12 : Int32) from fun e => by have := (nI_eq (b := 12) (by omega) (by decide)).mp e; omega), e3, vbd_s, r_wordOf (by omega), cbd_s, grd_t (sx_b k (by omega)).1, r3.1.2.1, show sLen (sx k) = nI (lnS (sx k)) from rfl, nI_add, bnd_e]
      obtain ⟨r4, m4⟩ := r3.s20 (p' := q + lnS (sx k))
      rw [r_entry_f hf r4, vbd_s]
      exact ⟨_, q + lnS (sx k), c + 1, rfl, r4, by omega, by omega, (m1'.trans m3).trans (p21_rr m4)⟩
    · have hw : wdX T q = 12 := by unfold wdX; rw [if_neg cw]
      obtain ⟨D2, e2, r2, m2⟩ := r_fails (x := q) (c := 0) h1.1
      rw [ft_n hf] at r2
      rw [hw, if_pos (show nI 12 = (12 : Int32) from rfl), show F_X11_fails 0 (nI q) D1 = _ from e2, vbd_s]
      exact ⟨D2, q, c, rfl, h1.p r2 (m21 m2), by omega, by omega, m1'.trans (p21_rr (m21 m2))⟩
theorem r_b8_f {T : Tp} {s p c n fu : Nat} {f : Int32} {D : Dt} (hf : ¬ f = 0) (h : RSt D T s p f c n) : F_X11_term_b8 (fu + 1) D = some D := by
  rw [F_X11_term_b8, h.1.2.2, if_neg hf]
theorem r_b4_f {T : Tp} {s p c n fu : Nat} {f : Int32} {D : Dt} (hf : ¬ f = 0) (h : RSt D T s p f c n) : F_X11_sum_b4 (fu + 1) D = some D := by
  rw [F_X11_sum_b4, h.1.2.2, if_neg hf]
theorem r_sum_f {T : Tp} {s p c n b : Nat} {f : Int32} {D : Dt} (hT : okT T) (hf : ¬ f = 0) (hp : p ≤ 900) (hc : c ≤ 200) (h : RSt D T s p f c n) : FlC T s b D p c 10 f n (F_X11_sum D) := by
  have hL := hT.1
  obtain ⟨D1, p1, c1, e1, r1, a1, a2, m1⟩ := r_val_f (b := b) hT hf (by omega) hc h
  obtain ⟨D2, e2, r2, m2⟩ := r_blk hT (by omega) r1.1
  have h2 := r1.p r2 (p20_21 m2)
  have := sbk_m (T := T) (p := p1)
  rw [F_X11_sum, F_X11_term, e1, vbd_s, e2, vbd_s, show (2000 : Nat) = 1999 + 1 from rfl, r_b8_f hf h2, vbd_s, r_b4_f hf h2]
  exact ⟨D2, sbk T p1, c1, rfl, h2, by omega, by omega, m1.trans (p21_rr (p20_21 m2))⟩
def tlW (w fu : Nat) (D : Dt) : Option Dt := if w = 0 then F_X11_sum_b4 fu D else vbd (F_X11_entry (cm (nI w)) 0 D) (fun D2 => F_X11_sum_b4 fu D2)
theorem r_tl_f {T : Tp} {s p c n w fu : Nat} {f : Int32} {D : Dt} (hf : ¬ f = 0) (h : RSt D T s p f c n) : tlW w (fu + 1) D = some D := by
  unfold tlW
  split
  · exact r_b4_f hf h
  · rw [r_entry_f hf h, vbd_s]
    exact r_b4_f hf h
theorem cm_op : ∀ k, 7 ≤ k → k ≤ 11 → cm (nI k) = (if k = 7 then 2 else if k = 8 then 3 else if k = 9 then 13 else if k = 10 then 14 else 15) := by
  intro k h1 h2
  have : k = 7 ∨ k = 8 ∨ k = 9 ∨ k = 10 ∨ k = 11 := by omega
  rcases this with rfl | rfl | rfl | rfl | rfl <;> decide
theorem r_SL {T : Tp} {s : Nat} (hT : okT T) (hs : s < 6) : ∀ m fu1 fu2 w q c n D, tpL T < m + q → m ≤ fu1 → m ≤ fu2 → m ≤ 1000 → q ≤ tpL T → sbk T q = q → c ≤ 60 → (w = 0 ∨ w = 7 ∨ w = 8) → 3 * n + wB w ≤ 6 * c + q → RSt D T s q 0 c n → RrC T s n D (pSL T m w q c) true (vbd (F_X11_term_b8 fu1 D) (fun E => tlW w fu2 E)) := by
  have hL := hT.1
  intro m
  induction m with
  | zero => intro fu1 fu2 w q c n D h; intros; omega
  | succ m ih =>
    intro fu1 fu2 w q c n D hm hf1 hf2 hm1 hq hqb hc hw hb h
    obtain ⟨fu1, rfl⟩ : ∃ g, fu1 = g + 1 := ⟨fu1 - 1, by omega⟩
    obtain ⟨fu2, rfl⟩ : ∃ g, fu2 = g + 1 := ⟨fu2 - 1, by omega⟩
    have hwB : wB w ≤ 3 := by unfold wB; split <;> omega
    have h42 : ((if q < tpL T then nI (tpB T q) else -1) = (42 : Int32)) = (kd T q = 9) := sgn_c (c := 42) hT rfl (by decide) (by decide) (by decide) (by decide)
    have h47 : ((if q < tpL T then nI (tpB T q) else -1) = (47 : Int32)) = (kd T q = 10) := sgn_c (c := 47) hT rfl (by decide) (by decide) (by decide) (by decide)
    have h37 : ((if q < tpL T then nI (tpB T q) else -1) = (37 : Int32)) = (kd T q = 11) := sgn_c (c := 37) hT rfl (by decide) (by decide) (by decide) (by decide)
    have h43 : ((if q < tpL T then nI (tpB T q) else -1) = (43 : Int32)) = (kd T q = 7) := sgn_c (c := 43) hT rfl (by decide) (by decide) (by decide) (by decide)
    have h45 : ((if q < tpL T then nI (tpB T q) else -1) = (45 : Int32)) = (kd T q = 8) := sgn_c (c := 45) hT rfl (by decide) (by decide) (by decide) (by decide)
    have sg : F_X11_sign D = some ((if q < tpL T then nI (tpB T q) else -1), D) := r_sgn hT (by omega) h.1
    have nx1 : 7 ≤ kd T q → kd T q ≤ 11 → nx T q = q + 1 := fun g1 g2 => by
      have : kd T q = 7 ∨ kd T q = 8 ∨ kd T q = 9 ∨ kd T q = 10 ∨ kd T q = 11 := by omega
      rcases this with k | k | k | k | k
      · exact kd_c1 (c := 43) hT rfl (by decide) (by decide) (by decide) (by decide) k
      · exact kd_c1 (c := 45) hT rfl (by decide) (by decide) (by decide) (by decide) k
      · exact kd_c1 (c := 42) hT rfl (by decide) (by decide) (by decide) (by decide) k
      · exact kd_c1 (c := 47) hT rfl (by decide) (by decide) (by decide) (by decide) k
      · exact kd_c1 (c := 37) hT rfl (by decide) (by decide) (by decide) (by decide) k
    rw [pSL]
    by_cases hm9 : 9 ≤ kd T q ∧ kd T q ≤ 11
    · -- times, over, rest
      have hlt := kd_lt (T := T) (q := q) (by omega)
      obtain ⟨g1, g2⟩ := nq_gt hlt
      have hnq : sbk T (q + 1) = nq T q := by unfold nq; rw [nx1 (by omega) hm9.2]
      rw [if_pos (show 7 ≤ kd T q ∧ kd T q ≤ 11 by omega), if_neg (by omega)]
      have e72 : F_X11_term_b8 (fu1 + 1) D = F_X11_term_b72 (fun E => F_X11_term_b8 fu1 E) (cm (nI (kd T q))) D := by
        rw [F_X11_term_b8, h.1.2.2, if_pos rfl, sg, cbd_s]
        simp only [h42]
        rw [cm_op (kd T q) (by omega) hm9.2]
        have e42 : F_X11_term_b42 (fun E => F_X11_term_b8 fu1 E) D = F_X11_term_b72 (fun E => F_X11_term_b8 fu1 E) (if kd T q = 7 then 2 else if kd T q = 8 then 3 else if kd T q = 9 then 13 else if kd T q = 10 then 14 else 15) D := by
          rw [F_X11_term_b42, sg, cbd_s]
          simp only [h42]
          rw [if_neg (show ¬ kd T q = 7 by omega), if_neg (show ¬ kd T q = 8 by omega)]
          by_cases k9 : kd T q = 9
          · rw [if_pos k9, if_pos k9]
          · rw [if_neg k9, if_neg k9, sg, cbd_s]
            simp only [h47]
            by_cases k10 : kd T q = 10
            · rw [if_pos k10, if_pos k10]
            · rw [if_neg k10, if_neg k10]
        by_cases k9 : kd T q = 9
        · rw [if_pos k9]
          exact e42
        · rw [if_neg k9, sg, cbd_s]
          simp only [h47]
          by_cases k10 : kd T q = 10
          · rw [if_pos k10]
            exact e42
          · rw [if_neg k10, sg, cbd_s]
            simp only [h37]
            rw [if_pos (show kd T q = 11 by omega)]
            exact e42
      obtain ⟨h1, m1⟩ := h.s20 (p' := q + 1)
      rw [e72, F_X11_term_b72, h.1.2.1, nI_1, bnd_e]
      generalize setI D (11, 0, 0, 0) 20 (nI (q + 1)) = D1 at h1 m1 ⊢
      have hv := r_val hT hs (show q + 1 ≤ tpL T by omega) hc (show n < 300 by omega) h1
      rw [hnq] at hv
      refine RrC.pre ?_ (p21_rr m1)
      cases ev : pVal T (nq T q) c with
      | inl f =>
        rw [ev] at hv
        obtain ⟨D2, p2, c2, n2, e2, r2, a1, a2, a3, a4, m2⟩ := hv
        have hne : ¬ nI f = 0 := nI_ne0 (by omega) (by omega)
        obtain ⟨D3, e3, r3, m3⟩ := r_blk hT (by omega) r2.1
        have h3 := r2.p r3 (p20_21 m3)
        have hsb := sbk_m (T := T) (p := p2)
        obtain ⟨fu1, rfl⟩ : ∃ g, fu1 = g + 1 := ⟨fu1 - 1, by omega⟩
        rw [e2, vbd_s, r_entry_f hne r2, vbd_s, e3, vbd_s, r_b8_f hne h3, vbd_s, r_tl_f hne h3]
        exact ⟨D3, sbk T p2, c2, n2, rfl, h3, by omega, a2, a3, a4, m2.trans (p21_rr (p20_21 m3))⟩
      | inr y =>
        obtain ⟨q1, c1, l1⟩ := y
        obtain ⟨v1, v2, v3, v4, v5⟩ := vlen g2 hc ev
        rw [ev] at hv
        obtain ⟨D2, e2, r2⟩ := hv
        obtain ⟨p2, b1, b2, b3, b4, b5, b6⟩ := r2
        obtain ⟨D3, e3, r3⟩ := r_ent (a0 := nI (kd T q)) (a := cm (nI (kd T q))) (b := 0) (q := q1) (ex := false) hs (show n + l1.length < 300 by omega) b1 rfl b2 b3 (fun x => by cases x)
        obtain ⟨D4, e4, r4⟩ := r3.blk hT
        obtain ⟨p4, d1, d2, d3, d4, d5, d6⟩ := r4
        have hp4 := d4 rfl
        subst hp4
        rw [e2, vbd_s, e3, vbd_s, e4, vbd_s]
        have hI := ih fu1 (fu2 + 1) w p4 c1 (n + l1.length + 1) D4 (by omega) (by omega) (by omega) (by omega) v2 d2 v4 hw (by omega) d1
        exact RrC.seq ⟨p2, b1, b2, b3, b4, b5, b6⟩ (RrC.seq ⟨p4, d1, d2, d3, d4, d5, d6⟩ hI)
    · -- no term goes on
      have e8 : F_X11_term_b8 (fu1 + 1) D = some D := by
        rw [F_X11_term_b8, h.1.2.2, if_pos rfl, sg, cbd_s]
        simp only [h42]
        rw [if_neg (by omega), sg, cbd_s]
        simp only [h47]
        rw [if_neg (by omega), sg, cbd_s]
        simp only [h37]
        rw [if_neg (by omega)]
      rw [e8, vbd_s]
      -- what is owed is written
      have owe : ∀ (X : PR) , (∀ E n0, RSt E T s q 0 c n0 → 3 * n0 ≤ 6 * c + q → RrC T s n0 E X true (F_X11_sum_b4 (fu2 + 1) E)) → RrC T s n D (pB (.inr (q, c, wL w)) (fun _ _ => X)) true (tlW w (fu2 + 1) D) := by
        intro X hX
        unfold tlW
        by_cases cw : w = 0
        · have hwl0 : wL w = [] := by unfold wL; rw [if_pos cw]
          rw [if_pos cw, hwl0]
          have r0 : RrO T s n D q c [] true D := ⟨q, h, hqb, hq, fun _ => rfl, fun i hi => absurd hi (Nat.not_lt_zero i), Sm.refl⟩
          exact RrC.seq (f := fun _ _ => X) r0 (hX D n h (by omega))
        · have hwl1 : wL w = [(nI w, 0)] := by unfold wL; rw [if_neg cw]
          have hw3 : wB w = 3 := by unfold wB; rw [if_neg cw]
          obtain ⟨D3, e3, r3⟩ := r_ent (a0 := nI w) (a := cm (nI w)) (b := 0) (q := q) (ex := true) hs (show n < 300 by omega) h rfl hqb hq (fun _ => rfl)
          obtain ⟨p3, d1, d2, d3, d4, d5, d6⟩ := r3
          have hp3 := d4 rfl
          subst hp3
          rw [if_neg cw, hwl1, e3, vbd_s]
          exact RrC.seq (f := fun _ _ => X) ⟨p3, d1, d2, d3, d4, d5, d6⟩ (hX D3 (n + 1) d1 (by omega))
      by_cases h78 : kd T q = 7 ∨ kd T q = 8
      · have hlt := kd_lt (T := T) (q := q) (by omega)
        obtain ⟨g1, g2⟩ := nq_gt hlt
        have hnq : sbk T (q + 1) = nq T q := by unfold nq; rw [nx1 (by omega) (by omega)]
        rw [if_pos (show 7 ≤ kd T q ∧ kd T q ≤ 11 by omega), if_pos h78]
        have := owe (pB (pVal T (nq T q) c) (fun q1 c1 => pSL T m (kd T q) q1 c1)) (fun E n0 hE hn0 => ?_)
        · refine this.to ?_
          unfold pB
          rfl
        · have sgE : F_X11_sign E = some ((if q < tpL T then nI (tpB T q) else -1), E) := r_sgn hT (by omega) hE.1
          have e43 : F_X11_sum_b4 (fu2 + 1) E = F_X11_sum_b43 (fun G => F_X11_sum_b4 fu2 G) (cm (nI (kd T q))) E := by
            rw [F_X11_sum_b4, hE.1.2.2, if_pos rfl, sgE, cbd_s]
            simp only [h43]
            rw [cm_op (kd T q) (by omega) (by omega)]
            have e29 : F_X11_sum_b29 (fun G => F_X11_sum_b4 fu2 G) E = F_X11_sum_b43 (fun G => F_X11_sum_b4 fu2 G) (if kd T q = 7 then 2 else if kd T q = 8 then 3 else if kd T q = 9 then 13 else if kd T q = 10 then 14 else 15) E := by
              rw [F_X11_sum_b29, sgE, cbd_s]
              simp only [h43]
              by_cases k7 : kd T q = 7
              · rw [if_pos k7, if_pos k7]
              · rw [if_neg k7, if_neg k7, if_pos (show kd T q = 8 by omega)]
            by_cases k7 : kd T q = 7
            · rw [if_pos k7]
              exact e29
            · rw [if_neg k7, sgE, cbd_s]
              simp only [h45]
              rw [if_pos (show kd T q = 8 by omega)]
              exact e29
          obtain ⟨h1, m1⟩ := hE.s20 (p' := q + 1)
          rw [e43, F_X11_sum_b43, hE.1.2.1, nI_1, bnd_e]
          generalize setI E (11, 0, 0, 0) 20 (nI (q + 1)) = D1 at h1 m1 ⊢
          have hv := r_val hT hs (show q + 1 ≤ tpL T by omega) hc (show n0 < 300 by omega) h1
          rw [hnq] at hv
          refine RrC.pre ?_ (p21_rr m1)
          rw [F_X11_term]
          have tl : ∀ G, vbd (F_X11_entry (cm (nI (kd T q))) 0 G) (fun D16 => F_X11_sum_b4 fu2 D16) = tlW (kd T q) fu2 G := fun G => by
            unfold tlW
            rw [if_neg (by omega)]
          simp only [tl]
          cases ev : pVal T (nq T q) c with
          | inl f =>
            rw [ev] at hv
            obtain ⟨D2, p2, c2, n2, e2, r2, a1, a2, a3, a4, m2⟩ := hv
            have hne : ¬ nI f = 0 := nI_ne0 (by omega) (by omega)
            obtain ⟨D3, e3, r3, m3⟩ := r_blk hT (by omega) r2.1
            have h3 := r2.p r3 (p20_21 m3)
            have hsb := sbk_m (T := T) (p := p2)
            obtain ⟨fu2, rfl⟩ : ∃ g, fu2 = g + 1 := ⟨fu2 - 1, by omega⟩
            rw [e2, vbd_s, e3, vbd_s, show (2000 : Nat) = 1999 + 1 from rfl, r_b8_f hne h3, vbd_s, r_tl_f hne h3]
            exact ⟨D3, sbk T p2, c2, n2, rfl, h3, by omega, a2, a3, a4, m2.trans (p21_rr (p20_21 m3))⟩
          | inr y =>
            obtain ⟨q1, c1, l1⟩ := y
            obtain ⟨v1, v2, v3, v4, v5⟩ := vlen g2 hc ev
            rw [ev] at hv
            obtain ⟨D2, e2, r2⟩ := hv
            obtain ⟨D4, e4, r4⟩ := r2.blk hT
            obtain ⟨p4, d1, d2, d3, d4, d5, d6⟩ := r4
            have hp4 := d4 rfl
            subst hp4
            have hw3 : wB (kd T q) = 3 := by unfold wB; rw [if_neg (by omega)]
            rw [e2, vbd_s, e4, vbd_s]
            have hI := ih 2000 fu2 (kd T q) p4 c1 (n0 + l1.length) D4 (by omega) (by omega) (by omega) (by omega) v2 d2 v4 (Or.inr h78) (by omega) d1
            exact RrC.seq ⟨p4, d1, d2, d3, d4, d5, d6⟩ hI
      · rw [if_neg (show ¬ (7 ≤ kd T q ∧ kd T q ≤ 11) by omega)]
        have := owe (.inr (q, c, [])) (fun E n0 hE hn0 => ?_)
        · refine this.to ?_
          unfold pB
          simp only [List.append_nil]
        · have sgE : F_X11_sign E = some ((if q < tpL T then nI (tpB T q) else -1), E) := r_sgn hT (by omega) hE.1
          rw [F_X11_sum_b4, hE.1.2.2, if_pos rfl, sgE, cbd_s]
          simp only [h43]
          rw [if_neg (by omega), sgE, cbd_s]
          simp only [h45]
          rw [if_neg (by omega)]
          exact ⟨E, rfl, q, hE, hqb, hq, fun _ => rfl, fun i hi => absurd hi (Nat.not_lt_zero i), Sm.refl⟩
theorem r_sum {T : Tp} {s p c n : Nat} {D : Dt} (hT : okT T) (hs : s < 6) (hp : p ≤ tpL T) (hc : c ≤ 60) (hb : 3 * n ≤ 6 * c + sbk T p) (h : RSt D T s p 0 c n) : RrC T s n D (pSum T (sbk T p) c) true (F_X11_sum D) := by
  have hL := hT.1
  have hq := sbk_le hp
  have hv := r_val hT hs hp hc (show n < 300 by omega) h
  rw [F_X11_sum, F_X11_term]
  unfold pSum
  have tl : ∀ G, F_X11_sum_b4 2000 G = tlW 0 2000 G := fun G => by
    unfold tlW
    rw [if_pos rfl]
  simp only [tl]
  cases ev : pVal T (sbk T p) c with
  | inl f =>
    rw [ev] at hv
    obtain ⟨D2, p2, c2, n2, e2, r2, a1, a2, a3, a4, m2⟩ := hv
    have hne : ¬ nI f = 0 := nI_ne0 (by omega) (by omega)
    obtain ⟨D3, e3, r3, m3⟩ := r_blk hT (by omega) r2.1
    have h3 := r2.p r3 (p20_21 m3)
    have hsb := sbk_m (T := T) (p := p2)
    rw [e2, vbd_s, e3, vbd_s, show (2000 : Nat) = 1999 + 1 from rfl, r_b8_f hne h3, vbd_s, r_tl_f hne h3]
    exact ⟨D3, sbk T p2, c2, n2, rfl, h3, by omega, a2, a3, a4, m2.trans (p21_rr (p20_21 m3))⟩
  | inr y =>
    obtain ⟨q1, c1, l1⟩ := y
    obtain ⟨v1, v2, v3, v4, v5⟩ := vlen hq hc ev
    rw [ev] at hv
    obtain ⟨D2, e2, r2⟩ := hv
    obtain ⟨D4, e4, r4⟩ := r2.blk hT
    obtain ⟨p4, d1, d2, d3, d4, d5, d6⟩ := r4
    have hp4 := d4 rfl
    subst hp4
    rw [e2, vbd_s, e4, vbd_s]
    have hI := r_SL hT hs 401 2000 2000 0 p4 c1 (n + l1.length) D4 (by omega) (by omega) (by omega) (by omega) v2 d2 v4 (Or.inl rfl) (by show 3 * (n + l1.length) + 0 ≤ _; omega) d1
    exact RrC.seq ⟨p4, d1, d2, d3, d4, d5, d6⟩ hI
theorem sgn_eq {T : Tp} {q c : Nat} (hT : okT T) (hc : c < 256) : ((if q < tpL T then nI (tpB T q) else -1) = nI c) = (q < tpL T ∧ tpB T q = c) := by
  have hb := hT.2 q
  by_cases h : q < tpL T
  · rw [if_pos h]
    exact propext ⟨fun e => ⟨h, (nI_eq (by show tpB T q < _; have : tpB T q < 256 := hb; omega) (by omega)).mp e⟩, fun e => by rw [e.2]⟩
  · rw [if_neg h]
    refine propext ⟨fun e => ?_, fun e => absurd e.1 h⟩
    exfalso
    have h2 := congrArg Int32.toInt e
    rw [nI_toInt (by omega), show (-1 : Int32).toInt = -1 from rfl] at h2
    omega
theorem cmp_60 {T : Tp} {q b : Nat} (h : q < tpL T) (hb : tpB T q = b) (hb2 : b = 60 ∨ b = 62) : (q + 1 < tpL T ∧ tpB T (q + 1) = 61 → kd T q = (if b = 60 then 15 else 16) ∧ nx T q = q + 2) ∧ (¬ (q + 1 < tpL T ∧ tpB T (q + 1) = 61) → kd T q = (if b = 60 then 12 else 14) ∧ nx T q = q + 1) := by
  have hk : sgK b = (if b = 60 then 12 else 14) := by rcases hb2 with rfl | rfl <;> decide
  have hd : ¬ isDg b = true := by rcases hb2 with rfl | rfl <;> decide
  have hl : ¬ isLr b = true := by rcases hb2 with rfl | rfl <;> decide
  unfold kd nx
  have hn : ¬ tpL T ≤ q := by omega
  simp only [hb, if_neg hn, if_neg hd, if_neg hl]
  have hdb : dbl T q = decide (q + 1 < tpL T ∧ tpB T (q + 1) = 61) := by
    unfold dbl
    rw [hb, hk]
    rcases hb2 with rfl | rfl <;> simp
  rw [hdb]
  refine ⟨fun x => ?_, fun x => ?_⟩
  · rw [decide_eq_true x, if_pos rfl, if_pos rfl, hk]
    rcases hb2 with rfl | rfl <;> exact ⟨rfl, rfl⟩
  · rw [decide_eq_false x, if_neg (show ¬ false = true by decide), if_neg (show ¬ false = true by decide), hk]
    exact ⟨rfl, rfl⟩
theorem cmp_61 {T : Tp} {q : Nat} (h : q < tpL T) (hb : tpB T q = 61) : kd T q = 13 ∧ nx T q = q + 1 := by
  have hdb : ¬ dbl T q = true := by
    unfold dbl
    rw [hb, decide_eq_true_eq]
    rintro ⟨_, _, x | x⟩
    · exact absurd x (by decide)
    · exact absurd x (by decide)
  unfold kd nx
  have hn : ¬ tpL T ≤ q := by omega
  have hd : ¬ isDg 61 = true := by decide
  have hl : ¬ isLr 61 = true := by decide
  simp only [hb, if_neg hn, if_neg hd, if_neg hl, if_neg hdb]
  exact ⟨by decide, trivial⟩
theorem sgK_cmp : ∀ b, b < 256 → 12 ≤ sgK b → b = 60 ∨ b = 61 ∨ b = 62 := by decide +kernel
theorem cmpN {T : Tp} {q : Nat} (hT : okT T) (h : 12 ≤ kd T q ∧ kd T q ≤ 16) : q < tpL T ∧ (tpB T q = 60 ∨ tpB T q = 61 ∨ tpB T q = 62) := by
  have hlt := kd_lt (T := T) (q := q) (by omega)
  have hb : tpB T q < 256 := hT.2 q
  have hw := wc_b (T := T) (p := q)
  refine ⟨hlt, sgK_cmp _ hb ?_⟩
  unfold kd at h
  rw [if_neg (by omega)] at h
  split at h
  · split at h <;> omega
  · split at h
    · omega
    · split at h
      · rename_i hd
        unfold dbl at hd
        rw [decide_eq_true_eq] at hd
        omega
      · omega
theorem cmp_cm : cm (nI 12) = 4 ∧ cm (nI 13) = 6 ∧ cm (nI 14) = 8 ∧ cm (nI 15) = 5 ∧ cm (nI 16) = 7 := by decide
theorem b90_e {l1 l2 s1 s2 x : Int32} {D : Dt} (hx : ∀ E, (if l1 = (61 : Int32) then (F_X11_compared_b139 (6 : Int32) E) else (if l1 = (60 : Int32) then (if l2 = 0 then (F_X11_compared_b139 (4 : Int32) E) else (F_X11_compared_b139 (5 : Int32) E)) else (if l2 = 0 then (F_X11_compared_b139 (8 : Int32) E) else (F_X11_compared_b139 (7 : Int32) E)))) = F_X11_compared_b139 x E) : F_X11_compared_b90 l1 l2 s1 s2 D = vbd (F_X11_sum (setI D (11, 0, 0, 0) 20 (s1 + s2))) (fun D14 => F_X11_compared_b139 x D14) := by
  rw [F_X11_compared_b90, bnd_e]
  congr 1
  funext E
  exact hx E
/-- behind the first sign of a comparison -/
theorem cmp_run {T : Tp} {s q c n : Nat} {g : Int32} {D : Dt} (hT : okT T) (hq : q ≤ 1000) (hk : 12 ≤ kd T q ∧ kd T q ≤ 16) (h : RSt D T s (q + 1) g c n) : ∃ D2, RSt D2 T s (nx T q) g c n ∧ Sm p21 D D2 ∧ (if nI (tpB T q) = (61 : Int32) then (F_X11_compared_b74 (nI (tpB T q)) D) else (cbd (F_X11_sign D) (fun r22 D23 => (if r22 = (61 : Int32) then (F_X11_compared_b75 (nI (tpB T q)) (1 : Int32) D23) else (F_X11_compared_b74 (nI (tpB T q)) D23))))) = vbd (F_X11_sum D2) (fun D14 => F_X11_compared_b139 (cm (nI (kd T q))) D14) := by
  obtain ⟨hlt, hb⟩ := cmpN hT hk
  obtain ⟨x12, x13, x14, x15, x16⟩ := cmp_cm
  have sg := r_sgn hT (by omega) h.1
  have n1 : ((if q + 1 < tpL T then nI (tpB T (q + 1)) else -1) = (61 : Int32)) = (q + 1 < tpL T ∧ tpB T (q + 1) = 61) := sgn_eq (c := 61) hT (by decide)
  rcases hb with hb | hb | hb
  · obtain ⟨y1, y2⟩ := cmp_60 hlt hb (Or.inl rfl)
    rw [hb, if_neg (by decide), sg, cbd_s]
    simp only [n1]
    by_cases d : q + 1 < tpL T ∧ tpB T (q + 1) = 61
    · obtain ⟨z1, z2⟩ := y1 d
      obtain ⟨h2, m2⟩ := h.s20 (p' := q + 2)
      rw [z2]
      refine ⟨_, h2, m2, ?_⟩
      rw [if_pos d, F_X11_compared_b75, if_neg (by decide), b90_e (x := 5) (fun E => by rw [if_neg (by decide), if_pos (by decide), if_neg (by decide)]), h.1.2.1, nI_1, z1, if_pos rfl, x15]
    · obtain ⟨z1, z2⟩ := y2 d
      obtain ⟨h2, m2⟩ := h.s20 (p' := q + 1)
      rw [z2]
      refine ⟨_, h2, m2, ?_⟩
      rw [if_neg d, F_X11_compared_b74, F_X11_compared_b75, if_pos rfl, b90_e (x := 4) (fun E => by rw [if_neg (by decide), if_pos (by decide), if_pos rfl]), h.1.2.1, show nI (q + 1) + 0 = nI (q + 1) from nI_add _ 0, z1, if_pos rfl, x12]
  · obtain ⟨z1, z2⟩ := cmp_61 hlt hb
    obtain ⟨h2, m2⟩ := h.s20 (p' := q + 1)
    rw [z2, hb]
    refine ⟨_, h2, m2, ?_⟩
    rw [if_pos (by decide), F_X11_compared_b74, F_X11_compared_b75, if_pos rfl, b90_e (x := 6) (fun E => by rw [if_pos (by decide)]), h.1.2.1, show nI (q + 1) + 0 = nI (q + 1) from nI_add _ 0, z1, x13]
  · obtain ⟨y1, y2⟩ := cmp_60 hlt hb (Or.inr rfl)
    rw [hb, if_neg (by decide), sg, cbd_s]
    simp only [n1]
    by_cases d : q + 1 < tpL T ∧ tpB T (q + 1) = 61
    · obtain ⟨z1, z2⟩ := y1 d
      obtain ⟨h2, m2⟩ := h.s20 (p' := q + 2)
      rw [z2]
      refine ⟨_, h2, m2, ?_⟩
      rw [if_pos d, F_X11_compared_b75, if_neg (by decide), b90_e (x := 7) (fun E => by rw [if_neg (by decide), if_neg (by decide), if_neg (by decide)]), h.1.2.1, nI_1, z1, if_neg (by decide), x16]
    · obtain ⟨z1, z2⟩ := y2 d
      obtain ⟨h2, m2⟩ := h.s20 (p' := q + 1)
      rw [z2]
      refine ⟨_, h2, m2, ?_⟩
      rw [if_neg d, F_X11_compared_b74, F_X11_compared_b75, if_pos rfl, b90_e (x := 8) (fun E => by rw [if_neg (by decide), if_neg (by decide), if_pos rfl]), h.1.2.1, show nI (q + 1) + 0 = nI (q + 1) from nI_add _ 0, z1, if_neg (by decide), x14]
def RrD (T : Tp) (s n : Nat) (D : Dt) (x : PR) (ex : Bool) (res : Option Dt) : Prop := match x with
  | .inl f => ∃ D' p, res = some D' ∧ RP D' T p (nI f) ∧ p ≤ 2000 ∧ 0 < f ∧ f < 100000 ∧ Sm (rrS (300 * s + n)) D D'
  | .inr (q, c, l) => ∃ D', res = some D' ∧ RrO T s n D q c l ex D'
theorem RrC.d {T : Tp} {s n : Nat} {D : Dt} {x : PR} {ex : Bool} {res : Option Dt} (hT : okT T) (h : RrC T s n D x ex res) : RrD T s n D x ex res := by
  have hL := hT.1
  cases x with
  | inl f =>
    obtain ⟨D', p, c', n', a1, a2, a3, a4, a5, a6, a7⟩ := h
    exact ⟨D', p, a1, a2.1, by omega, a5, a6, a7⟩
  | inr y => exact h
theorem RrD.seq {T : Tp} {s n q1 c1 : Nat} {D D1 : Dt} {l1 : List En} {x1 x2 : Bool} {f : Nat → Nat → PR} {res : Option Dt} (h : RrO T s n D q1 c1 l1 x1 D1) (g : RrD T s (n + l1.length) D1 (f q1 c1) x2 res) : RrD T s n D (pB (.inr (q1, c1, l1)) f) x2 res := by
  unfold pB
  simp only
  unfold RrD at g ⊢
  cases e : f q1 c1 with
  | inl e' =>
    rw [e] at g
    obtain ⟨D', p, a1, a2, a3, a5, a6, a7⟩ := g
    obtain ⟨_, _, _, _, _, _, b6⟩ := h
    exact ⟨D', p, a1, a2, a3, a5, a6, b6.trans (rr_w (by omega) a7)⟩
  | inr y =>
    obtain ⟨q2, c2, l2⟩ := y
    rw [e] at g
    obtain ⟨D', a, b⟩ := g
    exact ⟨D', a, h.seq b⟩
theorem RrD.to {T : Tp} {s n : Nat} {D : Dt} {x y : PR} {ex : Bool} {res : Option Dt} (h : RrD T s n D x ex res) (e : x = y) : RrD T s n D y ex res := by rw [← e]; exact h
theorem RrD.pre {T : Tp} {s n : Nat} {D D0 : Dt} {x : PR} {ex : Bool} {res : Option Dt} (h : RrD T s n D0 x ex res) (m : Sm (rrS (300 * s + n)) D D0) : RrD T s n D x ex res := by
  cases x with
  | inl f =>
    obtain ⟨D', p, a1, a2, a3, a5, a6, a7⟩ := h
    exact ⟨D', p, a1, a2, a3, a5, a6, m.trans a7⟩
  | inr y =>
    obtain ⟨q, c, l⟩ := y
    obtain ⟨D', a, p, b1, b2, b3, b4, b5, b6⟩ := h
    exact ⟨D', a, p, b1, b2, b3, b4, b5, m.trans b6⟩
/-- the sign of a comparison -/
theorem cmp_sg {T : Tp} {q : Nat} {α : Type} {X Y : α} (hT : okT T) : (if (if q < tpL T then nI (tpB T q) else -1) = (60 : Int32) then X else if (if q < tpL T then nI (tpB T q) else -1) = (61 : Int32) then X else if (if q < tpL T then nI (tpB T q) else -1) = (62 : Int32) then X else Y) = if 12 ≤ kd T q ∧ kd T q ≤ 16 then X else Y := by
  have n0 : ((if q < tpL T then nI (tpB T q) else -1) = (60 : Int32)) = (q < tpL T ∧ tpB T q = 60) := sgn_eq (c := 60) hT (by decide)
  have n1 : ((if q < tpL T then nI (tpB T q) else -1) = (61 : Int32)) = (q < tpL T ∧ tpB T q = 61) := sgn_eq (c := 61) hT (by decide)
  have n2 : ((if q < tpL T then nI (tpB T q) else -1) = (62 : Int32)) = (q < tpL T ∧ tpB T q = 62) := sgn_eq (c := 62) hT (by decide)
  simp only [n0, n1, n2]
  by_cases a0 : q < tpL T ∧ tpB T q = 60
  · obtain ⟨y1, y2⟩ := cmp_60 a0.1 a0.2 (Or.inl rfl)
    have : 12 ≤ kd T q ∧ kd T q ≤ 16 := by
      by_cases d : q + 1 < tpL T ∧ tpB T (q + 1) = 61
      · rw [(y1 d).1]; decide
      · rw [(y2 d).1]; decide
    rw [if_pos a0, if_pos this]
  · rw [if_neg a0]
    by_cases a1 : q < tpL T ∧ tpB T q = 61
    · rw [if_pos a1, if_pos (by rw [(cmp_61 a1.1 a1.2).1]; decide)]
    · rw [if_neg a1]
      by_cases a2 : q < tpL T ∧ tpB T q = 62
      · obtain ⟨y1, y2⟩ := cmp_60 a2.1 a2.2 (Or.inr rfl)
        have : 12 ≤ kd T q ∧ kd T q ≤ 16 := by
          by_cases d : q + 1 < tpL T ∧ tpB T (q + 1) = 61
          · rw [(y1 d).1]; decide
          · rw [(y2 d).1]; decide
        rw [if_pos a2, if_pos this]
      · rw [if_neg a2, if_neg (fun x => by
          obtain ⟨z1, z2 | z2 | z2⟩ := cmpN hT x
          · exact a0 ⟨z1, z2⟩
          · exact a1 ⟨z1, z2⟩
          · exact a2 ⟨z1, z2⟩)]
theorem r_cmp {T : Tp} {s p c n : Nat} {D : Dt} (hT : okT T) (hs : s < 6) (hp : p ≤ tpL T) (hc : c ≤ 60) (hb : 3 * n ≤ 6 * c + sbk T p) (h : RSt D T s p 0 c n) : RrD T s n D (pCmp T (sbk T p) c) true (F_X11_compared D) := by
  have hL := hT.1
  have hq := sbk_le hp
  have hv := r_sum hT hs hp hc hb h
  rw [F_X11_compared]
  unfold pCmp
  -- at fault
  have flt : ∀ (b : Nat) (E : Dt) (q2 c2 n2 : Nat) (g : Nat), RSt E T s q2 (nI g) c2 n2 → q2 ≤ 500 → c2 ≤ 100 → 0 < g → g < 100000 → 12 ≤ kd T q2 ∧ kd T q2 ≤ 16 → ∃ D' p, (if nI (tpB T q2) = (61 : Int32) then (F_X11_compared_b74 (nI (tpB T q2)) (setI E (11, 0, 0, 0) 20 (nI (q2 + 1)))) else (cbd (F_X11_sign (setI E (11, 0, 0, 0) 20 (nI (q2 + 1)))) (fun r22 D23 => (if r22 = (61 : Int32) then (F_X11_compared_b75 (nI (tpB T q2)) (1 : Int32) D23) else (F_X11_compared_b74 (nI (tpB T q2)) D23))))) = some D' ∧ RP D' T p (nI g) ∧ p ≤ 2000 ∧ Sm (rrS b) E D' := by
    intro b E q2 c2 n2 g hE h2 h3 hg1 hg2 hk
    have hne : ¬ nI g = 0 := nI_ne0 (by omega) (by omega)
    obtain ⟨r1, m1⟩ := hE.s20 (p' := q2 + 1)
    obtain ⟨D2, r2, m2, e2⟩ := cmp_run hT (by omega) hk r1
    have hnx : nx T q2 ≤ 900 := by
      have := nx_gt (T := T) (p := q2) (kd_lt (by omega))
      omega
    obtain ⟨D3, p3, c3, e3, r3, a1, a2, m3⟩ := r_sum_f (b := b) hT hne hnx (by omega) r2
    rw [e2, e3, vbd_s, F_X11_compared_b139, r_entry_f hne r3, vbd_s]
    exact ⟨D3, p3, rfl, r3.1, by omega, ((p21_rr m1).trans (p21_rr m2)).trans m3⟩
  cases ev : pSum T (sbk T p) c with
  | inl f =>
    rw [ev] at hv
    obtain ⟨D2, p2, c2, n2, e2, r2, a1, a2, a3, a4, m2⟩ := hv
    have hne : ¬ nI f = 0 := nI_ne0 (by omega) (by omega)
    rw [e2, vbd_s, r_sgn hT (by omega) r2.1, cbd_s, cmp_sg hT]
    by_cases hk : 12 ≤ kd T p2 ∧ kd T p2 ≤ 16
    · obtain ⟨D3, e3, r3, m3⟩ := r_counted (x := p2) (b := 300 * s + n) (by omega) r2
      rw [ft_n hne, ite_self] at r3
      obtain ⟨D4, p4, e4, r4, b1, m4⟩ := flt (300 * s + n) D3 p2 (c2 + 1) n2 f r3 (by omega) (by omega) a3 a4 hk
      rw [if_pos hk, F_X11_compared_b37, r2.1.2.1, e3, vbd_s, r3.1.2.1, nI_1, bnd_e, if_pos (kd_lt (T := T) (q := p2) (by omega)), e4]
      exact ⟨D4, p4, rfl, r4, b1, a3, a4, (m2.trans m3).trans m4⟩
    · obtain ⟨D3, e3, r3, m3⟩ := r_fails (x := p2) (c := 0) r2.1
      rw [ft_n hne] at r3
      rw [if_neg hk, r2.1.2.1, show F_X11_fails 0 (nI p2) D2 = _ from e3, vbd_s]
      exact ⟨D3, p2, rfl, r3, by omega, a3, a4, m2.trans (p21_rr (m21 m3))⟩
  | inr y =>
    obtain ⟨q1, c1, l1⟩ := y
    obtain ⟨v1, v2, v3, v4, v5⟩ := slen hL hq hc ev
    rw [ev] at hv
    obtain ⟨D2, e2, r2⟩ := hv
    obtain ⟨p4, d1, d2, d3, d4, d5, d6⟩ := r2
    have hp4 := d4 rfl
    subst hp4
    rw [e2, vbd_s, r_sgn hT (by omega) d1.1, cbd_s, cmp_sg hT]
    refine RrD.seq ⟨p4, d1, d2, d3, d4, d5, d6⟩ ?_
    by_cases hk : 12 ≤ kd T p4 ∧ kd T p4 ≤ 16
    · have hlt := kd_lt (T := T) (q := p4) (by omega)
      obtain ⟨g1, g2⟩ := nq_gt hlt
      obtain ⟨D3, e3, r3, m3⟩ := r_counted (x := p4) (b := 300 * s + (n + l1.length)) (by omega) d1
      rw [if_pos hk, if_pos hk, F_X11_compared_b37, d1.1.2.1, e3, vbd_s, r3.1.2.1, nI_1, bnd_e, if_pos hlt]
      by_cases c60 : 60 ≤ c1
      · rw [if_pos (show c1 = 60 by omega), ft_0] at r3
        obtain ⟨D4, p5, e4, r4, b1, m4⟩ := flt (300 * s + (n + l1.length)) D3 p4 (c1 + 1) (n + l1.length) (1 + 8 * p4 + 3) r3 (by omega) (by omega) (by omega) (by omega) hk
        rw [if_pos c60, e4]
        exact ⟨D4, p5, rfl, r4, b1, by omega, by omega, m3.trans m4⟩
      · rw [if_neg (show ¬ c1 = 60 by omega)] at r3
        obtain ⟨r4, m4⟩ := r3.s20 (p' := p4 + 1)
        obtain ⟨D5, r5, m5, e5⟩ := cmp_run hT (by omega) hk r4
        rw [if_neg c60, e5]
        refine RrD.pre ?_ ((m3.trans (p21_rr m4)).trans (p21_rr m5))
        have hs2 := r_sum hT hs (nx_le v2) (show c1 + 1 ≤ 60 by omega) (n := n + l1.length) (by show 3 * (n + l1.length) ≤ 6 * (c1 + 1) + nq T p4; omega) r5
        rw [show sbk T (nx T p4) = nq T p4 from rfl] at hs2
        cases ev2 : pSum T (nq T p4) (c1 + 1) with
        | inl f =>
          rw [ev2] at hs2
          obtain ⟨D6, p6, c6, n6, e6, r6, b1, b2, b3, b4, m6⟩ := hs2
          have hne : ¬ nI f = 0 := nI_ne0 (by omega) (by omega)
          rw [e6, vbd_s, F_X11_compared_b139, r_entry_f hne r6, vbd_s]
          exact ⟨D6, p6, rfl, r6.1, by omega, b3, b4, m6⟩
        | inr y2 =>
          obtain ⟨q2, c2, l2⟩ := y2
          obtain ⟨w1, w2, w3, w4, w5⟩ := slen hL g2 (show c1 + 1 ≤ 60 by omega) ev2
          rw [ev2] at hs2
          obtain ⟨D6, e6, r6⟩ := hs2
          obtain ⟨p6, f1, f2, f3, f4, f5, f6⟩ := r6
          obtain ⟨D7, e7, r7⟩ := r_ent (a0 := nI (kd T p4)) (a := cm (nI (kd T p4))) (b := 0) (q := q2) (ex := true) hs (show n + l1.length + l2.length < 300 by omega) f1 rfl f2 f3 f4
          rw [e6, vbd_s, F_X11_compared_b139, e7, vbd_s]
          exact RrD.seq ⟨p6, f1, f2, f3, f4, f5, f6⟩ ⟨D7, rfl, r7⟩
    · obtain ⟨D3, e3, r3, m3⟩ := r_fails (x := p4) (c := 0) d1.1
      rw [ft_0] at r3
      rw [if_neg hk, if_neg hk, d1.1.2.1, show F_X11_fails 0 (nI p4) D2 = _ from e3, vbd_s]
      exact ⟨D3, p4, rfl, r3, by omega, by omega, by omega, p21_rr (m21 m3)⟩
