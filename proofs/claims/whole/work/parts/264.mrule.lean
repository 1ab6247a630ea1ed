/-! ===== the reference reads a RULE ===== -/
def rrS (b : Nat) : LA → Nat → Bool := fun la k => (la == (11, 0, 0, 0) && decide ((20 ≤ k ∧ k ≤ 21) ∨ k = 24 ∨ k = 26)) || ((la == (11, 0, 31, 0) || la == (11, 0, 32, 0)) && decide (b ≤ k))
theorem rr_00 {b k : Nat} : rrS b (11, 0, 0, 0) k = decide ((20 ≤ k ∧ k ≤ 21) ∨ k = 24 ∨ k = 26) := by
  have h2 : (((11, 0, 0, 0) : LA) == (11, 0, 31, 0)) = false := rfl
  have h3 : (((11, 0, 0, 0) : LA) == (11, 0, 32, 0)) = false := rfl
  simp only [rrS, h2, h3, beq_self_eq_true, Bool.true_and, Bool.false_or, Bool.or_false, Bool.false_and]
theorem p21_rr {b : Nat} {D D' : Dt} (s : Sm p21 D D') : Sm (rrS b) D D' := s.mono (fun la k e => by
  by_cases c : la = (11, 0, 0, 0)
  · rw [c, rr_00, decide_eq_false_iff_not] at e
    simp [p21]
    omega
  · simp [p21, c])
theorem rr_w {b b' : Nat} {D D' : Dt} (h : b ≤ b') (s : Sm (rrS b') D D') : Sm (rrS b) D D' := s.mono (fun la k e => by
  simp only [rrS, Bool.or_eq_false_iff, Bool.and_eq_false_iff, decide_eq_false_iff_not] at e ⊢
  refine ⟨e.1, ?_⟩
  rcases e.2 with x | x
  · exact Or.inl x
  · exact Or.inr (by omega))
def RSt (D : Dt) (T : Tp) (s p : Nat) (f : Int32) (c n : Nat) : Prop := RP D T p f ∧ D.1 (11, 0, 0, 0) 22 = nI s ∧ D.1 (11, 0, 0, 0) 24 = nI n ∧ D.1 (11, 0, 0, 0) 26 = nI c ∧ D.1 (11, 0, 0, 0) 28 = 12
theorem RSt.p {D D' : Dt} {T : Tp} {s p c n p' : Nat} {f f' : Int32} (h : RSt D T s p f c n) (r : RP D' T p' f') (m : Sm p21 D D') : RSt D' T s p' f' c n := ⟨r, by rw [m.i (by simp [p21])]; exact h.2.1, by rw [m.i (by simp [p21])]; exact h.2.2.1, by rw [m.i (by simp [p21])]; exact h.2.2.2.1, by rw [m.i (by simp [p21])]; exact h.2.2.2.2⟩
theorem RSt.s20 {D : Dt} {T : Tp} {s p c n p' : Nat} {f : Int32} (h : RSt D T s p f c n) : RSt (setI D (11, 0, 0, 0) 20 (nI p')) T s p' f c n ∧ Sm p21 D (setI D (11, 0, 0, 0) 20 (nI p')) := by
  obtain ⟨r, m⟩ := h.1.s20 (p' := p')
  exact ⟨h.p r (p20_21 m), p20_21 m⟩
def SgM (D : Dt) (b : Nat) (l : List En) : Prop := ∀ i, i < l.length → D.1 (11, 0, 31, 0) (b + i) = cm (l.getD i (0, 0)).1 ∧ D.1 (11, 0, 32, 0) (b + i) = (l.getD i (0, 0)).2
theorem SgM.app {D : Dt} {n : Nat} {l1 l2 : List En} (a : SgM D n l1) (b : SgM D (n + l1.length) l2) : SgM D n (l1 ++ l2) := by
  intro i hi
  rw [List.length_append] at hi
  by_cases c : i < l1.length
  · rw [show (l1 ++ l2).getD i (0, 0) = l1.getD i (0, 0) by simp [List.getD, List.getElem?_append_left c]]
    exact a i c
  · have := b (i - l1.length) (by omega)
    rw [show n + l1.length + (i - l1.length) = n + i by omega] at this
    rw [show (l1 ++ l2).getD i (0, 0) = l2.getD (i - l1.length) (0, 0) by simp [List.getD, List.getElem?_append_right (show l1.length ≤ i by omega)]]
    exact this
theorem SgM.sm {D D' : Dt} {n b : Nat} {l : List En} (a : SgM D n l) (m : Sm (rrS b) D D') (h : n + l.length ≤ b) : SgM D' n l := by
  intro i hi
  have h1 : rrS b (11, 0, 31, 0) (n + i) = false := by simp [rrS]; omega
  have h2 : rrS b (11, 0, 32, 0) (n + i) = false := by simp [rrS]; omega
  rw [m.i h1, m.i h2]
  exact a i hi
def RrO (T : Tp) (s n : Nat) (D : Dt) (q c : Nat) (l : List En) (ex : Bool) (D' : Dt) : Prop := ∃ p, RSt D' T s p 0 c (n + l.length) ∧ sbk T p = q ∧ p ≤ tpL T ∧ (ex = true → p = q) ∧ SgM D' (300 * s + n) l ∧ Sm (rrS (300 * s + n)) D D'
def RrC (T : Tp) (s n : Nat) (D : Dt) (x : PR) (ex : Bool) (res : Option Dt) : Prop := match x with
  | .inl f => ∃ D' p c' n', res = some D' ∧ RSt D' T s p (nI f) c' n' ∧ p ≤ tpL T + 50 ∧ c' ≤ 70 ∧ 0 < f ∧ f < 100000 ∧ Sm (rrS (300 * s + n)) D D'
  | .inr (q, c, l) => ∃ D', res = some D' ∧ RrO T s n D q c l ex D'
theorem r_entry {D : Dt} {T : Tp} {s p c n : Nat} {a b : Int32} (hs : s < 6) (hn : n < 300) (h : RSt D T s p 0 c n) : ∃ D', F_X11_entry a b D = some D' ∧ RSt D' T s p 0 c (n + 1) ∧ D'.1 (11, 0, 31, 0) (300 * s + n) = a ∧ D'.1 (11, 0, 32, 0) (300 * s + n) = b ∧ Sm (rrS (300 * s + n)) D D' := by
  obtain ⟨h1, h2, h3, h4, h5⟩ := h
  have e22 : (setI D (11, 0, 31, 0) (300 * s + n) a).1 (11, 0, 0, 0) 22 = nI s := by rw [gI, if_neg (by simp)]; exact h2
  have e24 : (setI D (11, 0, 31, 0) (300 * s + n) a).1 (11, 0, 0, 0) 24 = nI n := by rw [gI, if_neg (by simp)]; exact h3
  have e24' : (setI (setI D (11, 0, 31, 0) (300 * s + n) a) (11, 0, 32, 0) (300 * s + n) b).1 (11, 0, 0, 0) 24 = nI n := by rw [gI, if_neg (by simp)]; exact e24
  have ix : (300 : Int32) * nI s + nI n = nI (300 * s + n) := by rw [show (300 : Int32) = nI 300 from rfl, pk_mul, nI_add]
  have hb := inBe (show 300 * s + n < 1800 by omega) (by decide)
  rw [F_X11_entry, h1.2.2, if_pos rfl, h2, h3, ix, grd_t hb, nIc (by omega), bnd_e, e22, e24, ix, grd_t hb, nIc (by omega), bnd_e, e24', nI_1, bnd_e]
  generalize hD' : setI (setI (setI D (11, 0, 31, 0) (300 * s + n) a) (11, 0, 32, 0) (300 * s + n) b) (11, 0, 0, 0) 24 (nI (n + 1)) = D'
  have m : Sm (fun la k => (la == (11, 0, 31, 0) || la == (11, 0, 32, 0)) && k == 300 * s + n || (la == (11, 0, 0, 0) && k == 24)) D D' := by
    rw [← hD']
    exact ((Sm.sI (by simp)).trans (Sm.sI (by simp))).trans (Sm.sI (by simp))
  refine ⟨D', rfl, ⟨⟨h1.1.sm m (by simp) (fun k => by simp), by rw [m.i (by simp)]; exact h1.2.1, by rw [m.i (by simp)]; exact h1.2.2⟩, by rw [m.i (by simp)]; exact h2, by rw [← hD', gI_s], by rw [m.i (by simp)]; exact h4, by rw [m.i (by simp)]; exact h5⟩, by rw [← hD']; simp [gI], by rw [← hD']; simp [gI], m.mono (fun la k e => ?_)⟩
  by_cases c : la = (11, 0, 0, 0)
  · rw [c, rr_00, decide_eq_false_iff_not] at e
    simp [c]
    omega
  · simp only [rrS, Bool.or_eq_false_iff, Bool.and_eq_false_iff, decide_eq_false_iff_not, beq_eq_false_iff_ne] at e ⊢
    refine ⟨?_, Or.inl c⟩
    rcases e.2 with x | x
    · exact Or.inl x
    · exact Or.inr (by omega)
theorem r_entry_f {D : Dt} {T : Tp} {s p c n : Nat} {f a b : Int32} (hf : ¬ f = 0) (h : RSt D T s p f c n) : F_X11_entry a b D = some D := by
  rw [F_X11_entry, h.1.2.2, if_neg hf]
theorem r_ent {D : Dt} {T : Tp} {s p c n q : Nat} {a a0 b : Int32} {ex : Bool} (hs : s < 6) (hn : n < 300) (h : RSt D T s p 0 c n) (ha : cm a0 = a) (hq : sbk T p = q) (hp : p ≤ tpL T) (hx : ex = true → p = q) : ∃ D', F_X11_entry a b D = some D' ∧ RrO T s n D q c [(a0, b)] ex D' := by
  obtain ⟨D', e, r, x1, x2, m⟩ := r_entry (a := a) (b := b) hs hn h
  refine ⟨D', e, p, r, hq, hp, hx, fun i hi => ?_, m⟩
  have : i = 0 := by simp only [List.length_cons, List.length_nil] at hi; omega
  subst this
  exact ⟨by rw [Nat.add_zero, x1]; exact ha.symm, by rw [Nat.add_zero, x2]; rfl⟩
theorem RrO.seq {T : Tp} {s n q1 c1 q2 c2 : Nat} {D D1 D2 : Dt} {l1 l2 : List En} {x1 x2 : Bool} (h : RrO T s n D q1 c1 l1 x1 D1) (g : RrO T s (n + l1.length) D1 q2 c2 l2 x2 D2) : RrO T s n D q2 c2 (l1 ++ l2) x2 D2 := by
  obtain ⟨p1, a1, a2, a3, a4, a5, a6⟩ := h
  obtain ⟨p2, b1, b2, b3, b4, b5, b6⟩ := g
  refine ⟨p2, by rw [List.length_append, ← Nat.add_assoc]; exact b1, b2, b3, b4, SgM.app (a5.sm b6 (by omega)) (by rw [Nat.add_assoc]; exact b5), a6.trans (rr_w (by omega) b6)⟩
/-- behind a part that went well -/
theorem RrC.seq {T : Tp} {s n q1 c1 : Nat} {D D1 : Dt} {l1 : List En} {x1 x2 : Bool} {f : Nat → Nat → PR} {res : Option Dt} (h : RrO T s n D q1 c1 l1 x1 D1) (g : RrC T s (n + l1.length) D1 (f q1 c1) x2 res) : RrC T s n D (pB (.inr (q1, c1, l1)) f) x2 res := by
  unfold pB
  simp only
  unfold RrC at g ⊢
  cases e : f q1 c1 with
  | inl e' =>
    rw [e] at g
    obtain ⟨D', p, c', n', a1, a2, a3, a4, a5, a6, a7⟩ := g
    obtain ⟨_, _, _, _, _, _, b6⟩ := h
    exact ⟨D', p, c', n', a1, a2, a3, a4, a5, a6, b6.trans (rr_w (by omega) a7)⟩
  | inr y =>
    obtain ⟨q2, c2, l2⟩ := y
    rw [e] at g
    obtain ⟨D', a, b⟩ := g
    exact ⟨D', a, h.seq b⟩
theorem RrC.to {T : Tp} {s n : Nat} {D : Dt} {x y : PR} {ex : Bool} {res : Option Dt} (h : RrC T s n D x ex res) (e : x = y) : RrC T s n D y ex res := by rw [← e]; exact h
theorem RrC.pre {T : Tp} {s n : Nat} {D D0 : Dt} {x : PR} {ex : Bool} {res : Option Dt} (h : RrC T s n D0 x ex res) (m : Sm (rrS (300 * s + n)) D D0) : RrC T s n D x ex res := by
  cases x with
  | inl f =>
    obtain ⟨D', p, c', n', a1, a2, a3, a4, a5, a6, a7⟩ := h
    exact ⟨D', p, c', n', a1, a2, a3, a4, a5, a6, m.trans a7⟩
  | inr y =>
    obtain ⟨q, c, l⟩ := y
    obtain ⟨D', a, p, b1, b2, b3, b4, b5, b6⟩ := h
    exact ⟨D', a, p, b1, b2, b3, b4, b5, m.trans b6⟩
theorem r_wordOf {k : Nat} {D : Dt} (hk : k < 12) : F_X11_wordOf (nI k) D = some (sx k, D) := by
  have : k = 0 ∨ k = 1 ∨ k = 2 ∨ k = 3 ∨ k = 4 ∨ k = 5 ∨ k = 6 ∨ k = 7 ∨ k = 8 ∨ k = 9 ∨ k = 10 ∨ k = 11 := by omega
  rcases this with rfl | rfl | rfl | rfl | rfl | rfl | rfl | rfl | rfl | rfl | rfl | rfl <;> rfl
def wdX (T : Tp) (q : Nat) : Nat := if 20 ≤ kd T q ∧ kd T q < 32 then kd T q - 20 else 12
theorem r_vWord {D : Dt} {T : Tp} {q : Nat} {f l1 : Int32} {kk : Int32 → Int32 → Dt → Option Dt} (hT : okT T) (hq : q < 100000) (h : RP D T q f) (h28 : D.1 (11, 0, 0, 0) 28 = 12) : ∀ m fu k, k + m = 12 → m < fu → (∀ i, i < k → kd T q ≠ 20 + i) → F_X11_value_b37 kk fu l1 (nI k) D = kk l1 (nI (wdX T q)) D := by
  intro m
  induction m with
  | zero =>
    intro fu k hk hf hno
    obtain ⟨fu, rfl⟩ : ∃ g, fu = g + 1 := ⟨fu - 1, by omega⟩
    have : wdX T q = 12 := by
      unfold wdX
      split
      · rename_i c
        have := hno (kd T q - 20) (by omega)
        omega
      · rfl
    have hk12 : k = 12 := by omega
    rw [F_X11_value_b37, h28, this, hk12, if_pos (show (12 : Int32) ≤ nI 12 by decide)]
  | succ m ih =>
    intro fu k hk hf hno
    obtain ⟨fu, rfl⟩ : ∃ g, fu = g + 1 := ⟨fu - 1, by omega⟩
    rw [F_X11_value_b37, h28, if_neg (show ¬ (12 : Int32) ≤ nI k from nI_ge (b := 12) (by omega) (by decide)), r_wordOf (by omega), cbd_s, grd_t (sx_b k (by omega)).1, r_word hT hq (by omega) h, cbd_s]
    by_cases c : kd T q = 20 + k
    · have : wdX T q = k := by
        unfold wdX
        rw [if_pos (by omega)]
        omega
      rw [i1t c, this]
    · rw [i1f c, bnd_e, nI_1]
      exact ih fu (k + 1) (by omega) (by omega) (fun i hi => by
        by_cases ci : i = k
        · rw [ci]; exact c
        · exact hno i (by omega))
theorem r_counted {D : Dt} {T : Tp} {s p c n x b : Nat} {f : Int32} (hc : c < 1000) (h : RSt D T s p f c n) : ∃ D', F_X11_isCounted (nI x) D = some D' ∧ RSt D' T s p (if c = 60 then ft f (nI (1 + 8 * x + 3)) else f) (c + 1) n ∧ Sm (rrS b) D D' := by
  have b15 : ∀ {E : Dt} {g : Int32}, RSt E T s p g c n → ∃ D', F_X11_isCounted_b15 (nI x) E = some D' ∧ RSt D' T s p g (c + 1) n ∧ Sm (rrS b) E D' := by
    intro E g hE
    have m : Sm (fun la k => la == (11, 0, 0, 0) && k == 26) E (setI E (11, 0, 0, 0) 26 (nI (c + 1))) := Sm.sI (by simp)
    rw [F_X11_isCounted_b15, hE.2.2.2.1, nI_1, bnd_e]
    refine ⟨_, rfl, ⟨⟨hE.1.1.sm m (by simp) (fun k => by simp), by rw [m.i (by simp)]; exact hE.1.2.1, by rw [m.i (by simp)]; exact hE.1.2.2⟩, by rw [m.i (by simp)]; exact hE.2.1, by rw [m.i (by simp)]; exact hE.2.2.1, gI_s, by rw [m.i (by simp)]; exact hE.2.2.2.2⟩, m.mono (fun la k e => ?_)⟩
    by_cases cl : la = (11, 0, 0, 0)
    · rw [cl, rr_00, decide_eq_false_iff_not] at e
      simp [cl]
      omega
    · simp [cl]
  have k60 : (nI c = (60 : Int32)) = (c = 60) := propext ⟨fun e => (nI_eq (b := 60) (by omega) (by decide)).mp e, fun e => by rw [e]; rfl⟩
  rw [F_X11_isCounted, h.2.2.2.1]
  simp only [k60]
  by_cases c60 : c = 60
  · obtain ⟨D1, e1, r1, m1⟩ := r_fails (x := x) (c := 3) h.1
    obtain ⟨D2, e2, r2, m2⟩ := b15 (h.p r1 (m21 m1))
    rw [if_pos c60, if_pos c60, show F_X11_fails 3 (nI x) D = _ from e1, vbd_s]
    exact ⟨D2, e2, r2, (p21_rr (m21 m1)).trans m2⟩
  · rw [if_neg c60, if_neg c60]
    exact b15 h
