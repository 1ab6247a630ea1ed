def RxO (T : Tp) (s n : Nat) (D : Dt) (q c : Nat) (l : List En) (D' : Dt) : Prop := ∃ p, RSt D' T s p 0 c (n + l.length) ∧ sbk T p = q ∧ p ≤ tpL T ∧ SgM D' (300 * s + n) l ∧ Sm (rxS (300 * s + n)) D D' ∧ D'.1 (11, 0, 0, 0) 25 = 0
def RxD (T : Tp) (s n : Nat) (D : Dt) (x : PR) (res : Option Dt) : Prop := match x with
  | .inl f => ∃ D' p, res = some D' ∧ RP D' T p (nI f) ∧ p ≤ 2000 ∧ 0 < f ∧ f < 100000 ∧ Sm (rxS (300 * s + n)) D D'
  | .inr (q, c, l) => ∃ D', res = some D' ∧ RxO T s n D q c l D'
theorem RxD.seq {T : Tp} {s n q1 c1 : Nat} {D D1 : Dt} {l1 : List En} {f : Nat → Nat → PR} {res : Option Dt} (h1 : SgM D1 (300 * s + n) l1) (h2 : Sm (rxS (300 * s + n)) D D1) (g : RxD T s (n + l1.length) D1 (f q1 c1) res) : RxD T s n D (pB (.inr (q1, c1, l1)) f) res := by
  unfold pB
  simp only
  unfold RxD at g ⊢
  cases e : f q1 c1 with
  | inl e' =>
    rw [e] at g
    obtain ⟨D', p, a1, a2, a3, a5, a6, a7⟩ := g
    exact ⟨D', p, a1, a2, a3, a5, a6, h2.trans (rx_w (by omega) a7)⟩
  | inr y =>
    obtain ⟨q2, c2, l2⟩ := y
    rw [e] at g
    obtain ⟨D', a, p, b1, b2, b3, b5, b6, b7⟩ := g
    exact ⟨D', a, p, by rw [List.length_append, ← Nat.add_assoc]; exact b1, b2, b3, SgM.app (h1.sx b6 (by omega)) (by rw [Nat.add_assoc]; exact b5), h2.trans (rx_w (by omega) b6), b7⟩
theorem RxD.to {T : Tp} {s n : Nat} {D : Dt} {x y : PR} {res : Option Dt} (h : RxD T s n D x res) (e : x = y) : RxD T s n D y res := by rw [← e]; exact h
theorem RxD.pre {T : Tp} {s n : Nat} {D D0 : Dt} {x : PR} {res : Option Dt} (h : RxD T s n D0 x res) (m : Sm (rxS (300 * s + n)) D D0) : RxD T s n D x res := by
  cases x with
  | inl f =>
    obtain ⟨D', p, a1, a2, a3, a5, a6, a7⟩ := h
    exact ⟨D', p, a1, a2, a3, a5, a6, m.trans a7⟩
  | inr y =>
    obtain ⟨q, c, l⟩ := y
    obtain ⟨D', a, p, b1, b2, b3, b5, b6, b7⟩ := h
    exact ⟨D', a, p, b1, b2, b3, b5, m.trans b6, b7⟩
theorem r_b9_f {T : Tp} {p fu : Nat} {f l1 : Int32} {D : Dt} (hf : ¬ f = 0) (h : RP D T p f) : F_X11_test_b9 (fu + 1) l1 1 D = some D := by
  rw [F_X11_test_b9, if_neg (by decide), h.2.2, if_neg hf]
theorem pCmp_lt {T : Tp} {q c q1 c1 : Nat} {l : List En} (hL : tpL T ≤ 400) (hq : q ≤ tpL T) (hc : c ≤ 60) (e : pCmp T q c = .inr (q1, c1, l)) : q < q1 ∧ q1 ≤ tpL T ∧ c1 ≤ 60 ∧ 3 * l.length + 6 * c + q + 9 ≤ 6 * c1 + q1 := by
  have hg := pCmp_gd hL hq hc
  rw [e] at hg
  obtain ⟨a1, a2, a3, a4, a5, a6, a7⟩ := hg
  refine ⟨?_, a2, a4, by omega⟩
  unfold pCmp at e
  cases ev : pSum T q c with
  | inl f => rw [ev] at e; cases e
  | inr y =>
    obtain ⟨q2, c2, l2⟩ := y
    obtain ⟨v1, v2, v3, v4, v5⟩ := slen hL hq hc ev
    rw [ev] at e
    unfold pB at e
    simp only at e
    by_cases hk : 12 ≤ kd T q2 ∧ kd T q2 ≤ 16
    · obtain ⟨g1, g2⟩ := nq_gt (kd_lt (T := T) (q := q2) (by omega))
      rw [if_pos hk] at e
      by_cases c60 : 60 ≤ c2
      · rw [if_pos c60] at e; cases e
      · rw [if_neg c60] at e
        cases ev2 : pSum T (nq T q2) (c2 + 1) with
        | inl f => rw [ev2] at e; cases e
        | inr z =>
          obtain ⟨q3, c3, l3⟩ := z
          obtain ⟨w1, w2, w3, w4, w5⟩ := slen hL g2 (show c2 + 1 ≤ 60 by omega) ev2
          rw [ev2] at e
          simp only [Sum.inr.injEq, Prod.mk.injEq] at e
          omega
    · rw [if_neg hk] at e; cases e
theorem r_opn {T : Tp} {s q c n d b : Nat} {x : Int32} {l : List Int32} {D : Dt} (hx : x = 9 ∨ x = 12) (hd : d ≤ 10) (hl : l.length < 402) (h : RSt D T s q 0 c n) (hS : SkS D l d) : (d = 10 → ∃ D', F_X11_opens x D = some D' ∧ RP D' T q (nI (1 + 8 * q + 2)) ∧ Sm (rxS b) D D') ∧ (d < 10 → ∃ D', F_X11_opens x D = some D' ∧ RSt D' T s q 0 c n ∧ SkS D' (x :: l) (d + 1) ∧ Sm skT D D') := by
  have e12 : F_X11_opens x D = F_X11_opens_b12 x x D := by
    rw [F_X11_opens]
    rcases hx with rfl | rfl
    · rw [if_pos rfl]
    · rw [if_neg (by decide), if_pos rfl]
  have b30 : ∀ (E : Dt), SkS E l d → ∃ D', F_X11_opens_b30 x x E = some D' ∧ SkS D' (x :: l) (d + 1) ∧ Sm skT E D' := by
    intro E hE
    have m : Sm skT E (setI E (11, 0, 0, 0) 25 (nI (d + 1))) := Sm.sI (by simp [skT])
    have S1 : SkS (setI E (11, 0, 0, 0) 25 (nI (d + 1))) l (d + 1) := ⟨by rw [gI_k (by decide)]; exact hE.1, Stk.cg (fun k => by rw [gI, if_neg (by simp)]) l hE.2.1, gI_s⟩
    obtain ⟨D', e, S2, m2⟩ := r_push (a := x) (x := x) hl S1
    rw [F_X11_opens_b30, hE.2.2, nI_1, bnd_e]
    exact ⟨D', e, S2, m.trans m2⟩
  have k10 : (nI d = (10 : Int32)) = (d = 10) := propext ⟨fun e => (nI_eq (b := 10) (by omega) (by decide)).mp e, fun e => by rw [e]; rfl⟩
  rw [e12, F_X11_opens_b12, hS.2.2]
  simp only [k10]
  refine ⟨fun hd10 => ?_, fun hd10 => ?_⟩
  · obtain ⟨D1, e1, r1, m1⟩ := r_fails (x := q) (c := 2) h.1
    have S1 := hS.rr (b := b) (p21_rr (m21 m1))
    obtain ⟨D2, e2, S2, m2⟩ := b30 D1 S1
    rw [ft_0] at r1
    rw [if_pos hd10, h.1.2.1, show F_X11_fails 2 (nI q) D = _ from e1, vbd_s]
    exact ⟨D2, e2, r1.st m2, (rr_rx (p21_rr (m21 m1))).trans (st_rx m2)⟩
  · obtain ⟨D2, e2, S2, m2⟩ := b30 D hS
    rw [if_neg (by omega)]
    exact ⟨D2, e2, h.st m2, S2, m2⟩
theorem r_opn2 {x : Int32} {l : List Int32} {d : Nat} {D : Dt} (hx : x = 10 ∨ x = 11) (hl : l.length < 402) (hS : SkS D l d) : ∃ D', F_X11_opens x D = some D' ∧ SkS D' (x :: l) d ∧ Sm skT D D' := by
  have e12 : F_X11_opens x D = F_X11_opens_b40 x x D := by
    rw [F_X11_opens]
    rcases hx with rfl | rfl
    · rw [if_neg (by decide), if_neg (by decide)]
    · rw [if_neg (by decide), if_neg (by decide)]
  rw [e12]
  exact r_push hl hS
def below (rest : List Lv) : List Int32 := if rest.isEmpty = true then [] else 12 :: phys rest
def n1 (a : Bool) : Nat := if a = true then 1 else 0
theorem phys_c {r k : Nat} {w a : Bool} {rest : List Lv} : phys ((r, w, a, k) :: rest) = List.replicate k 9 ++ (List.replicate (n1 a) 10 ++ (List.replicate (n1 w) 11 ++ below rest)) := by
  show (List.replicate k 9 ++ ((if a = true then [10] else []) ++ (if w = true then [11] else []))) ++ below rest = _
  cases a <;> cases w <;> simp [n1]
theorem below_h {rest : List Lv} {x : Int32} (h : x ≠ 12) (h1 : x ≠ -1) : ¬ (below rest).headD (-1) = x := by
  unfold below
  split
  · exact fun e => h1 e.symm
  · exact fun e => h e.symm
theorem anL_r {a : Bool} : anL a = List.replicate (n1 a) (36, 0) := by cases a <;> rfl
theorem oL_r {a : Bool} : oL a = List.replicate (n1 a) (37, 0) := by cases a <;> rfl
theorem lv1 {x : Lv} {rest : List Lv} (h : lvOk (x :: rest)) : x.1 ≤ 10 ∧ x.2.2.2 ≤ x.1 := by
  cases rest with
  | nil => exact ⟨Nat.le_of_eq h.1, h.2⟩
  | cons y ys => exact ⟨h.1, h.2.1⟩
theorem lvT {x x' : Lv} {rest : List Lv} (h : lvOk (x :: rest)) (h1 : x'.1 = x.1) (h2 : x'.2.2.2 ≤ x'.1) : lvOk (x' :: rest) := by
  cases rest with
  | nil => exact ⟨by rw [h1]; exact h.1, h2⟩
  | cons y ys => exact ⟨by rw [h1]; exact h.1, h2, by rw [h1]; exact h.2.2.1, h.2.2.2⟩
