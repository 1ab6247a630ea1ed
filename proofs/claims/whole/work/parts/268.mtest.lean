/-! ===== the reference's TEST: a stack ===== -/
theorem pB_as {x : PR} {f g : Nat → Nat → PR} : pB (pB x f) g = pB x (fun q c => pB (f q c) g) := by
  unfold pB
  cases x with
  | inl e => rfl
  | inr y =>
    obtain ⟨q, c, l⟩ := y
    simp only
    cases f q c with
    | inl e => rfl
    | inr z =>
      obtain ⟨q1, c1, l1⟩ := z
      simp only
      cases g q1 c1 with
      | inl e => rfl
      | inr u => simp only [List.append_assoc]
theorem pB_nil {q c : Nat} {f : Nat → Nat → PR} : pB (.inr (q, c, [])) f = f q c := by
  unfold pB
  simp only [List.nil_append]
  cases f q c with
  | inl e => rfl
  | inr z => rfl
theorem pB_r {x : PR} : pB x (fun q c => .inr (q, c, [])) = x := by
  unfold pB
  cases x with
  | inl e => rfl
  | inr y => simp only [List.append_nil]
theorem pB_cg {x : PR} {f g : Nat → Nat → PR} (h : ∀ q c l, x = .inr (q, c, l) → f q c = g q c) : pB x f = pB x g := by
  unfold pB
  cases x with
  | inl e => rfl
  | inr y =>
    obtain ⟨q, c, l⟩ := y
    simp only
    rw [h q c l rfl]
theorem pB_ap {q c : Nat} {l1 l2 : List En} {f : Nat → Nat → PR} : pB (.inr (q, c, l1 ++ l2)) f = pB (.inr (q, c, l1)) (fun q c => pB (.inr (q, c, l2)) f) := by
  unfold pB
  simp only
  cases f q c with
  | inl e => rfl
  | inr z => simp only [List.append_assoc]
theorem pTL_st {T : Tp} {F : Nat → Nat → PR} (hF : ∀ q c, q ≤ tpL T → c ≤ 60 → gdP T q c 9 0 [] [true] (F q c)) : ∀ m m' w q c, tpL T < m + q → tpL T < m' + q → q ≤ tpL T → c ≤ 60 → pTL T F m w q c = pTL T F m' w q c
  | 0, _, _, q, _, h, _, hq, _ => absurd h (by omega)
  | _ + 1, 0, _, q, _, _, h, hq, _ => absurd h (by omega)
  | m + 1, m' + 1, w, q, c, h, h', hq, hc => by
    rw [pTL, pTL]
    by_cases h36 : kd T q = 36
    · rw [if_pos h36, if_pos h36]
      obtain ⟨g1, g2⟩ := nq_gt (kd_lt (T := T) (q := q) (by omega))
      refine pB_cg (fun q1 c1 l1 e => ?_)
      obtain ⟨v1, v2, v3, v4, v5⟩ := flen hF g2 hc e
      refine pB_cg (fun q2 c2 l2 e2 => ?_)
      simp only [Sum.inr.injEq, Prod.mk.injEq] at e2
      exact pTL_st hF m m' w q2 c2 (by omega) (by omega) (by omega) (by omega)
    · rw [if_neg h36, if_neg h36]
      by_cases h37 : kd T q = 37
      · rw [if_pos h37, if_pos h37]
        obtain ⟨g1, g2⟩ := nq_gt (kd_lt (T := T) (q := q) (by omega))
        refine pB_cg (fun q0 c0 l0 e0 => ?_)
        simp only [Sum.inr.injEq, Prod.mk.injEq] at e0
        refine pB_cg (fun q1 c1 l1 e => ?_)
        obtain ⟨v1, v2, v3, v4, v5⟩ := flen hF (by omega) (by omega) e
        exact pTL_st hF m m' true q1 c1 (by omega) (by omega) (by omega) (by omega)
      · rw [if_neg h37, if_neg h37]
theorem pTL_e {T : Tp} {F : Nat → Nat → PR} (hL : tpL T ≤ 400) (hF : ∀ q c, q ≤ tpL T → c ≤ 60 → gdP T q c 9 0 [] [true] (F q c)) {w : Bool} {q c : Nat} (hq : q ≤ tpL T) (hc : c ≤ 60) : pTL T F 401 w q c = if kd T q = 36 then pB (F (nq T q) c) (fun q1 c1 => pB (.inr (q1, c1, [(36, 0)])) (fun q2 c2 => pTL T F 401 w q2 c2)) else if kd T q = 37 then pB (.inr (nq T q, c, oL w)) (fun q0 c0 => pB (F q0 c0) (fun q1 c1 => pTL T F 401 true q1 c1)) else .inr (q, c, oL w) := by
  rw [pTL_st hF 401 402 w q c (by omega) (by omega) hq hc, pTL]
abbrev Lv : Type := Nat × Bool × Bool × Nat
def nots (k : Nat) : List En := List.replicate k (35, 0)
def anL (a : Bool) : List En := if a = true then [(36, 0)] else []
def bs (x : Lv) : List Int32 := List.replicate x.2.2.2 9 ++ ((if x.2.2.1 = true then [10] else []) ++ (if x.2.1 = true then [11] else []))
def phys : List Lv → List Int32
  | [] => []
  | x :: rest => bs x ++ (if rest.isEmpty = true then [] else 12 :: phys rest)
def ow : List Lv → Nat
  | [] => 0
  | x :: rest => x.2.2.2 + (anL x.2.2.1).length + (oL x.2.1).length + ow rest
def lvOk : List Lv → Prop
  | [] => True
  | [x] => x.1 = 10 ∧ x.2.2.2 ≤ x.1
  | x :: y :: rest => x.1 ≤ 10 ∧ x.2.2.2 ≤ x.1 ∧ x.1 + y.2.2.2 + 1 = y.1 ∧ lvOk (y :: rest)
def Kc (T : Tp) : List Lv → Nat → Nat → PR
  | [], q, c => .inr (q, c, [])
  | x :: rest, q, c => pB (.inr (q, c, nots x.2.2.2 ++ anL x.2.2.1)) (fun q0 c0 => pB (pTL T (pFct T x.1) 401 x.2.1 q0 c0) (fun q1 c1 => if rest.isEmpty = true then .inr (q1, c1, []) else if kd T q1 = 6 then Kc T rest (nq T q1) c1 else .inl (1 + 8 * q1)))
def Sp (T : Tp) (e : Bool) (x : Lv) (rest : List Lv) (q c : Nat) : PR := if e = true then pB (pFct T (x.1 - x.2.2.2) q c) (fun q1 c1 => Kc T (x :: rest) q1 c1) else Kc T (x :: rest) q c
def skT : LA → Nat → Bool := fun la k => (la == (11, 0, 0, 0) && (k == 25 || k == 27)) || la == (11, 0, 37, 0)
def rxS (b : Nat) : LA → Nat → Bool := fun la k => rrS b la k || skT la k
theorem rr_rx {b : Nat} {D D' : Dt} (s : Sm (rrS b) D D') : Sm (rxS b) D D' := s.mono (fun la k e => (Bool.or_eq_false_iff.mp e).1)
theorem st_rx {b : Nat} {D D' : Dt} (s : Sm skT D D') : Sm (rxS b) D D' := s.mono (fun la k e => (Bool.or_eq_false_iff.mp e).2)
theorem rx_w {b b' : Nat} {D D' : Dt} (h : b ≤ b') (s : Sm (rxS b') D D') : Sm (rxS b) D D' := s.mono (fun la k e => by
  obtain ⟨e1, e2⟩ := Bool.or_eq_false_iff.mp e
  refine Bool.or_eq_false_iff.mpr ⟨?_, e2⟩
  simp only [rrS, Bool.or_eq_false_iff, Bool.and_eq_false_iff, decide_eq_false_iff_not] at e1 ⊢
  refine ⟨e1.1, ?_⟩
  rcases e1.2 with x | x
  · exact Or.inl x
  · exact Or.inr (by omega))
theorem RSt.st {D D' : Dt} {T : Tp} {s p c n : Nat} {f : Int32} (h : RSt D T s p f c n) (m : Sm skT D D') : RSt D' T s p f c n := ⟨⟨h.1.1.sm m (by simp [skT]) (fun k => by simp [skT]), by rw [m.i (by simp [skT])]; exact h.1.2.1, by rw [m.i (by simp [skT])]; exact h.1.2.2⟩, by rw [m.i (by simp [skT])]; exact h.2.1, by rw [m.i (by simp [skT])]; exact h.2.2.1, by rw [m.i (by simp [skT])]; exact h.2.2.2.1, by rw [m.i (by simp [skT])]; exact h.2.2.2.2⟩
theorem RP.st {D D' : Dt} {T : Tp} {p : Nat} {f : Int32} (h : RP D T p f) (m : Sm skT D D') : RP D' T p f := ⟨h.1.sm m (by simp [skT]) (fun k => by simp [skT]), by rw [m.i (by simp [skT])]; exact h.2.1, by rw [m.i (by simp [skT])]; exact h.2.2⟩
theorem SgM.sx {D D' : Dt} {n b : Nat} {l : List En} (a : SgM D n l) (m : Sm (rxS b) D D') (h : n + l.length ≤ b) : SgM D' n l := by
  intro i hi
  have h1 : rxS b (11, 0, 31, 0) (n + i) = false := by simp [rxS, rrS, skT]; omega
  have h2 : rxS b (11, 0, 32, 0) (n + i) = false := by simp [rxS, rrS, skT]; omega
  rw [m.i h1, m.i h2]
  exact a i hi
def Stk (D : Dt) : List Int32 → Prop
  | [] => True
  | x :: l => D.1 (11, 0, 37, 0) l.length = x ∧ Stk D l
def SkS (D : Dt) (l : List Int32) (d : Nat) : Prop := D.1 (11, 0, 0, 0) 27 = nI l.length ∧ Stk D l ∧ D.1 (11, 0, 0, 0) 25 = nI d
theorem Stk.cg {D D' : Dt} (h : ∀ k, D'.1 (11, 0, 37, 0) k = D.1 (11, 0, 37, 0) k) : ∀ l, Stk D l → Stk D' l
  | [], _ => trivial
  | x :: l, hl => ⟨by rw [h]; exact hl.1, Stk.cg h l hl.2⟩
theorem SkS.rr {D D' : Dt} {b d : Nat} {l : List Int32} (h : SkS D l d) (m : Sm (rrS b) D D') : SkS D' l d := ⟨by rw [m.i (by rw [rr_00]; decide)]; exact h.1, Stk.cg (fun k => m.i (by simp [rrS])) l h.2.1, by rw [m.i (by rw [rr_00]; decide)]; exact h.2.2⟩
theorem Stk.set {D : Dt} {j : Nat} {x : Int32} : ∀ l : List Int32, l.length ≤ j → Stk D l → Stk (setI D (11, 0, 37, 0) j x) l
  | [], _, _ => trivial
  | y :: l, h, hl => by
    simp only [List.length_cons] at h
    exact ⟨by rw [gI_k (by omega)]; exact hl.1, Stk.set l (by omega) hl.2⟩
theorem r_push {D : Dt} {l : List Int32} {d : Nat} {a x : Int32} (hl : l.length < 402) (h : SkS D l d) : ∃ D', F_X11_opens_b40 a x D = some D' ∧ SkS D' (x :: l) d ∧ Sm skT D D' := by
  rw [F_X11_opens_b40, h.1, grd_t (inBe hl (by decide)), nIc (by omega), bnd_e]
  have e27 : (setI D (11, 0, 37, 0) l.length x).1 (11, 0, 0, 0) 27 = nI l.length := by rw [gI, if_neg (by simp)]; exact h.1
  rw [e27, nI_1, bnd_e]
  refine ⟨_, rfl, ⟨gI_s, ⟨?_, ?_⟩, ?_⟩, (Sm.sI (by simp [skT])).trans (Sm.sI (by simp [skT]))⟩
  · rw [gI, if_neg (by simp), gI_s]
  · exact Stk.cg (fun k => by rw [gI, if_neg (by simp)]) l (Stk.set l (Nat.le_refl _) h.2.1)
  · rw [gI, if_neg (by simp), gI, if_neg (by simp)]; exact h.2.2
theorem r_top {D : Dt} {l : List Int32} {d : Nat} (hl : l.length ≤ 402) (h : SkS D l d) : F_X11_top D = some (l.headD (-1), D) := by
  cases l with
  | nil =>
    have h1 : D.1 (11, 0, 0, 0) 27 = 0 := h.1
    rw [F_X11_top, h1, if_pos rfl]
    rfl
  | cons x l =>
    have h1 : D.1 (11, 0, 0, 0) 27 = nI (l.length + 1) := h.1
    simp only [List.length_cons] at hl
    rw [F_X11_top, h1, if_neg (nI_ne0 (by omega) (by omega)), nI_pred, grd_t (inBe (by omega) (by decide)), nIc (by omega), h.2.1.1]
    rfl
theorem r_ans {T : Tp} {s p c : Nat} {x x0 a1 : Int32} {l : List Int32} (hs : s < 6) (hx : cm x0 = x) (hl : ¬ l.headD (-1) = x) : ∀ k fu n d D, k < fu → n + k ≤ 300 → k + l.length ≤ 402 → d < 1000 → k < 1000 → SkS D (List.replicate k x ++ l) (d + (if x = 9 then k else 0)) → RSt D T s p 0 c n → ∃ D', F_X11_answers_b0 a1 fu x D = some D' ∧ RSt D' T s p 0 c (n + k) ∧ SkS D' l d ∧ SgM D' (300 * s + n) (List.replicate k (x0, 0)) ∧ Sm (rxS (300 * s + n)) D D' := by
  intro k
  induction k with
  | zero =>
    intro fu n d D hf hn hlen hd hk9 hS h
    obtain ⟨fu, rfl⟩ : ∃ g, fu = g + 1 := ⟨fu - 1, by omega⟩
    rw [List.replicate_zero, List.nil_append, ite_self] at hS
    rw [F_X11_answers_b0, r_top (by omega) hS, cbd_s, if_neg hl]
    exact ⟨D, rfl, h, hS, fun i hi => absurd hi (Nat.not_lt_zero i), Sm.refl⟩
  | succ k ih =>
    intro fu n d D hf hn hlen hd hk9 hS h
    obtain ⟨fu, rfl⟩ : ∃ g, fu = g + 1 := ⟨fu - 1, by omega⟩
    have hr : List.replicate (k + 1) x ++ l = x :: (List.replicate k x ++ l) := rfl
    rw [hr] at hS
    have hlen2 : (x :: (List.replicate k x ++ l)).length = k + l.length + 1 := by simp only [List.length_cons, List.length_append, List.length_replicate]
    rw [F_X11_answers_b0, r_top (by rw [hlen2]; omega) hS, cbd_s, if_pos (show (x :: (List.replicate k x ++ l)).headD (-1) = x from rfl), h.1.2.2, if_pos rfl]
    obtain ⟨D1, e1, r1, z1, z2, m1⟩ := r_entry (a := x) (b := 0) hs (show n < 300 by omega) h
    have S1 := hS.rr m1
    rw [e1, vbd_s, S1.1, hlen2, nI_pred, bnd_e]
    have x25 : (setI D1 (11, 0, 0, 0) 27 (nI (k + l.length))).1 (11, 0, 0, 0) 25 = nI (d + (if x = 9 then k + 1 else 0)) := by rw [gI_k (by decide)]; exact S1.2.2
    rw [x25]
    have step : ∀ v, v = nI (d + (if x = 9 then k else 0)) → ∃ D', F_X11_answers_b0 a1 fu x (setI (setI D1 (11, 0, 0, 0) 27 (nI (k + l.length))) (11, 0, 0, 0) 25 v) = some D' ∧ RSt D' T s p 0 c (n + (k + 1)) ∧ SkS D' l d ∧ SgM D' (300 * s + n) (List.replicate (k + 1) (x0, 0)) ∧ Sm (rxS (300 * s + n)) D D' := by
      intro v hv
      have m2 : Sm skT D1 (setI (setI D1 (11, 0, 0, 0) 27 (nI (k + l.length))) (11, 0, 0, 0) 25 v) := (Sm.sI (by simp [skT])).trans (Sm.sI (by simp [skT]))
      have S2 : SkS (setI (setI D1 (11, 0, 0, 0) 27 (nI (k + l.length))) (11, 0, 0, 0) 25 v) (List.replicate k x ++ l) (d + (if x = 9 then k else 0)) := by
        refine ⟨?_, Stk.cg (fun j => by rw [gI, if_neg (by simp), gI, if_neg (by simp)]) _ S1.2.1.2, by rw [gI_s]; exact hv⟩
        rw [gI_k (by decide), gI_s, List.length_append, List.length_replicate]
      have u2 : ∀ a j, a = 31 ∨ a = 32 → (setI (setI D1 (11, 0, 0, 0) 27 (nI (k + l.length))) (11, 0, 0, 0) 25 v).1 (11, 0, a, 0) j = D1.1 (11, 0, a, 0) j := fun a j ha => by
        rcases ha with rfl | rfl
        · rw [gI_q (by decide), gI_q (by decide)]
        · rw [gI_q (by decide), gI_q (by decide)]
      have r2 := r1.st m2
      generalize setI (setI D1 (11, 0, 0, 0) 27 (nI (k + l.length))) (11, 0, 0, 0) 25 v = D2 at m2 S2 r2 u2 ⊢
      obtain ⟨D3, e3, r3, S3, g3, m3⟩ := ih fu (n + 1) d D2 (by omega) (by omega) (by omega) hd (by omega) S2 r2
      refine ⟨D3, e3, by rw [show n + (k + 1) = n + 1 + k by omega]; exact r3, S3, ?_, ((rr_rx m1).trans (st_rx m2)).trans (rx_w (by omega) m3)⟩
      have one : SgM D3 (300 * s + n) [(x0, 0)] := by
        refine SgM.sx (b := 300 * s + (n + 1)) (fun i hi => ?_) m3 (by simp only [List.length_cons, List.length_nil]; omega)
        have : i = 0 := by simp only [List.length_cons, List.length_nil] at hi; omega
        subst this
        rw [Nat.add_zero, u2 31 _ (Or.inl rfl), u2 32 _ (Or.inr rfl), z1, z2]
        exact ⟨hx.symm, rfl⟩
      exact SgM.app (l1 := [(x0, 0)]) one g3
    by_cases c9 : x = 9
    · rw [if_pos c9, F_X11_answers_b47, bnd_e]
      exact step _ (by rw [if_pos c9, if_pos c9, show d + (k + 1) = d + k + 1 by omega, nI_pred])
    · rw [if_neg c9, F_X11_answers_b47, bnd_e]
      exact step _ (by rw [if_neg c9, if_neg c9]; exact Int32.sub_zero _)
def RxO (T : Tp) (s n : Nat) (D : Dt) (q c : Nat) (l : List En) (D' : Dt) : Prop := ∃ p, RSt D' T s p 0 c (n + l.length) ∧ sbk T p = q ∧ p ≤ tpL T ∧ SgM D' (300 * s + n) l ∧ Sm (rxS (300 * s + n)) D D' ∧ D'.1 (11, 0, 0, 0) 25 = 0
def RxD (T : Tp) (s n : Nat) (D : Dt) (x : PR) (res : Option Dt) : Prop := match x with
  | .inl f => ∃ D' p, res = some D' ∧ RP D' T p (nI f) ∧ p ≤ 2000 ∧ 0 < f ∧ f < 100000 ∧ Sm (rxS (300 * s + n)) D D'
  | .inr (q, c, l) => ∃ D', res = some D' ∧ RxO T s n D q c l D'
theorem RxD.seq {T : Tp} {s n q1 c1 : Nat} {D D1 : Dt} {l1 : List En} {f : Nat → Nat → PR} {res : Option Dt} (h1 : SgM D1 (300 * s + n) l1) (h2 : Sm (rxS (300 * s + n)) D D1) (g : RxD T s (n + l1.length) D1 (f q1 c1) res) : RxD T s n D (pB (.inr (q1, c1, l1)) f) res := by
  unfold pB
  simp only
  unfold RxD at g ⊢
  cases e : f q1 c1 with
  | inl e' =>
    rw [e] at g
    obtain ⟨D', p, a1, a2, a3, a5, a6, a7⟩ := g
    exact ⟨D', p, a1, a2, a3, a5, a6, h2.trans (rx_w (by omega) a7)⟩
  | inr y =>
    obtain ⟨q2, c2, l2⟩ := y
    rw [e] at g
    obtain ⟨D', a, p, b1, b2, b3, b5, b6, b7⟩ := g
    exact ⟨D', a, p, by rw [List.length_append, ← Nat.add_assoc]; exact b1, b2, b3, SgM.app (h1.sx b6 (by omega)) (by rw [Nat.add_assoc]; exact b5), h2.trans (rx_w (by omega) b6), b7⟩
theorem RxD.to {T : Tp} {s n : Nat} {D : Dt} {x y : PR} {res : Option Dt} (h : RxD T s n D x res) (e : x = y) : RxD T s n D y res := by rw [← e]; exact h
theorem RxD.pre {T : Tp} {s n : Nat} {D D0 : Dt} {x : PR} {res : Option Dt} (h : RxD T s n D0 x res) (m : Sm (rxS (300 * s + n)) D D0) : RxD T s n D x res := by
  cases x with
  | inl f =>
    obtain ⟨D', p, a1, a2, a3, a5, a6, a7⟩ := h
    exact ⟨D', p, a1, a2, a3, a5, a6, m.trans a7⟩
  | inr y =>
    obtain ⟨q, c, l⟩ := y
    obtain ⟨D', a, p, b1, b2, b3, b5, b6, b7⟩ := h
    exact ⟨D', a, p, b1, b2, b3, b5, m.trans b6, b7⟩
theorem r_b9_f {T : Tp} {p fu : Nat} {f l1 : Int32} {D : Dt} (hf : ¬ f = 0) (h : RP D T p f) : F_X11_test_b9 (fu + 1) l1 1 D = some D := by
  rw [F_X11_test_b9, if_neg (by decide), h.2.2, if_neg hf]
theorem pCmp_lt {T : Tp} {q c q1 c1 : Nat} {l : List En} (hL : tpL T ≤ 400) (hq : q ≤ tpL T) (hc : c ≤ 60) (e : pCmp T q c = .inr (q1, c1, l)) : q < q1 ∧ q1 ≤ tpL T ∧ c1 ≤ 60 ∧ 3 * l.length + 6 * c + q + 9 ≤ 6 * c1 + q1 := by
  have hg := pCmp_gd hL hq hc
  rw [e] at hg
  obtain ⟨a1, a2, a3, a4, a5, a6, a7⟩ := hg
  refine ⟨?_, a2, a4, by omega⟩
  unfold pCmp at e
  cases ev : pSum T q c with
  | inl f => rw [ev] at e; cases e
  | inr y =>
    obtain ⟨q2, c2, l2⟩ := y
    obtain ⟨v1, v2, v3, v4, v5⟩ := slen hL hq hc ev
    rw [ev] at e
    unfold pB at e
    simp only at e
    by_cases hk : 12 ≤ kd T q2 ∧ kd T q2 ≤ 16
    · obtain ⟨g1, g2⟩ := nq_gt (kd_lt (T := T) (q := q2) (by omega))
      rw [if_pos hk] at e
      by_cases c60 : 60 ≤ c2
      · rw [if_pos c60] at e; cases e
      · rw [if_neg c60] at e
        cases ev2 : pSum T (nq T q2) (c2 + 1) with
        | inl f => rw [ev2] at e; cases e
        | inr z =>
          obtain ⟨q3, c3, l3⟩ := z
          obtain ⟨w1, w2, w3, w4, w5⟩ := slen hL g2 (show c2 + 1 ≤ 60 by omega) ev2
          rw [ev2] at e
          simp only [Sum.inr.injEq, Prod.mk.injEq] at e
          omega
    · rw [if_neg hk] at e; cases e
theorem r_opn {T : Tp} {s q c n d b : Nat} {x : Int32} {l : List Int32} {D : Dt} (hx : x = 9 ∨ x = 12) (hd : d ≤ 10) (hl : l.length < 402) (h : RSt D T s q 0 c n) (hS : SkS D l d) : (d = 10 → ∃ D', F_X11_opens x D = some D' ∧ RP D' T q (nI (1 + 8 * q + 2)) ∧ Sm (rxS b) D D') ∧ (d < 10 → ∃ D', F_X11_opens x D = some D' ∧ RSt D' T s q 0 c n ∧ SkS D' (x :: l) (d + 1) ∧ Sm skT D D') := by
  have e12 : F_X11_opens x D = F_X11_opens_b12 x x D := by
    rw [F_X11_opens]
    rcases hx with rfl | rfl
    · rw [if_pos rfl]
    · rw [if_neg (by decide), if_pos rfl]
  have b30 : ∀ (E : Dt), SkS E l d → ∃ D', F_X11_opens_b30 x x E = some D' ∧ SkS D' (x :: l) (d + 1) ∧ Sm skT E D' := by
    intro E hE
    have m : Sm skT E (setI E (11, 0, 0, 0) 25 (nI (d + 1))) := Sm.sI (by simp [skT])
    have S1 : SkS (setI E (11, 0, 0, 0) 25 (nI (d + 1))) l (d + 1) := ⟨by rw [gI_k (by decide)]; exact hE.1, Stk.cg (fun k => by rw [gI, if_neg (by simp)]) l hE.2.1, gI_s⟩
    obtain ⟨D', e, S2, m2⟩ := r_push (a := x) (x := x) hl S1
    rw [F_X11_opens_b30, hE.2.2, nI_1, bnd_e]
    exact ⟨D', e, S2, m.trans m2⟩
  have k10 : (nI d = (10 : Int32)) = (d = 10) := propext ⟨fun e => (nI_eq (b := 10) (by omega) (by decide)).mp e, fun e => by rw [e]; rfl⟩
  rw [e12, F_X11_opens_b12, hS.2.2]
  simp only [k10]
  refine ⟨fun hd10 => ?_, fun hd10 => ?_⟩
  · obtain ⟨D1, e1, r1, m1⟩ := r_fails (x := q) (c := 2) h.1
    have S1 := hS.rr (b := b) (p21_rr (m21 m1))
    obtain ⟨D2, e2, S2, m2⟩ := b30 D1 S1
    rw [ft_0] at r1
    rw [if_pos hd10, h.1.2.1, show F_X11_fails 2 (nI q) D = _ from e1, vbd_s]
    exact ⟨D2, e2, r1.st m2, (rr_rx (p21_rr (m21 m1))).trans (st_rx m2)⟩
  · obtain ⟨D2, e2, S2, m2⟩ := b30 D hS
    rw [if_neg (by omega)]
    exact ⟨D2, e2, h.st m2, S2, m2⟩
theorem r_opn2 {x : Int32} {l : List Int32} {d : Nat} {D : Dt} (hx : x = 10 ∨ x = 11) (hl : l.length < 402) (hS : SkS D l d) : ∃ D', F_X11_opens x D = some D' ∧ SkS D' (x :: l) d ∧ Sm skT D D' := by
  have e12 : F_X11_opens x D = F_X11_opens_b40 x x D := by
    rw [F_X11_opens]
    rcases hx with rfl | rfl
    · rw [if_neg (by decide), if_neg (by decide)]
    · rw [if_neg (by decide), if_neg (by decide)]
  rw [e12]
  exact r_push hl hS
def below (rest : List Lv) : List Int32 := if rest.isEmpty = true then [] else 12 :: phys rest
def n1 (a : Bool) : Nat := if a = true then 1 else 0
theorem phys_c {r k : Nat} {w a : Bool} {rest : List Lv} : phys ((r, w, a, k) :: rest) = List.replicate k 9 ++ (List.replicate (n1 a) 10 ++ (List.replicate (n1 w) 11 ++ below rest)) := by
  show (List.replicate k 9 ++ ((if a = true then [10] else []) ++ (if w = true then [11] else []))) ++ below rest = _
  cases a <;> cases w <;> simp [n1]
theorem below_h {rest : List Lv} {x : Int32} (h : x ≠ 12) (h1 : x ≠ -1) : ¬ (below rest).headD (-1) = x := by
  unfold below
  split
  · exact fun e => h1 e.symm
  · exact fun e => h e.symm
theorem anL_r {a : Bool} : anL a = List.replicate (n1 a) (36, 0) := by cases a <;> rfl
theorem oL_r {a : Bool} : oL a = List.replicate (n1 a) (37, 0) := by cases a <;> rfl
theorem lv1 {x : Lv} {rest : List Lv} (h : lvOk (x :: rest)) : x.1 ≤ 10 ∧ x.2.2.2 ≤ x.1 := by
  cases rest with
  | nil => exact ⟨Nat.le_of_eq h.1, h.2⟩
  | cons y ys => exact ⟨h.1, h.2.1⟩
theorem lvT {x x' : Lv} {rest : List Lv} (h : lvOk (x :: rest)) (h1 : x'.1 = x.1) (h2 : x'.2.2.2 ≤ x'.1) : lvOk (x' :: rest) := by
  cases rest with
  | nil => exact ⟨by rw [h1]; exact h.1, h2⟩
  | cons y ys => exact ⟨by rw [h1]; exact h.1, h2, by rw [h1]; exact h.2.2.1, h.2.2.2⟩
theorem r_TB {T : Tp} {s : Nat} (hT : okT T) (hs : s < 6) : ∀ fu e r w a k rest p c n D, tpL T + 3 ≤ fu + sbk T p → p ≤ tpL T → c ≤ 60 → lvOk ((r, w, a, k) :: rest) → (phys ((r, w, a, k) :: rest)).length ≤ sbk T p → 3 * (n + ow ((r, w, a, k) :: rest)) + (if e = true then 0 else 1) ≤ 6 * c + sbk T p → RSt D T s p 0 c n → SkS D (phys ((r, w, a, k) :: rest)) (10 - (r - k)) → RxD T s n D (Sp T e (r, w, a, k) rest (sbk T p) c) (F_X11_test_b9 fu (if e = true then 1 else 0) 1 D) := by
  have hL := hT.1
  intro fu
  induction fu with
  | zero =>
    intro e r w a k rest p c n D hf hp
    have := sbk_le hp
    omega
  | succ fu ih =>
    intro e r w a k rest p c n D hf hp hc hlv hlen hb h hS
    have hq := sbk_le hp
    have hqi : sbk T (sbk T p) = sbk T p := spE_idem
    obtain ⟨lr, lk⟩ := lv1 hlv
    have lr : r ≤ 10 := lr
    have lk : k ≤ r := lk
    have how : ow ((r, w, a, k) :: rest) = k + (anL a).length + (oL w).length + ow rest := rfl
    cases e with
    | true =>
      rw [if_pos rfl, Nat.add_zero] at hb
      rw [if_pos rfl, F_X11_test_b9, if_neg (show ¬ (1 : Int32) = 0 by decide), h.1.2.2, if_pos rfl, if_neg (show ¬ (1 : Int32) = 0 by decide)]
      obtain ⟨D1, e1, r1, m1⟩ := r_blk hT (by omega) h.1
      have h1 := h.p r1 (p20_21 m1)
      have mm1 : Sm (rrS (300 * s + n)) D D1 := p21_rr (p20_21 m1)
      have S1 := hS.rr mm1
      refine RxD.pre ?_ (rr_rx mm1)
      generalize sbk T p = q at hf hq hqi hlen hb r1 h1 ⊢
      have h91 : ((if q < tpL T then nI (tpB T q) else -1) = (91 : Int32)) = (kd T q = 5) := sgn_c (c := 91) hT rfl (by decide) (by decide) (by decide) (by decide)
      rw [F_X11_fact, e1, vbd_s, show F_X11_stood 17 D1 = _ from r_word (k := 15) hT (by omega) (by decide) h1.1, cbd_s]
      unfold Sp
      rw [if_pos rfl]
      simp only []
      by_cases k35 : kd T q = 35
      · -- not
        have hlt := kd_lt (T := T) (q := q) (by omega)
        obtain ⟨g1, g2⟩ := nq_gt hlt
        have hnx : nx T q = q + 3 := kd_nx (k := 15) (by decide) k35
        have hn3 : q + 3 ≤ nq T q := by
          have := sbk_ge (T := T) (p := nx T q)
          unfold nq
          omega
        have hxl := nx_le hq
        obtain ⟨o1, o2⟩ := r_opn (b := 300 * s + n) (x := 9) (Or.inl rfl) (show 10 - (r - k) ≤ 10 by omega) (show (phys ((r, w, a, k) :: rest)).length < 402 by omega) h1 S1
        rw [i1t k35]
        by_cases hr : r - k = 0
        · obtain ⟨D2, e2, r2, m2⟩ := o1 (by omega)
          obtain ⟨r3, m3⟩ := r2.s20 (p' := q + 3)
          have hne : ¬ nI (1 + 8 * q + 2) = 0 := nI_ne0 (by omega) (by omega)
          obtain ⟨fu, rfl⟩ : ∃ g, fu = g + 1 := ⟨fu - 1, by omega⟩
          rw [e2, vbd_s, r2.2.1, show nI q + 3 = nI (q + 3) from nI_add q 3, bnd_e, cbd_s, if_pos rfl, F_X11_test_b36, r_b9_f hne r3, hr, pFct, if_pos (Or.inr k35)]
          exact ⟨_, q + 3, rfl, r3, by omega, by omega, by omega, m2.trans (rr_rx (p21_rr (p20_21 m3)))⟩
        · obtain ⟨D2, e2, h2, S2, m2⟩ := o2 (by omega)
          obtain ⟨h3, m3⟩ := h2.s20 (p' := q + 3)
          rw [e2, vbd_s, h2.1.2.1, show nI q + 3 = nI (q + 3) from nI_add q 3, bnd_e, cbd_s, if_pos rfl, F_X11_test_b36]
          have S3 := S2.rr (b := 300 * s + n) (p21_rr m3)
          generalize setI D2 (11, 0, 0, 0) 20 (nI (q + 3)) = D3 at h3 m3 S3 ⊢
          have hsb : sbk T (q + 3) = nq T q := by unfold nq; rw [hnx]
          have hp9 : phys ((r, w, a, k + 1) :: rest) = 9 :: phys ((r, w, a, k) :: rest) := by rw [phys_c, phys_c]; rfl
          have hI := ih true r w a (k + 1) rest (q + 3) c n D3 (by rw [hsb]; omega) (by omega) hc (lvT hlv rfl (by show k + 1 ≤ r; omega)) (by rw [hsb, hp9, List.length_cons]; omega) (by
            rw [hsb, if_pos rfl]
            show 3 * (n + (k + 1 + (anL a).length + (oL w).length + ow rest)) + 0 ≤ _
            omega) h3 (by rw [hp9, show 10 - (r - (k + 1)) = 10 - (r - k) + 1 by omega]; exact S3)
          rw [hsb, if_pos rfl] at hI
          refine RxD.pre (RxD.to hI ?_) ((st_rx m2).trans (rr_rx (p21_rr m3)))
          unfold Sp
          rw [if_pos rfl]
          simp only []
          obtain ⟨r', hr'⟩ : ∃ g, r - k = g + 1 := ⟨r - k - 1, by omega⟩
          rw [hr', pFct, if_neg (by omega), if_pos k35, pB_as, show r - (k + 1) = r' by omega]
          refine pB_cg (fun q1 c1 l1 _ => ?_)
          simp only [Kc]
          rw [show nots (k + 1) ++ anL a = [(35, 0)] ++ (nots k ++ anL a) from rfl, pB_ap]
      · rw [i1f k35, r_sgn hT (by omega) h1.1, cbd_s]
        simp only [h91]
        by_cases k5 : kd T q = 5
        · -- a bracket opens
          have hlt := kd_lt (T := T) (q := q) (by omega)
          obtain ⟨g1, g2⟩ := nq_gt hlt
          have hnx : nx T q = q + 1 := kd_c1 (c := 91) hT rfl (by decide) (by decide) (by decide) (by decide) k5
          obtain ⟨o1, o2⟩ := r_opn (b := 300 * s + n) (x := 12) (Or.inr rfl) (show 10 - (r - k) ≤ 10 by omega) (show (phys ((r, w, a, k) :: rest)).length < 402 by omega) h1 S1
          rw [if_pos k5]
          by_cases hr : r - k = 0
          · obtain ⟨D2, e2, r2, m2⟩ := o1 (by omega)
            obtain ⟨r3, m3⟩ := r2.s20 (p' := q + 1)
            have hne : ¬ nI (1 + 8 * q + 2) = 0 := nI_ne0 (by omega) (by omega)
            obtain ⟨fu, rfl⟩ : ∃ g, fu = g + 1 := ⟨fu - 1, by omega⟩
            rw [e2, vbd_s, r2.2.1, nI_1, bnd_e, cbd_s, if_pos rfl, F_X11_test_b36, r_b9_f hne r3, hr, pFct, if_pos (Or.inl k5)]
            exact ⟨_, q + 1, rfl, r3, by omega, by omega, by omega, m2.trans (rr_rx (p21_rr (p20_21 m3)))⟩
          · obtain ⟨D2, e2, h2, S2, m2⟩ := o2 (by omega)
            obtain ⟨h3, m3⟩ := h2.s20 (p' := q + 1)
            rw [e2, vbd_s, h2.1.2.1, nI_1, bnd_e, cbd_s, if_pos rfl, F_X11_test_b36]
            have S3 := S2.rr (b := 300 * s + n) (p21_rr m3)
            generalize setI D2 (11, 0, 0, 0) 20 (nI (q + 1)) = D3 at h3 m3 S3 ⊢
            have hsb : sbk T (q + 1) = nq T q := by unfold nq; rw [hnx]
            have hp9 : phys ((r - k - 1, false, false, 0) :: (r, w, a, k) :: rest) = 12 :: phys ((r, w, a, k) :: rest) := by rw [phys_c]; rfl
            have hI := ih true (r - k - 1) false false 0 ((r, w, a, k) :: rest) (q + 1) c n D3 (by rw [hsb]; omega) (by omega) hc ⟨by show r - k - 1 ≤ 10; omega, Nat.zero_le _, by show r - k - 1 + k + 1 = r; omega, hlv⟩ (by rw [hsb, hp9, List.length_cons]; omega) (by
              rw [hsb, if_pos rfl]
              show 3 * (n + (0 + 0 + 0 + ow ((r, w, a, k) :: rest))) + 0 ≤ _
              omega) h3 (by rw [hp9, show 10 - (r - k - 1 - 0) = 10 - (r - k) + 1 by omega]; exact S3)
            rw [hsb, if_pos rfl] at hI
            refine RxD.pre (RxD.to hI ?_) ((st_rx m2).trans (rr_rx (p21_rr m3)))
            unfold Sp
            rw [if_pos rfl]
            simp only []
            obtain ⟨r', hr'⟩ : ∃ g, r - k = g + 1 := ⟨r - k - 1, by omega⟩
            rw [hr', pFct, if_pos k5, pB_as, show r' + 1 - 1 - 0 = r' by omega, show r' + 1 - 1 = r' by omega]
            unfold pTst
            rw [pB_as]
            refine pB_cg (fun q1 c1 l1 _ => ?_)
            rw [Kc]
            simp only []
            rw [show nots 0 ++ anL false = [] from rfl, pB_nil]
            refine pB_cg (fun q2 c2 l2 _ => ?_)
            rw [if_neg (show ¬ ((r, w, a, k) :: rest).isEmpty = true by simp)]
            by_cases k6 : kd T q2 = 6
            · rw [if_pos k6, if_pos k6, pB_nil]
            · rw [if_neg k6, if_neg k6]
              rfl
        · -- a comparison
          rw [if_neg k5]
          have hv := r_cmp hT hs hq hc (n := n) (by rw [hqi]; omega) h1
          rw [hqi] at hv
          have hpf : pFct T (r - k) q c = pCmp T q c := by
            cases r - k with
            | zero => rw [pFct, if_neg (fun x => x.elim k5 k35)]
            | succ g => rw [pFct, if_neg k5, if_neg k35]
          rw [hpf]
          cases ev : pCmp T q c with
          | inl f =>
            rw [ev] at hv
            obtain ⟨D2, p2, e2, r2, b1, b2, b3, m2⟩ := hv
            have hne : ¬ nI f = 0 := nI_ne0 (by omega) (by omega)
            obtain ⟨fu, rfl⟩ : ∃ g, fu = g + 1 := ⟨fu - 1, by omega⟩
            rw [e2, vbd_s, cbd_s, if_neg (show ¬ (1 : Int32) = 0 by decide), F_X11_test_b36, r_b9_f hne r2]
            exact ⟨D2, p2, rfl, r2, b1, b2, b3, rr_rx m2⟩
          | inr y =>
            obtain ⟨q1, c1, l1⟩ := y
            obtain ⟨v1, v2, v3, v4⟩ := pCmp_lt hL hq hc ev
            rw [ev] at hv
            obtain ⟨D2, e2, p2, d1, d2, d3, d4, d5, d6⟩ := hv
            rw [e2, vbd_s, cbd_s, if_neg (show ¬ (1 : Int32) = 0 by decide), F_X11_test_b36]
            have hI := ih false r w a k rest p2 c1 (n + l1.length) D2 (by rw [d2]; omega) d3 v3 hlv (by rw [d2]; omega) (by
              rw [d2, if_neg (by decide)]
              omega) d1 (S1.rr d6)
            rw [d2, if_neg (show ¬ false = true by decide)] at hI
            unfold Sp at hI
            rw [if_neg (show ¬ false = true by decide)] at hI
            exact RxD.seq (f := fun q1 c1 => Kc T ((r, w, a, k) :: rest) q1 c1) d5 (rr_rx d6) hI
    | false =>
      rw [if_neg (show ¬ false = true by decide)] at hb
      rw [if_neg (show ¬ false = true by decide), F_X11_test_b9, if_neg (show ¬ (1 : Int32) = 0 by decide), h.1.2.2, if_pos rfl, if_pos rfl]
      unfold Sp
      rw [if_neg (show ¬ false = true by decide)]
      have ha1 : (anL a).length = n1 a := by cases a <;> rfl
      have hw1 : (oL w).length = n1 w := by cases w <;> rfl
      have hn1 : ∀ b : Bool, n1 b ≤ 1 := fun b => by cases b <;> decide
      have hna := hn1 a
      have hnw := hn1 w
      rw [how, ha1, hw1] at hb
      rw [phys_c] at hS hlen
      simp only [List.length_append, List.length_replicate] at hlen
      -- not
      have hd9 : ¬ (List.replicate (n1 a) 10 ++ (List.replicate (n1 w) 11 ++ below rest)).headD (-1) = (9 : Int32) := by
        cases a
        · cases w
          · exact below_h (by decide) (by decide)
          · show ¬ (11 : Int32) = 9
            decide
        · show ¬ (10 : Int32) = 9
          decide
      have hd10 : ¬ (List.replicate (n1 w) 11 ++ below rest).headD (-1) = (10 : Int32) := by
        cases w
        · exact below_h (by decide) (by decide)
        · show ¬ (11 : Int32) = 10
          decide
      obtain ⟨D1, e1, h1, S1, g1, m1⟩ := r_ans (T := T) (s := s) (p := p) (c := c) (x := 9) (x0 := 35) (a1 := 9) hs (by decide) hd9 k 2000 n (10 - r) D (by omega) (by omega) (by simp only [List.length_append, List.length_replicate]; omega) (by omega) (by omega) (by rw [if_pos rfl, show 10 - r + k = 10 - (r - k) by omega]; exact hS) h
      obtain ⟨D2, e2, r2, m2⟩ := r_blk hT (by omega) h1.1
      have h2 := h1.p r2 (p20_21 m2)
      have S2 := S1.rr (b := 300 * s + (n + k)) (p21_rr (p20_21 m2))
      obtain ⟨D3, e3, h3, S3, g3, m3⟩ := r_ans (T := T) (s := s) (p := sbk T p) (c := c) (x := 10) (x0 := 36) (a1 := 10) hs (by decide) hd10 (n1 a) 2000 (n + k) (10 - r) D2 (by omega) (by omega) (by simp only [List.length_append, List.length_replicate]; omega) (by omega) (by omega) (by rw [if_neg (by decide)]; exact S2) h2
      rw [F_X11_answers, e1, vbd_s, e2, vbd_s]
      have mm : Sm (rxS (300 * s + n)) D D3 := (m1.trans (rr_rx (p21_rr (p20_21 m2)))).trans (rx_w (by omega) m3)
      have gg : SgM D3 (300 * s + n) (nots k ++ anL a) := by
        have a1 : SgM D3 (300 * s + n) (nots k) := (g1.sx (b := 300 * s + (n + k)) (rr_rx (p21_rr (p20_21 m2))) (by rw [List.length_replicate]; omega)).sx m3 (by rw [List.length_replicate]; omega)
        refine SgM.app a1 ?_
        rw [show (nots k).length = k from List.length_replicate, anL_r, Nat.add_assoc]
        exact g3
      have hll : (nots k ++ anL a).length = k + n1 a := by rw [List.length_append, show (nots k).length = k from List.length_replicate, ha1]
      generalize sbk T p = q at hf hq hqi hlen hb r2 h2 h3 e3 ⊢
      have w18 : F_X11_stood 18 D2 = some ((if kd T q = 36 then 1 else 0), D2) := r_word (k := 16) hT (by omega) (by decide) h2.1
      have w19 : F_X11_stood 19 D2 = some ((if kd T q = 37 then 1 else 0), D2) := r_word (k := 17) hT (by omega) (by decide) h2.1
      rw [w18, cbd_s, w19, cbd_s, F_X11_answers, e3, vbd_s]
      simp only [Kc]
      refine RxD.seq gg mm ?_
      rw [hll, pTL_e hL (pFct_gd hL r) hq hc]
      by_cases k36 : kd T q = 36
      · -- and
        have hlt := kd_lt (T := T) (q := q) (by omega)
        obtain ⟨u1, u2⟩ := nq_gt hlt
        have hnx : nx T q = q + 3 := kd_nx (k := 16) (by decide) k36
        have hn3 : q + 3 ≤ nq T q := by
          have := sbk_ge (T := T) (p := nx T q)
          unfold nq
          omega
        have hxl := nx_le hq
        obtain ⟨D4, e4, S4, m4⟩ := r_opn2 (x := 10) (Or.inl rfl) (by simp only [List.length_append, List.length_replicate]; omega) S3
        have h4 := h3.st m4
        obtain ⟨h5, m5⟩ := h4.s20 (p' := q + 3)
        rw [i1t k36, if_pos k36, F_X11_test_b82, if_neg (show ¬ kd T q = 37 by omega), if_pos rfl, F_X11_test_b93, if_pos k36, if_neg (show ¬ (1 : Int32) = 0 by decide), F_X11_test_b105, e4, vbd_s, if_neg (show ¬ (1 : Int32) = 0 by decide), F_X11_test_b122, h4.1.2.1, show nI q + 3 = nI (q + 3) from nI_add q 3, bnd_e, F_X11_test_b199]
        have S5 := S4.rr (b := 300 * s + (n + (k + n1 a))) (p21_rr m5)
        generalize setI D4 (11, 0, 0, 0) 20 (nI (q + 3)) = D5 at h5 m5 S5 ⊢
        have hsb : sbk T (q + 3) = nq T q := by unfold nq; rw [hnx]
        have hp9 : phys ((r, w, true, 0) :: rest) = 10 :: (List.replicate (n1 w) 11 ++ below rest) := by rw [phys_c]; rfl
        have hI := ih true r w true 0 rest (q + 3) c (n + (k + n1 a)) D5 (by rw [hsb]; omega) (by omega) hc (lvT hlv rfl (Nat.zero_le _)) (by rw [hsb, hp9]; simp only [List.length_cons, List.length_append, List.length_replicate]; omega) (by
          rw [hsb, if_pos rfl]
          show 3 * (n + (k + n1 a) + (0 + 1 + (oL w).length + ow rest)) + 0 ≤ _
          omega) (by rw [← Nat.add_assoc]; exact h5) (by rw [hp9]; exact S5)
        rw [hsb, if_pos rfl] at hI
        refine RxD.pre (RxD.to hI ?_) ((st_rx m4).trans (rr_rx (p21_rr m5)))
        unfold Sp
        rw [if_pos rfl, pB_as]
        refine pB_cg (fun q1 c1 l1 _ => ?_)
        simp only [Kc]
        rw [pB_as]
        rfl
      · rw [i1f k36, if_neg k36]
        have hd11 : ¬ (below rest).headD (-1) = (11 : Int32) := below_h (by decide) (by decide)
        obtain ⟨D4, e4, h4, S4, g4, m4⟩ := r_ans (T := T) (s := s) (p := q) (c := c) (x := 11) (x0 := 37) (a1 := 11) hs (by decide) hd11 (n1 w) 2000 (n + k + n1 a) (10 - r) D3 (by omega) (by omega) (by omega) (by omega) (by omega) (by rw [if_neg (by decide)]; exact S3) h3
        rw [← oL_r] at g4
        rw [Nat.add_assoc n k] at g4 h4 m4
        by_cases k37 : kd T q = 37
        · -- or
          have hlt := kd_lt (T := T) (q := q) (by omega)
          obtain ⟨u1, u2⟩ := nq_gt hlt
          have hnx : nx T q = q + 2 := kd_nx (k := 17) (by decide) k37
          have hn3 : q + 2 ≤ nq T q := by
            have := sbk_ge (T := T) (p := nx T q)
            unfold nq
            omega
          have hxl := nx_le hq
          obtain ⟨D5, e5, S5, m5⟩ := r_opn2 (x := 11) (Or.inr rfl) (by omega) S4
          have h5 := h4.st m5
          obtain ⟨h6, m6⟩ := h5.s20 (p' := q + 2)
          rw [i1t k37, if_pos k37, F_X11_test_b82, if_pos k37, if_neg (show ¬ (1 : Int32) = 0 by decide), F_X11_answers, e4, vbd_s, F_X11_test_b93, if_neg k36, if_pos rfl, F_X11_test_b105, e5, vbd_s, if_pos rfl, F_X11_test_b122, h5.1.2.1, show nI q + 2 = nI (q + 2) from nI_add q 2, bnd_e, F_X11_test_b199, pB_as]
          refine RxD.seq g4 m4 ?_
          rw [hw1]
          have S6 := S5.rr (b := 300 * s + (n + (k + n1 a) + n1 w)) (p21_rr m6)
          generalize setI D5 (11, 0, 0, 0) 20 (nI (q + 2)) = D6 at h6 m6 S6 ⊢
          have hsb : sbk T (q + 2) = nq T q := by unfold nq; rw [hnx]
          have hp9 : phys ((r, true, false, 0) :: rest) = 11 :: below rest := by rw [phys_c]; rfl
          have hI := ih true r true false 0 rest (q + 2) c (n + (k + n1 a) + n1 w) D6 (by rw [hsb]; omega) (by omega) hc (lvT hlv rfl (Nat.zero_le _)) (by rw [hsb, hp9, List.length_cons]; omega) (by
            rw [hsb, if_pos rfl]
            show 3 * (n + (k + n1 a) + n1 w + (0 + 0 + 1 + ow rest)) + 0 ≤ _
            omega) h6 (by rw [hp9]; exact S6)
          rw [hsb, if_pos rfl] at hI
          refine RxD.pre (RxD.to hI ?_) ((st_rx m5).trans (rr_rx (p21_rr m6)))
          unfold Sp
          rw [if_pos rfl, pB_as]
          refine pB_cg (fun q1 c1 l1 _ => ?_)
          simp only [Kc]
          rw [show nots 0 ++ anL false = [] from rfl, pB_nil]
        · -- the end of a level
          rw [i1f k37, if_neg k37, F_X11_answers, e4, vbd_s]
          refine RxD.seq g4 m4 ?_
          rw [hw1, r_top (by omega) S4, cbd_s]
          cases rest with
          | nil =>
            obtain ⟨fu, rfl⟩ : ∃ g, fu = g + 1 := ⟨fu - 1, by omega⟩
            rw [if_neg (show ¬ (below []).headD (-1) = (12 : Int32) by decide), F_X11_test_b199, F_X11_test_b9, if_pos rfl, if_pos (show ([] : List Lv).isEmpty = true from rfl)]
            have hr10 : r = 10 := hlv.1
            exact ⟨D4, rfl, q, h4, hqi, hq, fun i hi => absurd hi (Nat.not_lt_zero i), Sm.refl, by rw [S4.2.2, hr10]; rfl⟩
          | cons y ys =>
            obtain ⟨yr, yw, ya, yk⟩ := y
            have h93 : ((if q < tpL T then nI (tpB T q) else -1) = (93 : Int32)) = (kd T q = 6) := sgn_c (c := 93) hT rfl (by decide) (by decide) (by decide) (by decide)
            have hlv2 : r + yk + 1 = yr := hlv.2.2.1
            have hlvY : lvOk ((yr, yw, ya, yk) :: ys) := hlv.2.2.2
            obtain ⟨yb1, yb2⟩ := lv1 hlvY
            have yb1 : yr ≤ 10 := yb1
            have hbl : below ((yr, yw, ya, yk) :: ys) = 12 :: phys ((yr, yw, ya, yk) :: ys) := rfl
            rw [hbl] at S4 hlen
            simp only [List.length_cons] at hlen
            rw [hbl, if_pos (show (12 :: phys ((yr, yw, ya, yk) :: ys)).headD (-1) = (12 : Int32) from rfl), r_sgn hT (by omega) h4.1, cbd_s, if_neg (show ¬ ((yr, yw, ya, yk) :: ys).isEmpty = true by simp)]
            simp only [h93]
            -- one place on, one level less
            have b164 : ∀ (E : Dt) (g : Int32) (N : Nat), RSt E T s q g c N → SkS E (12 :: phys ((yr, yw, ya, yk) :: ys)) (10 - r) → ∃ E', (∀ K : Int32 → Int32 → Dt → Option Dt, F_X11_test_b164 K 0 1 E = K 0 1 E') ∧ RSt E' T s (q + 1) g c N ∧ SkS E' (phys ((yr, yw, ya, yk) :: ys)) (10 - (yr - yk)) ∧ Sm (rxS (300 * s + (n + (k + n1 a) + n1 w))) E E' := by
              intro E g N hE hSE
              obtain ⟨h5, m5⟩ := hE.s20 (p' := q + 1)
              have S5 := hSE.rr (b := 300 * s + (n + (k + n1 a) + n1 w)) (p21_rr m5)
              have hE20 := hE.1.2.1
              generalize hE1 : setI E (11, 0, 0, 0) 20 (nI (q + 1)) = E1 at h5 m5 S5
              have x27 : E1.1 (11, 0, 0, 0) 27 = nI ((phys ((yr, yw, ya, yk) :: ys)).length + 1) := S5.1
              have x25 : (setI E1 (11, 0, 0, 0) 27 (nI (phys ((yr, yw, ya, yk) :: ys)).length)).1 (11, 0, 0, 0) 25 = nI (10 - (yr - yk) + 1) := by
                rw [gI_k (by decide), show 10 - (yr - yk) + 1 = 10 - r by omega]
                exact S5.2.2
              have m6 : Sm skT E1 (setI (setI E1 (11, 0, 0, 0) 27 (nI (phys ((yr, yw, ya, yk) :: ys)).length)) (11, 0, 0, 0) 25 (nI (10 - (yr - yk)))) := (Sm.sI (by simp [skT])).trans (Sm.sI (by simp [skT]))
              refine ⟨_, fun K => ?_, h5.st m6, ⟨by rw [gI_k (by decide), gI_s], Stk.cg (fun j => by rw [gI, if_neg (by simp), gI, if_neg (by simp)]) _ S5.2.1.2, gI_s⟩, (rr_rx (p21_rr m5)).trans (st_rx m6)⟩
              rw [F_X11_test_b164, hE20, nI_1, bnd_e, hE1, x27, nI_pred, bnd_e, x25, nI_pred, bnd_e, F_X11_test_b199]
            by_cases k6 : kd T q = 6
            · have hlt := kd_lt (T := T) (q := q) (by omega)
              obtain ⟨u1, u2⟩ := nq_gt hlt
              have hnx : nx T q = q + 1 := kd_c1 (c := 93) hT rfl (by decide) (by decide) (by decide) (by decide) k6
              have hsb : sbk T (q + 1) = nq T q := by unfold nq; rw [hnx]
              obtain ⟨D5, e5, h5, S5, m5⟩ := b164 D4 0 _ h4 S4
              rw [if_pos k6, if_pos k6, e5]
              have hI := ih false yr yw ya yk ys (q + 1) c (n + (k + n1 a) + n1 w) D5 (by rw [hsb]; omega) (by omega) hc hlvY (by rw [hsb]; omega) (by
                rw [hsb, if_neg (show ¬ false = true by decide)]
                omega) h5 S5
              rw [hsb, if_neg (show ¬ false = true by decide)] at hI
              unfold Sp at hI
              rw [if_neg (show ¬ false = true by decide)] at hI
              exact RxD.pre hI m5
            · obtain ⟨D5, e5, r5, m5⟩ := r_fails (x := q) (c := 0) h4.1
              rw [ft_0] at r5
              have h5 := h4.p r5 (m21 m5)
              obtain ⟨D6, e6, h6, S6, m6⟩ := b164 D5 _ _ h5 (S4.rr (b := 300 * s + (n + (k + n1 a) + n1 w)) (p21_rr (m21 m5)))
              have hne : ¬ nI (1 + 8 * q + 0) = 0 := nI_ne0 (by omega) (by omega)
              obtain ⟨fu, rfl⟩ : ∃ g, fu = g + 1 := ⟨fu - 1, by omega⟩
              rw [if_neg k6, if_neg k6, h4.1.2.1, show F_X11_fails 0 (nI q) D4 = _ from e5, vbd_s, e6, r_b9_f hne h6.1]
              exact ⟨D6, q + 1, rfl, h6.1, by omega, by omega, by omega, (rr_rx (p21_rr (m21 m5))).trans m6⟩
