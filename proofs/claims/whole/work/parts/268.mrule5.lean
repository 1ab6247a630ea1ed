/-! ===== the reference's TEST: a stack ===== -/
theorem pB_as {x : PR} {f g : Nat → Nat → PR} : pB (pB x f) g = pB x (fun q c => pB (f q c) g) := by
  unfold pB
  cases x with
  | inl e => rfl
  | inr y =>
    obtain ⟨q, c, l⟩ := y
    simp only
    cases f q c with
    | inl e => rfl
    | inr z =>
      obtain ⟨q1, c1, l1⟩ := z
      simp only
      cases g q1 c1 with
      | inl e => rfl
      | inr u => simp only [List.append_assoc]
theorem pB_nil {q c : Nat} {f : Nat → Nat → PR} : pB (.inr (q, c, [])) f = f q c := by
  unfold pB
  simp only [List.nil_append]
  cases f q c with
  | inl e => rfl
  | inr z => rfl
theorem pB_r {x : PR} : pB x (fun q c => .inr (q, c, [])) = x := by
  unfold pB
  cases x with
  | inl e => rfl
  | inr y => simp only [List.append_nil]
theorem pB_cg {x : PR} {f g : Nat → Nat → PR} (h : ∀ q c l, x = .inr (q, c, l) → f q c = g q c) : pB x f = pB x g := by
  unfold pB
  cases x with
  | inl e => rfl
  | inr y =>
    obtain ⟨q, c, l⟩ := y
    simp only
    rw [h q c l rfl]
theorem pB_ap {q c : Nat} {l1 l2 : List En} {f : Nat → Nat → PR} : pB (.inr (q, c, l1 ++ l2)) f = pB (.inr (q, c, l1)) (fun q c => pB (.inr (q, c, l2)) f) := by
  unfold pB
  simp only
  cases f q c with
  | inl e => rfl
  | inr z => simp only [List.append_assoc]
theorem pTL_st {T : Tp} {F : Nat → Nat → PR} (hF : ∀ q c, q ≤ tpL T → c ≤ 60 → gdP T q c 9 0 [] [true] (F q c)) : ∀ m m' w q c, tpL T < m + q → tpL T < m' + q → q ≤ tpL T → c ≤ 60 → pTL T F m w q c = pTL T F m' w q c
  | 0, _, _, q, _, h, _, hq, _ => absurd h (by omega)
  | _ + 1, 0, _, q, _, _, h, hq, _ => absurd h (by omega)
  | m + 1, m' + 1, w, q, c, h, h', hq, hc => by
    rw [pTL, pTL]
    by_cases h36 : kd T q = 36
    · rw [if_pos h36, if_pos h36]
      obtain ⟨g1, g2⟩ := nq_gt (kd_lt (T := T) (q := q) (by omega))
      refine pB_cg (fun q1 c1 l1 e => ?_)
      obtain ⟨v1, v2, v3, v4, v5⟩ := flen hF g2 hc e
      refine pB_cg (fun q2 c2 l2 e2 => ?_)
      simp only [Sum.inr.injEq, Prod.mk.injEq] at e2
      exact pTL_st hF m m' w q2 c2 (by omega) (by omega) (by omega) (by omega)
    · rw [if_neg h36, if_neg h36]
      by_cases h37 : kd T q = 37
      · rw [if_pos h37, if_pos h37]
        obtain ⟨g1, g2⟩ := nq_gt (kd_lt (T := T) (q := q) (by omega))
        refine pB_cg (fun q0 c0 l0 e0 => ?_)
        simp only [Sum.inr.injEq, Prod.mk.injEq] at e0
        refine pB_cg (fun q1 c1 l1 e => ?_)
        obtain ⟨v1, v2, v3, v4, v5⟩ := flen hF (by omega) (by omega) e
        exact pTL_st hF m m' true q1 c1 (by omega) (by omega) (by omega) (by omega)
      · rw [if_neg h37, if_neg h37]
theorem pTL_e {T : Tp} {F : Nat → Nat → PR} (hL : tpL T ≤ 400) (hF : ∀ q c, q ≤ tpL T → c ≤ 60 → gdP T q c 9 0 [] [true] (F q c)) {w : Bool} {q c : Nat} (hq : q ≤ tpL T) (hc : c ≤ 60) : pTL T F 401 w q c = if kd T q = 36 then pB (F (nq T q) c) (fun q1 c1 => pB (.inr (q1, c1, [(36, 0)])) (fun q2 c2 => pTL T F 401 w q2 c2)) else if kd T q = 37 then pB (.inr (nq T q, c, oL w)) (fun q0 c0 => pB (F q0 c0) (fun q1 c1 => pTL T F 401 true q1 c1)) else .inr (q, c, oL w) := by
  rw [pTL_st hF 401 402 w q c (by omega) (by omega) hq hc, pTL]
abbrev Lv : Type := Nat × Bool × Bool × Nat
def nots (k : Nat) : List En := List.replicate k (35, 0)
def anL (a : Bool) : List En := if a = true then [(36, 0)] else []
def bs (x : Lv) : List Int32 := List.replicate x.2.2.2 9 ++ ((if x.2.2.1 = true then [10] else []) ++ (if x.2.1 = true then [11] else []))
def phys : List Lv → List Int32
  | [] => []
  | x :: rest => bs x ++ (if rest.isEmpty = true then [] else 12 :: phys rest)
def ow : List Lv → Nat
  | [] => 0
  | x :: rest => x.2.2.2 + (anL x.2.2.1).length + (oL x.2.1).length + ow rest
def lvOk : List Lv → Prop
  | [] => True
  | [x] => x.1 = 10 ∧ x.2.2.2 ≤ x.1
  | x :: y :: rest => x.1 ≤ 10 ∧ x.2.2.2 ≤ x.1 ∧ x.1 + y.2.2.2 + 1 = y.1 ∧ lvOk (y :: rest)
def Kc (T : Tp) : List Lv → Nat → Nat → PR
  | [], q, c => .inr (q, c, [])
  | x :: rest, q, c => pB (.inr (q, c, nots x.2.2.2 ++ anL x.2.2.1)) (fun q0 c0 => pB (pTL T (pFct T x.1) 401 x.2.1 q0 c0) (fun q1 c1 => if rest.isEmpty = true then .inr (q1, c1, []) else if kd T q1 = 6 then Kc T rest (nq T q1) c1 else .inl (1 + 8 * q1)))
def Sp (T : Tp) (e : Bool) (x : Lv) (rest : List Lv) (q c : Nat) : PR := if e = true then pB (pFct T (x.1 - x.2.2.2) q c) (fun q1 c1 => Kc T (x :: rest) q1 c1) else Kc T (x :: rest) q c
def skT : LA → Nat → Bool := fun la k => (la == (11, 0, 0, 0) && (k == 25 || k == 27)) || la == (11, 0, 37, 0)
def rxS (b : Nat) : LA → Nat → Bool := fun la k => rrS b la k || skT la k
theorem rr_rx {b : Nat} {D D' : Dt} (s : Sm (rrS b) D D') : Sm (rxS b) D D' := s.mono (fun la k e => (Bool.or_eq_false_iff.mp e).1)
theorem st_rx {b : Nat} {D D' : Dt} (s : Sm skT D D') : Sm (rxS b) D D' := s.mono (fun la k e => (Bool.or_eq_false_iff.mp e).2)
theorem rx_w {b b' : Nat} {D D' : Dt} (h : b ≤ b') (s : Sm (rxS b') D D') : Sm (rxS b) D D' := s.mono (fun la k e => by
  obtain ⟨e1, e2⟩ := Bool.or_eq_false_iff.mp e
  refine Bool.or_eq_false_iff.mpr ⟨?_, e2⟩
  simp only [rrS, Bool.or_eq_false_iff, Bool.and_eq_false_iff, decide_eq_false_iff_not] at e1 ⊢
  refine ⟨e1.1, ?_⟩
  rcases e1.2 with x | x
  · exact Or.inl x
  · exact Or.inr (by omega))
theorem RSt.st {D D' : Dt} {T : Tp} {s p c n : Nat} {f : Int32} (h : RSt D T s p f c n) (m : Sm skT D D') : RSt D' T s p f c n := ⟨⟨h.1.1.sm m (by simp [skT]) (fun k => by simp [skT]), by rw [m.i (by simp [skT])]; exact h.1.2.1, by rw [m.i (by simp [skT])]; exact h.1.2.2⟩, by rw [m.i (by simp [skT])]; exact h.2.1, by rw [m.i (by simp [skT])]; exact h.2.2.1, by rw [m.i (by simp [skT])]; exact h.2.2.2.1, by rw [m.i (by simp [skT])]; exact h.2.2.2.2⟩
theorem RP.st {D D' : Dt} {T : Tp} {p : Nat} {f : Int32} (h : RP D T p f) (m : Sm skT D D') : RP D' T p f := ⟨h.1.sm m (by simp [skT]) (fun k => by simp [skT]), by rw [m.i (by simp [skT])]; exact h.2.1, by rw [m.i (by simp [skT])]; exact h.2.2⟩
theorem SgM.sx {D D' : Dt} {n b : Nat} {l : List En} (a : SgM D n l) (m : Sm (rxS b) D D') (h : n + l.length ≤ b) : SgM D' n l := by
  intro i hi
  have h1 : rxS b (11, 0, 31, 0) (n + i) = false := by simp [rxS, rrS, skT]; omega
  have h2 : rxS b (11, 0, 32, 0) (n + i) = false := by simp [rxS, rrS, skT]; omega
  rw [m.i h1, m.i h2]
  exact a i hi
def Stk (D : Dt) : List Int32 → Prop
  | [] => True
  | x :: l => D.1 (11, 0, 37, 0) l.length = x ∧ Stk D l
def SkS (D : Dt) (l : List Int32) (d : Nat) : Prop := D.1 (11, 0, 0, 0) 27 = nI l.length ∧ Stk D l ∧ D.1 (11, 0, 0, 0) 25 = nI d
theorem Stk.cg {D D' : Dt} (h : ∀ k, D'.1 (11, 0, 37, 0) k = D.1 (11, 0, 37, 0) k) : ∀ l, Stk D l → Stk D' l
  | [], _ => trivial
  | x :: l, hl => ⟨by rw [h]; exact hl.1, Stk.cg h l hl.2⟩
theorem SkS.rr {D D' : Dt} {b d : Nat} {l : List Int32} (h : SkS D l d) (m : Sm (rrS b) D D') : SkS D' l d := ⟨by rw [m.i (by rw [rr_00]; decide)]; exact h.1, Stk.cg (fun k => m.i (by simp [rrS])) l h.2.1, by rw [m.i (by rw [rr_00]; decide)]; exact h.2.2⟩
theorem Stk.set {D : Dt} {j : Nat} {x : Int32} : ∀ l : List Int32, l.length ≤ j → Stk D l → Stk (setI D (11, 0, 37, 0) j x) l
  | [], _, _ => trivial
  | y :: l, h, hl => by
    simp only [List.length_cons] at h
    exact ⟨by rw [gI_k (by omega)]; exact hl.1, Stk.set l (by omega) hl.2⟩
theorem r_push {D : Dt} {l : List Int32} {d : Nat} {a x : Int32} (hl : l.length < 402) (h : SkS D l d) : ∃ D', F_X11_opens_b40 a x D = some D' ∧ SkS D' (x :: l) d ∧ Sm skT D D' := by
  rw [F_X11_opens_b40, h.1, grd_t (inBe hl (by decide)), nIc (by omega), bnd_e]
  have e27 : (setI D (11, 0, 37, 0) l.length x).1 (11, 0, 0, 0) 27 = nI l.length := by rw [gI, if_neg (by simp)]; exact h.1
  rw [e27, nI_1, bnd_e]
  refine ⟨_, rfl, ⟨gI_s, ⟨?_, ?_⟩, ?_⟩, (Sm.sI (by simp [skT])).trans (Sm.sI (by simp [skT]))⟩
  · rw [gI, if_neg (by simp), gI_s]
  · exact Stk.cg (fun k => by rw [gI, if_neg (by simp)]) l (Stk.set l (Nat.le_refl _) h.2.1)
  · rw [gI, if_neg (by simp), gI, if_neg (by simp)]; exact h.2.2
theorem r_top {D : Dt} {l : List Int32} {d : Nat} (hl : l.length ≤ 402) (h : SkS D l d) : F_X11_top D = some (l.headD (-1), D) := by
  cases l with
  | nil =>
    have h1 : D.1 (11, 0, 0, 0) 27 = 0 := h.1
    rw [F_X11_top, h1, if_pos rfl]
    rfl
  | cons x l =>
    have h1 : D.1 (11, 0, 0, 0) 27 = nI (l.length + 1) := h.1
    simp only [List.length_cons] at hl
    rw [F_X11_top, h1, if_neg (nI_ne0 (by omega) (by omega)), nI_pred, grd_t (inBe (by omega) (by decide)), nIc (by omega), h.2.1.1]
    rfl
theorem r_ans {T : Tp} {s p c : Nat} {x x0 a1 : Int32} {l : List Int32} (hs : s < 6) (hx : cm x0 = x) (hl : ¬ l.headD (-1) = x) : ∀ k fu n d D, k < fu → n + k ≤ 300 → k + l.length ≤ 402 → d < 1000 → k < 1000 → SkS D (List.replicate k x ++ l) (d + (if x = 9 then k else 0)) → RSt D T s p 0 c n → ∃ D', F_X11_answers_b0 a1 fu x D = some D' ∧ RSt D' T s p 0 c (n + k) ∧ SkS D' l d ∧ SgM D' (300 * s + n) (List.replicate k (x0, 0)) ∧ Sm (rxS (300 * s + n)) D D' := by
  intro k
  induction k with
  | zero =>
    intro fu n d D hf hn hlen hd hk9 hS h
    obtain ⟨fu, rfl⟩ : ∃ g, fu = g + 1 := ⟨fu - 1, by omega⟩
    rw [List.replicate_zero, List.nil_append, ite_self] at hS
    rw [F_X11_answers_b0, r_top (by omega) hS, cbd_s, if_neg hl]
    exact ⟨D, rfl, h, hS, fun i hi => absurd hi (Nat.not_lt_zero i), Sm.refl⟩
  | succ k ih =>
    intro fu n d D hf hn hlen hd hk9 hS h
    obtain ⟨fu, rfl⟩ : ∃ g, fu = g + 1 := ⟨fu - 1, by omega⟩
    have hr : List.replicate (k + 1) x ++ l = x :: (List.replicate k x ++ l) := rfl
    rw [hr] at hS
    have hlen2 : (x :: (List.replicate k x ++ l)).length = k + l.length + 1 := by simp only [List.length_cons, List.length_append, List.length_replicate]
    rw [F_X11_answers_b0, r_top (by rw [hlen2]; omega) hS, cbd_s, if_pos (show (x :: (List.replicate k x ++ l)).headD (-1) = x from rfl), h.1.2.2, if_pos rfl]
    obtain ⟨D1, e1, r1, z1, z2, m1⟩ := r_entry (a := x) (b := 0) hs (show n < 300 by omega) h
    have S1 := hS.rr m1
    rw [e1, vbd_s, S1.1, hlen2, nI_pred, bnd_e]
    have x25 : (setI D1 (11, 0, 0, 0) 27 (nI (k + l.length))).1 (11, 0, 0, 0) 25 = nI (d + (if x = 9 then k + 1 else 0)) := by rw [gI_k (by decide)]; exact S1.2.2
    rw [x25]
    have step : ∀ v, v = nI (d + (if x = 9 then k else 0)) → ∃ D', F_X11_answers_b0 a1 fu x (setI (setI D1 (11, 0, 0, 0) 27 (nI (k + l.length))) (11, 0, 0, 0) 25 v) = some D' ∧ RSt D' T s p 0 c (n + (k + 1)) ∧ SkS D' l d ∧ SgM D' (300 * s + n) (List.replicate (k + 1) (x0, 0)) ∧ Sm (rxS (300 * s + n)) D D' := by
      intro v hv
      have m2 : Sm skT D1 (setI (setI D1 (11, 0, 0, 0) 27 (nI (k + l.length))) (11, 0, 0, 0) 25 v) := (Sm.sI (by simp [skT])).trans (Sm.sI (by simp [skT]))
      have S2 : SkS (setI (setI D1 (11, 0, 0, 0) 27 (nI (k + l.length))) (11, 0, 0, 0) 25 v) (List.replicate k x ++ l) (d + (if x = 9 then k else 0)) := by
        refine ⟨?_, Stk.cg (fun j => by rw [gI, if_neg (by simp), gI, if_neg (by simp)]) _ S1.2.1.2, by rw [gI_s]; exact hv⟩
        rw [gI_k (by decide), gI_s, List.length_append, List.length_replicate]
      have u2 : ∀ a j, a = 31 ∨ a = 32 → (setI (setI D1 (11, 0, 0, 0) 27 (nI (k + l.length))) (11, 0, 0, 0) 25 v).1 (11, 0, a, 0) j = D1.1 (11, 0, a, 0) j := fun a j ha => by
        rcases ha with rfl | rfl
        · rw [gI_q (by decide), gI_q (by decide)]
        · rw [gI_q (by decide), gI_q (by decide)]
      have r2 := r1.st m2
      generalize setI (setI D1 (11, 0, 0, 0) 27 (nI (k + l.length))) (11, 0, 0, 0) 25 v = D2 at m2 S2 r2 u2 ⊢
      obtain ⟨D3, e3, r3, S3, g3, m3⟩ := ih fu (n + 1) d D2 (by omega) (by omega) (by omega) hd (by omega) S2 r2
      refine ⟨D3, e3, by rw [show n + (k + 1) = n + 1 + k by omega]; exact r3, S3, ?_, ((rr_rx m1).trans (st_rx m2)).trans (rx_w (by omega) m3)⟩
      have one : SgM D3 (300 * s + n) [(x0, 0)] := by
        refine SgM.sx (b := 300 * s + (n + 1)) (fun i hi => ?_) m3 (by simp only [List.length_cons, List.length_nil]; omega)
        have : i = 0 := by simp only [List.length_cons, List.length_nil] at hi; omega
        subst this
        rw [Nat.add_zero, u2 31 _ (Or.inl rfl), u2 32 _ (Or.inr rfl), z1, z2]
        exact ⟨hx.symm, rfl⟩
      exact SgM.app (l1 := [(x0, 0)]) one g3
    by_cases c9 : x = 9
    · rw [if_pos c9, F_X11_answers_b47, bnd_e]
      exact step _ (by rw [if_pos c9, if_pos c9, show d + (k + 1) = d + k + 1 by omega, nI_pred])
    · rw [if_neg c9, F_X11_answers_b47, bnd_e]
      exact step _ (by rw [if_neg c9, if_neg c9]; exact Int32.sub_zero _)
