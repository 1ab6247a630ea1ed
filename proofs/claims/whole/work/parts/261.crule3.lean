theorem RuC.grd {T : Tp} {j n : Nat} {D : Dt} {x : PR} {res : Option (Int32 × Dt)} (h : RuC T j n D x res) : RuC T j n D x (cbd res (fun r D' => (grd (r = 0 ∨ r = 1) (some (r, D'))))) := by
  cases x with
  | inl f =>
    obtain ⟨D', e, r⟩ := h
    rw [e, cbd_s, grd_t (Or.inl rfl)]
    exact ⟨D', rfl, r⟩
  | inr y =>
    obtain ⟨q, c, l⟩ := y
    obtain ⟨D', e, r⟩ := h
    rw [e, cbd_s, grd_t (Or.inr rfl)]
    exact ⟨D', rfl, r⟩
theorem c_rTst {T : Tp} {j : Nat} {F : Nat → Nat → PR} {rc : Nat → Int32 → Dt → Option (Int32 × Dt)} {d : Int32} (hL : tpL T ≤ 400) (hj : j < 6) (hF : ∀ q c, q ≤ tpL T → c ≤ 60 → gdP T q c 9 0 [] [true] (F q c)) (hR : FcC T j F (rc j d)) : FcC T j (pTst T F) (FG_X4_readTest rc j d) := by
  intro q c n D hq hc hb h
  have hv := hR q c n D hq hc hb h
  rw [FG_X4_readTest, grd_t (V3 hj)]
  unfold pTst
  cases ev : F q c with
  | inl f =>
    rw [ev] at hv
    obtain ⟨D2, e2, f2, m2⟩ := hv
    rw [e2, cbd_s, if_pos rfl]
    exact ⟨D2, rfl, f2, m2⟩
  | inr y =>
    obtain ⟨q1, c1, l1⟩ := y
    obtain ⟨v1, v2, v3, v4, v5⟩ := flen hF hq hc ev
    rw [ev] at hv
    obtain ⟨D2, e2, r2⟩ := hv
    rw [e2, cbd_s, if_neg (show ¬ (1 : Int32) = 0 by decide)]
    have := c_rTL (rc := rc) (d := d) hL hj hF hR 401 2000 0 false q1 c1 (n + l1.length) D2 (by omega) (by omega) (by omega) v2 v4 (by show 3 * (n + l1.length) + 0 ≤ _; omega) r2.1
    exact RuC.seq r2 this
theorem CSt.to {T : Tp} {j q c n q' : Nat} {D D' : Dt} (h : CSt D T j q c n) (cp : CP D' T q') (m : Sm prS D D') : CSt D' T j q' c n := ⟨cp, by rw [m.i (by simp [prS])]; exact h.2.1, by rw [m.i (by simp [prS])]; exact h.2.2⟩
theorem c_rFct {T : Tp} {j : Nat} (hL : tpL T ≤ 400) (hj : j < 6) : ∀ r m, r ≤ 10 → r < m → FcC T j (pFct T r) (F_X4_readFact_f m j (nI (10 - r))) := by
  intro r
  induction r with
  | zero =>
    intro m _ hm q c n D hq hc hb h
    obtain ⟨m, rfl⟩ : ∃ g, m = g + 1 := ⟨m - 1, by omega⟩
    have hkb := kd_b (T := T) (p := q)
    have k5 : (nI (kd T q) = (5 : Int32)) = (kd T q = 5) := nI_k (s := 5) (by decide)
    have k35 : (nI (kd T q) = (35 : Int32)) = (kd T q = 35) := nI_k (s := 35) (by decide)
    rw [F_X4_readFact_f, FG_X4_readFact, grd_t (V3 hj), c_sgn h.1, cbd_s, pFct]
    simp only [k5, k35]
    have fl : RuC T j n D (.inl (1 + 8 * q + 2)) (F_X4_readFact_b25 (F_X4_readFact_f m) (FG_X4_readTest (F_X4_readFact_f m)) j (nI (10 - 0)) (nI (10 - 0)) (nI (kd T q)) D) := by
      rw [F_X4_readFact_b25, if_neg (show ¬ nI (10 - 0) < (10 : Int32) by decide)]
      obtain ⟨D', e, r⟩ := RuC.fail (n := n) (k := 2) h
      rw [show F_X2_fail 2 D = _ from e, cbd_s, grd_t (Or.inl rfl)]
      exact r
    by_cases c5 : kd T q = 5
    · rw [if_pos c5, if_pos (Or.inl c5)]
      exact fl
    · by_cases c35 : kd T q = 35
      · rw [if_neg c5, if_pos c35, if_pos (Or.inr c35)]
        exact fl
      · rw [if_neg c5, if_neg c35, if_neg (fun x => x.elim c5 c35)]
        exact (c_rCmp hL hj hq hc hb h).grd
  | succ r ih =>
    intro m hr hm q c n D hq hc hb h
    obtain ⟨m, rfl⟩ : ∃ g, m = g + 1 := ⟨m - 1, by omega⟩
    have hkb := kd_b (T := T) (p := q)
    have k5 : (nI (kd T q) = (5 : Int32)) = (kd T q = 5) := nI_k (s := 5) (by decide)
    have k35 : (nI (kd T q) = (35 : Int32)) = (kd T q = 35) := nI_k (s := 35) (by decide)
    have hI := ih m (by omega) (by omega)
    have hd : nI (10 - (r + 1)) + 1 = nI (10 - r) := by rw [nI_1]; congr 1; omega
    rw [F_X4_readFact_f, FG_X4_readFact, grd_t (V3 hj), c_sgn h.1, cbd_s, pFct]
    simp only [k5, k35]
    have hlt : nI (10 - (r + 1)) < (10 : Int32) := nI_lt (b := 10) (by omega) (by decide)
    by_cases c5 : kd T q = 5
    · obtain ⟨g1, g2⟩ := nq_gt (kd_lt (T := T) (q := q) (by omega))
      obtain ⟨D1, e1, s1, m1⟩ := h.stp (by omega)
      have r1 : RuO T j n D (nq T q) c [] D1 := RuO.nil s1 m1
      have hT := c_rTst hL hj (pFct_gd hL r) hI (nq T q) c n D1 g2 hc (by omega) s1
      rw [if_pos c5, if_pos c5, F_X4_readFact_b25, if_pos hlt, e1, vbd_s, if_pos (by rw [k5]; exact c5), hd]
      have goalX : RuC T j n D (pB (.inr (nq T q, c, [])) (fun q0 c0 => pB (pTst T (pFct T r) q0 c0) (fun q1 c1 => if kd T q1 = 6 then .inr (nq T q1, c1, []) else .inl (1 + 8 * q1)))) (cbd (FG_X4_readTest (F_X4_readFact_f m) j (nI (10 - r)) D1) (fun r16 D17 => (if r16 = 0 then (some ((0 : Int32), D17)) else (cbd (F_X2_demand (6 : Int32) D17) (fun r20 D21 => (if r20 = 0 then (some ((0 : Int32), D21)) else (some ((1 : Int32), D21)))))))) := by
        refine RuC.seq r1 ?_
        have hg := pTst_gd hL (pFct_gd hL r) (q := nq T q) (c := c) g2 hc
        cases ev : pTst T (pFct T r) (nq T q) c with
        | inl f =>
          rw [ev] at hT
          obtain ⟨D2, e2, f2, m2⟩ := hT
          rw [e2, cbd_s, if_pos rfl]
          exact ⟨D2, rfl, f2, m2⟩
        | inr y =>
          obtain ⟨q1, c1, l1⟩ := y
          rw [ev] at hT
          obtain ⟨D2, e2, r2⟩ := hT
          rw [e2, cbd_s, if_neg (show ¬ (1 : Int32) = 0 by decide)]
          refine RuC.seq r2 ?_
          obtain ⟨y1, y2⟩ := c_demand (s := 6) r2.1.1 (by decide) (by decide)
          by_cases c6 : kd T q1 = 6
          · obtain ⟨D3, e3, cp3, m3⟩ := y1 c6
            rw [if_pos c6, show F_X2_demand 6 D2 = _ from e3, cbd_s, if_neg (show ¬ (1 : Int32) = 0 by decide)]
            exact ⟨D3, rfl, RuO.nil (r2.1.to cp3 m3) m3⟩
          · obtain ⟨D3, e3, f3, m3⟩ := y2 c6
            rw [if_neg c6, show F_X2_demand 6 D2 = _ from e3, cbd_s, if_pos rfl]
            exact ⟨D3, rfl, f3, pr_ru m3⟩
      refine goalX.to ?_
      unfold pB
      simp only
      cases pTst T (pFct T r) (nq T q) c with
      | inl f => rfl
      | inr y =>
        simp only
        by_cases c6 : kd T y.1 = 6
        · simp only [if_pos c6, List.nil_append]
        · simp only [if_neg c6]
    · rw [if_neg c5, if_neg c5]
      by_cases c35 : kd T q = 35
      · obtain ⟨g1, g2⟩ := nq_gt (kd_lt (T := T) (q := q) (by omega))
        obtain ⟨D1, e1, s1, m1⟩ := h.stp (by omega)
        have r1 : RuO T j n D (nq T q) c [] D1 := RuO.nil s1 m1
        have hT := hI (nq T q) c n D1 g2 hc (by omega) s1
        rw [if_pos c35, if_pos c35, F_X4_readFact_b25, if_pos hlt, e1, vbd_s, if_neg (by rw [k5]; exact c5), hd]
        have goalX : RuC T j n D (pB (.inr (nq T q, c, [])) (fun q0 c0 => pB (pFct T r q0 c0) (fun q1 c1 => .inr (q1, c1, [(35, 0)])))) (cbd (F_X4_readFact_f m j (nI (10 - r)) D1) (fun r10 D11 => (if r10 = 0 then (some ((0 : Int32), D11)) else (vbd (F_X3_add j (35 : Int32) (0 : Int32) D11) (fun D14 => (some ((1 : Int32), D14))))))) := by
          refine RuC.seq r1 ?_
          cases ev : pFct T r (nq T q) c with
          | inl f =>
            rw [ev] at hT
            obtain ⟨D2, e2, f2, m2⟩ := hT
            rw [e2, cbd_s, if_pos rfl]
            exact ⟨D2, rfl, f2, m2⟩
          | inr y =>
            obtain ⟨q1, c1, l1⟩ := y
            obtain ⟨v1, v2, v3, v4, v5⟩ := flen (pFct_gd hL r) g2 hc ev
            rw [ev] at hT
            obtain ⟨D2, e2, r2⟩ := hT
            obtain ⟨D3, e3, r3⟩ := c_radd (a := 35) (b := 0) hj (show n + l1.length < 400 by omega) r2.1
            rw [e2, cbd_s, if_neg (show ¬ (1 : Int32) = 0 by decide), e3, vbd_s]
            exact RuC.seq r2 ⟨D3, rfl, r3⟩
        refine goalX.to ?_
        unfold pB
        simp only
        cases pFct T r (nq T q) c with
        | inl f => rfl
        | inr y => rfl
      · rw [if_neg c35, if_neg c35]
        exact (c_rCmp hL hj hq hc hb h).grd
/-! ===== clauses ===== -/
abbrev Cl2 : Type := List En × List En
def pCl (T : Tp) (cl q c : Nat) : Nat ⊕ (Nat × Nat × Cl2) := if kd T q ≠ 33 then .inl (1 + 8 * q) else if 12 ≤ cl then .inl (1 + 8 * q + 4) else match pSum T (nq T q) c with
  | .inl f => .inl f
  | .inr (q1, c1, l1) => if kd T q1 = 34 then (match pTst T (pFct T 10) (nq T q1) c1 with
    | .inl f => .inl f
    | .inr (q2, c2, l2) => .inr (q2, c2, l1, l2)) else .inr (q1, c1, l1, [])
def pRl (T : Tp) : Nat → Nat → Nat → Nat → Nat ⊕ List Cl2
  | 0, _, _, _ => .inl 1
  | m + 1, cl, q, c => match pCl T cl q c with
    | .inl f => .inl f
    | .inr (q1, c1, x) => if kd T q1 = 0 then .inr [x] else if kd T q1 = 4 then (match pRl T m (cl + 1) (nq T q1) c1 with
      | .inl f => .inl f
      | .inr ls => .inr (x :: ls)) else .inl (1 + 8 * q1)
def cat : List Cl2 → List En
  | [] => []
  | x :: ls => (x.1 ++ x.2) ++ cat ls
def sA : List Cl2 → Nat → Nat → Nat
  | [], n, _ => n
  | _ :: _, n, 0 => n
  | x :: ls, n, c + 1 => sA ls (n + (x.1 ++ x.2).length) c
def tA : List Cl2 → Nat → Nat → Nat
  | [], n, _ => n
  | x :: _, n, 0 => n + x.1.length
  | x :: ls, n, c + 1 => tA ls (n + (x.1 ++ x.2).length) c
def eA : List Cl2 → Nat → Nat → Nat
  | [], n, _ => n
  | x :: _, n, 0 => n + (x.1 ++ x.2).length
  | x :: ls, n, c + 1 => eA ls (n + (x.1 ++ x.2).length) c
def rdJ (j : Nat) : LA → Nat → Bool := fun la k => prS la k || (la == (4, 0, 0, 0) && k == 1) || (la.1 == 3 && la.2.1 == j)
theorem ru_rdJ {j : Nat} {D D' : Dt} (s : Sm (ruS j) D D') : Sm (rdJ j) D D' := s.mono (fun la k e => by
  unfold rdJ at e
  unfold ruS
  simp only [Bool.or_eq_false_iff, Bool.and_eq_false_iff, beq_eq_false_iff_ne] at e ⊢
  obtain ⟨⟨e1, e2⟩, e3⟩ := e
  have h3 : ∀ b, la ≠ (3, j, b, 0) := fun b x => by
    rw [x] at e3
    rcases e3 with y | y
    · exact y rfl
    · exact y rfl
  exact ⟨⟨⟨⟨e1, e2⟩, h3 1⟩, h3 2⟩, Or.inl (h3 0)⟩)
theorem c_addCl {T : Tp} {j q c n cl : Nat} {D : Dt} {a b : Int32} (hj : j < 6) (hcl : cl < 12) (h : CSt D T j q c n) (h6 : D.1 (3, j, 0, 0) 6 = nI cl) : ∃ D', F_X3_addClause j a b D = some D' ∧ CSt D' T j q c n ∧ D'.1 (3, j, 0, 0) 6 = nI (cl + 1) ∧ D'.1 (3, j, 4, 0) cl = a ∧ D'.1 (3, j, 5, 0) cl = b ∧ D'.1 (3, j, 6, 0) cl = nI n ∧ (∀ z k, k < cl → D'.1 (3, j, z, 0) k = D.1 (3, j, z, 0) k ∨ z = 0) ∧ (∀ z k, z = 1 ∨ z = 2 → D'.1 (3, j, z, 0) k = D.1 (3, j, z, 0) k) ∧ Sm (rdJ j) D D' := by
  obtain ⟨h1, h2, h3⟩ := h
  have hb := inBe hcl (by decide)
  have hc : (nI cl).toNatClampNeg = cl := nIc (by omega)
  have e3 : (setI D (3, j, 4, 0) cl a).1 (3, j, 0, 0) 6 = nI cl := by rw [gI, if_neg (by simp)]; exact h6
  have e5 : (setI (setI D (3, j, 4, 0) cl a) (3, j, 5, 0) cl b).1 (3, j, 0, 0) 6 = nI cl := by rw [gI, if_neg (by simp)]; exact e3
  have e52 : (setI (setI D (3, j, 4, 0) cl a) (3, j, 5, 0) cl b).1 (3, j, 0, 0) 2 = nI n := by rw [gI, if_neg (by simp), gI, if_neg (by simp)]; exact h3
  have e7 : (setI (setI (setI D (3, j, 4, 0) cl a) (3, j, 5, 0) cl b) (3, j, 6, 0) cl (nI n)).1 (3, j, 0, 0) 6 = nI cl := by rw [gI, if_neg (by simp)]; exact e5
  rw [F_X3_addClause, grd_t (V3 hj), h6, if_neg (show ¬ (12 : Int32) ≤ nI cl from nI_ge (b := 12) hcl (by decide)), grd_t hb, hc, bnd_e, e3, grd_t hb, hc, bnd_e, e5, grd_t hb, hc, e52, bnd_e, e7, nI_1, bnd_e]
  generalize hD' : setI (setI (setI (setI D (3, j, 4, 0) cl a) (3, j, 5, 0) cl b) (3, j, 6, 0) cl (nI n)) (3, j, 0, 0) 6 (nI (cl + 1)) = D'
  have m : Sm (fun la _ => la.1 == 3 && la.2.1 == j) D D' := by
    rw [← hD']
    exact (((Sm.sI (by simp)).trans (Sm.sI (by simp))).trans (Sm.sI (by simp))).trans (Sm.sI (by simp))
  refine ⟨D', rfl, ⟨h1.sm m (fun _ _ _ _ => by simp) (fun _ _ _ => by simp), by rw [m.i (by simp)]; exact h2, ?_⟩, ?_, ?_, ?_, ?_, fun z k hk => ?_, fun z k hz => ?_, m.mono (fun la k e => ?_)⟩
  · rw [← hD']; simp [gI]; exact h3
  · rw [← hD']; simp [gI]
  · rw [← hD']; simp [gI]
  · rw [← hD']; simp [gI]
  · rw [← hD']; simp [gI]
  · by_cases hz : z = 0
    · exact Or.inr hz
    · left
      rw [← hD']
      have hk' : ¬ k = cl := by omega
      simp [gI, hz, hk']
  · rw [← hD']
    rcases hz with rfl | rfl <;> simp [gI]
  · unfold rdJ at e
    simp only [Bool.or_eq_false_iff] at e
    exact e.2
