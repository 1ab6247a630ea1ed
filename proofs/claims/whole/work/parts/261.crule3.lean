theorem RuC.grd {T : Tp} {j n : Nat} {D : Dt} {x : PR} {res : Option (Int32 × Dt)} (h : RuC T j n D x res) : RuC T j n D x (cbd res (fun r D' => (grd (r = 0 ∨ r = 1) (some (r, D'))))) := by
  cases x with
  | inl f =>
    obtain ⟨D', e, r⟩ := h
    rw [e, cbd_s, grd_t (Or.inl rfl)]
    exact ⟨D', rfl, r⟩
  | inr y =>
    obtain ⟨q, c, l⟩ := y
    obtain ⟨D', e, r⟩ := h
    rw [e, cbd_s, grd_t (Or.inr rfl)]
    exact ⟨D', rfl, r⟩
theorem c_rTst {T : Tp} {j : Nat} {F : Nat → Nat → PR} {rc : Nat → Int32 → Dt → Option (Int32 × Dt)} {d : Int32} (hL : tpL T ≤ 400) (hj : j < 6) (hF : ∀ q c, q ≤ tpL T → c ≤ 60 → gdP T q c 9 0 [] [true] (F q c)) (hR : FcC T j F (rc j d)) : FcC T j (pTst T F) (FG_X4_readTest rc j d) := by
  intro q c n D hq hc hb h
  have hv := hR q c n D hq hc hb h
  rw [FG_X4_readTest, grd_t (V3 hj)]
  unfold pTst
  cases ev : F q c with
  | inl f =>
    rw [ev] at hv
    obtain ⟨D2, e2, f2, m2⟩ := hv
    rw [e2, cbd_s, if_pos rfl]
    exact ⟨D2, rfl, f2, m2⟩
  | inr y =>
    obtain ⟨q1, c1, l1⟩ := y
    obtain ⟨v1, v2, v3, v4, v5⟩ := flen hF hq hc ev
    rw [ev] at hv
    obtain ⟨D2, e2, r2⟩ := hv
    rw [e2, cbd_s, if_neg (show ¬ (1 : Int32) = 0 by decide)]
    have := c_rTL (rc := rc) (d := d) hL hj hF hR 401 2000 0 false q1 c1 (n + l1.length) D2 (by omega) (by omega) (by omega) v2 v4 (by show 3 * (n + l1.length) + 0 ≤ _; omega) r2.1
    exact RuC.seq r2 this
theorem CSt.to {T : Tp} {j q c n q' : Nat} {D D' : Dt} (h : CSt D T j q c n) (cp : CP D' T q') (m : Sm prS D D') : CSt D' T j q' c n := ⟨cp, by rw [m.i (by simp [prS])]; exact h.2.1, by rw [m.i (by simp [prS])]; exact h.2.2⟩
theorem c_rFct {T : Tp} {j : Nat} (hL : tpL T ≤ 400) (hj : j < 6) : ∀ r m, r ≤ 10 → r < m → FcC T j (pFct T r) (F_X4_readFact_f m j (nI (10 - r))) := by
  intro r
  induction r with
  | zero =>
    intro m _ hm q c n D hq hc hb h
    obtain ⟨m, rfl⟩ : ∃ g, m = g + 1 := ⟨m - 1, by omega⟩
    have hkb := kd_b (T := T) (p := q)
    have k5 : (nI (kd T q) = (5 : Int32)) = (kd T q = 5) := nI_k (s := 5) (by decide)
    have k35 : (nI (kd T q) = (35 : Int32)) = (kd T q = 35) := nI_k (s := 35) (by decide)
    rw [F_X4_readFact_f, FG_X4_readFact, grd_t (V3 hj), c_sgn h.1, cbd_s, pFct]
    simp only [k5, k35]
    have fl : RuC T j n D (.inl (1 + 8 * q + 2)) (F_X4_readFact_b25 (F_X4_readFact_f m) (FG_X4_readTest (F_X4_readFact_f m)) j (nI (10 - 0)) (nI (10 - 0)) (nI (kd T q)) D) := by
      rw [F_X4_readFact_b25, if_neg (show ¬ nI (10 - 0) < (10 : Int32) by decide)]
      obtain ⟨D', e, r⟩ := RuC.fail (n := n) (k := 2) h
      rw [show F_X2_fail 2 D = _ from e, cbd_s, grd_t (Or.inl rfl)]
      exact r
    by_cases c5 : kd T q = 5
    · rw [if_pos c5, if_pos (Or.inl c5)]
      exact fl
    · by_cases c35 : kd T q = 35
      · rw [if_neg c5, if_pos c35, if_pos (Or.inr c35)]
        exact fl
      · rw [if_neg c5, if_neg c35, if_neg (fun x => x.elim c5 c35)]
        exact (c_rCmp hL hj hq hc hb h).grd
  | succ r ih =>
    intro m hr hm q c n D hq hc hb h
    obtain ⟨m, rfl⟩ : ∃ g, m = g + 1 := ⟨m - 1, by omega⟩
    have hkb := kd_b (T := T) (p := q)
    have k5 : (nI (kd T q) = (5 : Int32)) = (kd T q = 5) := nI_k (s := 5) (by decide)
    have k35 : (nI (kd T q) = (35 : Int32)) = (kd T q = 35) := nI_k (s := 35) (by decide)
    have hI := ih m (by omega) (by omega)
    have hd : nI (10 - (r + 1)) + 1 = nI (10 - r) := by rw [nI_1]; congr 1; omega
    rw [F_X4_readFact_f, FG_X4_readFact, grd_t (V3 hj), c_sgn h.1, cbd_s, pFct]
    simp only [k5, k35]
    have hlt : nI (10 - (r + 1)) < (10 : Int32) := nI_lt (b := 10) (by omega) (by decide)
    by_cases c5 : kd T q = 5
    · obtain ⟨g1, g2⟩ := nq_gt (kd_lt (T := T) (q := q) (by omega))
      obtain ⟨D1, e1, s1, m1⟩ := h.stp (by omega)
      have r1 : RuO T j n D (nq T q) c [] D1 := RuO.nil s1 m1
      have hT := c_rTst hL hj (pFct_gd hL r) hI (nq T q) c n D1 g2 hc (by omega) s1
      rw [if_pos c5, if_pos c5, F_X4_readFact_b25, if_pos hlt, e1, vbd_s, if_pos (by rw [k5]; exact c5), hd]
      have goalX : RuC T j n D (pB (.inr (nq T q, c, [])) (fun q0 c0 => pB (pTst T (pFct T r) q0 c0) (fun q1 c1 => if kd T q1 = 6 then .inr (nq T q1, c1, []) else .inl (1 + 8 * q1)))) (cbd (FG_X4_readTest (F_X4_readFact_f m) j (nI (10 - r)) D1) (fun r16 D17 => (if r16 = 0 then (some ((0 : Int32), D17)) else (cbd (F_X2_demand (6 : Int32) D17) (fun r20 D21 => (if r20 = 0 then (some ((0 : Int32), D21)) else (some ((1 : Int32), D21)))))))) := by
        refine RuC.seq r1 ?_
        have hg := pTst_gd hL (pFct_gd hL r) (q := nq T q) (c := c) g2 hc
        cases ev : pTst T (pFct T r) (nq T q) c with
        | inl f =>
          rw [ev] at hT
          obtain ⟨D2, e2, f2, m2⟩ := hT
          rw [e2, cbd_s, if_pos rfl]
          exact ⟨D2, rfl, f2, m2⟩
        | inr y =>
          obtain ⟨q1, c1, l1⟩ := y
          rw [ev] at hT
          obtain ⟨D2, e2, r2⟩ := hT
          rw [e2, cbd_s, if_neg (show ¬ (1 : Int32) = 0 by decide)]
          refine RuC.seq r2 ?_
          obtain ⟨y1, y2⟩ := c_demand (s := 6) r2.1.1 (by decide) (by decide)
          by_cases c6 : kd T q1 = 6
          · obtain ⟨D3, e3, cp3, m3⟩ := y1 c6
            rw [if_pos c6, show F_X2_demand 6 D2 = _ from e3, cbd_s, if_neg (show ¬ (1 : Int32) = 0 by decide)]
            exact ⟨D3, rfl, RuO.nil (r2.1.to cp3 m3) m3⟩
          · obtain ⟨D3, e3, f3, m3⟩ := y2 c6
            rw [if_neg c6, show F_X2_demand 6 D2 = _ from e3, cbd_s, if_pos rfl]
            exact ⟨D3, rfl, f3, pr_ru m3⟩
      refine goalX.to ?_
      unfold pB
      simp only
      cases pTst T (pFct T r) (nq T q) c with
      | inl f => rfl
      | inr y =>
        simp only
        by_cases c6 : kd T y.1 = 6
        · simp only [if_pos c6, List.nil_append]
        · simp only [if_neg c6]
    · rw [if_neg c5, if_neg c5]
      by_cases c35 : kd T q = 35
      · obtain ⟨g1, g2⟩ := nq_gt (kd_lt (T := T) (q := q) (by omega))
        obtain ⟨D1, e1, s1, m1⟩ := h.stp (by omega)
        have r1 : RuO T j n D (nq T q) c [] D1 := RuO.nil s1 m1
        have hT := hI (nq T q) c n D1 g2 hc (by omega) s1
        rw [if_pos c35, if_pos c35, F_X4_readFact_b25, if_pos hlt, e1, vbd_s, if_neg (by rw [k5]; exact c5), hd]
        have goalX : RuC T j n D (pB (.inr (nq T q, c, [])) (fun q0 c0 => pB (pFct T r q0 c0) (fun q1 c1 => .inr (q1, c1, [(35, 0)])))) (cbd (F_X4_readFact_f m j (nI (10 - r)) D1) (fun r10 D11 => (if r10 = 0 then (some ((0 : Int32), D11)) else (vbd (F_X3_add j (35 : Int32) (0 : Int32) D11) (fun D14 => (some ((1 : Int32), D14))))))) := by
          refine RuC.seq r1 ?_
          cases ev : pFct T r (nq T q) c with
          | inl f =>
            rw [ev] at hT
            obtain ⟨D2, e2, f2, m2⟩ := hT
            rw [e2, cbd_s, if_pos rfl]
            exact ⟨D2, rfl, f2, m2⟩
          | inr y =>
            obtain ⟨q1, c1, l1⟩ := y
            obtain ⟨v1, v2, v3, v4, v5⟩ := flen (pFct_gd hL r) g2 hc ev
            rw [ev] at hT
            obtain ⟨D2, e2, r2⟩ := hT
            obtain ⟨D3, e3, r3⟩ := c_radd (a := 35) (b := 0) hj (show n + l1.length < 400 by omega) r2.1
            rw [e2, cbd_s, if_neg (show ¬ (1 : Int32) = 0 by decide), e3, vbd_s]
            exact RuC.seq r2 ⟨D3, rfl, r3⟩
        refine goalX.to ?_
        unfold pB
        simp only
        cases pFct T r (nq T q) c with
        | inl f => rfl
        | inr y => rfl
      · rw [if_neg c35, if_neg c35]
        exact (c_rCmp hL hj hq hc hb h).grd
/-! ===== clauses ===== -/
abbrev Cl2 : Type := List En × List En
def pCl (T : Tp) (cl q c : Nat) : Nat ⊕ (Nat × Nat × Cl2) := if kd T q ≠ 33 then .inl (1 + 8 * q) else if 12 ≤ cl then .inl (1 + 8 * q + 4) else match pSum T (nq T q) c with
  | .inl f => .inl f
  | .inr (q1, c1, l1) => if kd T q1 = 34 then (match pTst T (pFct T 10) (nq T q1) c1 with
    | .inl f => .inl f
    | .inr (q2, c2, l2) => .inr (q2, c2, l1, l2)) else .inr (q1, c1, l1, [])
def pRl (T : Tp) : Nat → Nat → Nat → Nat → Nat ⊕ List Cl2
  | 0, _, _, _ => .inl 1
  | m + 1, cl, q, c => match pCl T cl q c with
    | .inl f => .inl f
    | .inr (q1, c1, x) => if kd T q1 = 0 then .inr [x] else if kd T q1 = 4 then (match pRl T m (cl + 1) (nq T q1) c1 with
      | .inl f => .inl f
      | .inr ls => .inr (x :: ls)) else .inl (1 + 8 * q1)
def cat : List Cl2 → List En
  | [] => []
  | x :: ls => (x.1 ++ x.2) ++ cat ls
def sA : List Cl2 → Nat → Nat → Nat
  | [], n, _ => n
  | _ :: _, n, 0 => n
  | x :: ls, n, c + 1 => sA ls (n + (x.1 ++ x.2).length) c
def tA : List Cl2 → Nat → Nat → Nat
  | [], n, _ => n
  | x :: _, n, 0 => n + x.1.length
  | x :: ls, n, c + 1 => tA ls (n + (x.1 ++ x.2).length) c
def eA : List Cl2 → Nat → Nat → Nat
  | [], n, _ => n
  | x :: _, n, 0 => n + (x.1 ++ x.2).length
  | x :: ls, n, c + 1 => eA ls (n + (x.1 ++ x.2).length) c
def rdJ (j : Nat) : LA → Nat → Bool := fun la k => prS la k || (la == (4, 0, 0, 0) && k == 1) || (la.1 == 3 && la.2.1 == j)
theorem ru_rdJ {j : Nat} {D D' : Dt} (s : Sm (ruS j) D D') : Sm (rdJ j) D D' := s.mono (fun la k e => by
  unfold rdJ at e
  unfold ruS
  simp only [Bool.or_eq_false_iff, Bool.and_eq_false_iff, beq_eq_false_iff_ne] at e ⊢
  obtain ⟨⟨e1, e2⟩, e3⟩ := e
  have h3 : ∀ b, la ≠ (3, j, b, 0) := fun b x => by
    rw [x] at e3
    rcases e3 with y | y
    · exact y rfl
    · exact y rfl
  exact ⟨⟨⟨⟨e1, e2⟩, h3 1⟩, h3 2⟩, Or.inl (h3 0)⟩)
theorem c_addCl {T : Tp} {j q c n cl : Nat} {D : Dt} {a b : Int32} (hj : j < 6) (hcl : cl < 12) (h : CSt D T j q c n) (h6 : D.1 (3, j, 0, 0) 6 = nI cl) : ∃ D', F_X3_addClause j a b D = some D' ∧ CSt D' T j q c n ∧ D'.1 (3, j, 0, 0) 6 = nI (cl + 1) ∧ D'.1 (3, j, 4, 0) cl = a ∧ D'.1 (3, j, 5, 0) cl = b ∧ D'.1 (3, j, 6, 0) cl = nI n ∧ (∀ z k, k < cl → D'.1 (3, j, z, 0) k = D.1 (3, j, z, 0) k ∨ z = 0) ∧ (∀ z k, z = 1 ∨ z = 2 → D'.1 (3, j, z, 0) k = D.1 (3, j, z, 0) k) ∧ Sm (rdJ j) D D' := by
  obtain ⟨h1, h2, h3⟩ := h
  have hb := inBe hcl (by decide)
  have hc : (nI cl).toNatClampNeg = cl := nIc (by omega)
  have e3 : (setI D (3, j, 4, 0) cl a).1 (3, j, 0, 0) 6 = nI cl := by rw [gI, if_neg (by simp)]; exact h6
  have e5 : (setI (setI D (3, j, 4, 0) cl a) (3, j, 5, 0) cl b).1 (3, j, 0, 0) 6 = nI cl := by rw [gI, if_neg (by simp)]; exact e3
  have e52 : (setI (setI D (3, j, 4, 0) cl a) (3, j, 5, 0) cl b).1 (3, j, 0, 0) 2 = nI n := by rw [gI, if_neg (by simp), gI, if_neg (by simp)]; exact h3
  have e7 : (setI (setI (setI D (3, j, 4, 0) cl a) (3, j, 5, 0) cl b) (3, j, 6, 0) cl (nI n)).1 (3, j, 0, 0) 6 = nI cl := by rw [gI, if_neg (by simp)]; exact e5
  rw [F_X3_addClause, grd_t (V3 hj), h6, if_neg (show ¬ (12 : Int32) ≤ nI cl from nI_ge (b := 12) hcl (by decide)), grd_t hb, hc, bnd_e, e3, grd_t hb, hc, bnd_e, e5, grd_t hb, hc, e52, bnd_e, e7, nI_1, bnd_e]
  generalize hD' : setI (setI (setI (setI D (3, j, 4, 0) cl a) (3, j, 5, 0) cl b) (3, j, 6, 0) cl (nI n)) (3, j, 0, 0) 6 (nI (cl + 1)) = D'
  have m : Sm (fun la _ => la.1 == 3 && la.2.1 == j) D D' := by
    rw [← hD']
    exact (((Sm.sI (by simp)).trans (Sm.sI (by simp))).trans (Sm.sI (by simp))).trans (Sm.sI (by simp))
  refine ⟨D', rfl, ⟨h1.sm m (fun _ _ _ _ => by simp) (fun _ _ _ => by simp), by rw [m.i (by simp)]; exact h2, ?_⟩, ?_, ?_, ?_, ?_, fun z k hk => ?_, fun z k hz => ?_, m.mono (fun la k e => ?_)⟩
  · rw [← hD']; simp [gI]; exact h3
  · rw [← hD']; simp [gI]
  · rw [← hD']; simp [gI]
  · rw [← hD']; simp [gI]
  · rw [← hD']; simp [gI]
  · by_cases hz : z = 0
    · exact Or.inr hz
    · left
      rw [← hD']
      have hk' : ¬ k = cl := by omega
      simp [gI, hz, hk']
  · rw [← hD']
    rcases hz with rfl | rfl <;> simp [gI]
  · unfold rdJ at e
    simp only [Bool.or_eq_false_iff] at e
    exact e.2
theorem c_takeBuy {T : Tp} {q cl : Nat} {D : Dt} (hcl : cl < 100) (h : CP D T q) : (kd T q ≠ 33 → ∃ D', F_X4_takeBuy (nI cl) D = some (0, D') ∧ D'.1 (2, 0, 0, 0) 7 = nI (1 + 8 * q) ∧ Sm prS D D') ∧ (kd T q = 33 → 12 ≤ cl → ∃ D', F_X4_takeBuy (nI cl) D = some (0, D') ∧ D'.1 (2, 0, 0, 0) 7 = nI (1 + 8 * q + 4) ∧ Sm prS D D') ∧ (kd T q = 33 → cl < 12 → ∃ D', F_X4_takeBuy (nI cl) D = some (1, D') ∧ CP D' T (nq T q) ∧ Sm prS D D') := by
  have hkb := kd_b (T := T) (p := q)
  have k33 : (nI (kd T q) = (33 : Int32)) = (kd T q = 33) := nI_k (s := 33) (by decide)
  obtain ⟨y1, y2⟩ := c_demand (s := 33) h (by decide) (by decide)
  rw [F_X4_takeBuy, c_sgn h, cbd_s]
  simp only [k33]
  refine ⟨fun c => ?_, fun c hc => ?_, fun c hc => ?_⟩
  · obtain ⟨D', e, f, m⟩ := y2 c
    rw [if_neg c, F_X4_takeBuy_b27, show F_X2_demand 33 D = _ from e, cbd_s, grd_t (Or.inl rfl)]
    exact ⟨D', rfl, f, m⟩
  · obtain ⟨D', e, f, s⟩ := c_fl (k := 4) h
    rw [if_pos c, if_neg (show ¬ nI cl < (12 : Int32) from nI_nlt (b := 12) hc (by omega)), show F_X2_fail 4 D = _ from e, cbd_s, grd_t (Or.inl rfl)]
    exact ⟨D', rfl, f, pr7 s⟩
  · obtain ⟨D', e, cp, m⟩ := y1 c
    rw [if_pos c, if_pos (show nI cl < (12 : Int32) from nI_lt (b := 12) hc (by decide)), F_X4_takeBuy_b27, show F_X2_demand 33 D = _ from e, cbd_s, grd_t (Or.inr rfl)]
    exact ⟨D', rfl, cp, m⟩
theorem pr_rd {j : Nat} {D D' : Dt} (s : Sm prS D D') : Sm (rdJ j) D D' := ru_rdJ (pr_ru s)
/-- a clause: what it gives holds -/
theorem pCl_gd {T : Tp} {cl q c : Nat} (hL : tpL T ≤ 400) (hq : q ≤ tpL T) (hc : c ≤ 60) : (∀ f, pCl T cl q c = .inl f → 1 ≤ f ∧ f ≤ 8 * tpL T + 10) ∧ (∀ q1 c1 l1 l2, pCl T cl q c = .inr (q1, c1, l1, l2) → cl < 12 ∧ q < q1 ∧ q1 ≤ tpL T ∧ c ≤ c1 ∧ c1 ≤ 60 ∧ 3 * (l1 ++ l2).length + 6 * c + q ≤ 6 * c1 + q1 ∧ ty l1 [] = some [false] ∧ nv l1 ≤ 60 ∧ (l2 ≠ [] → ty l2 [] = some [true] ∧ nv l2 ≤ 60)) := by
  unfold pCl
  by_cases k33 : kd T q = 33
  · rw [if_neg (fun x => x k33)]
    by_cases c12 : 12 ≤ cl
    · rw [if_pos c12]
      exact ⟨fun f e => by simp only [Sum.inl.injEq] at e; omega, fun _ _ _ _ e => by cases e⟩
    · rw [if_neg c12]
      obtain ⟨g1, g2⟩ := nq_gt (kd_lt (T := T) (q := q) (by omega))
      have hs := pSum_gd (T := T) hL g2 hc
      cases ev : pSum T (nq T q) c with
      | inl f =>
        rw [ev] at hs
        exact ⟨fun f e => by simp only [Sum.inl.injEq] at e; rw [← e]; exact hs, fun _ _ _ _ e => by cases e⟩
      | inr y =>
        obtain ⟨q1, c1, l1⟩ := y
        rw [ev] at hs
        obtain ⟨a1, a2, a3, a4, a5, a6, a7⟩ := hs
        have t1 := a7 []
        simp only
        by_cases k34 : kd T q1 = 34
        · rw [if_pos k34]
          obtain ⟨g3, g4⟩ := nq_gt (kd_lt (T := T) (q := q1) (by omega))
          have ht := pTst_gd hL (pFct_gd hL 10) (q := nq T q1) (c := c1) g4 a4
          cases ev2 : pTst T (pFct T 10) (nq T q1) c1 with
          | inl f =>
            rw [ev2] at ht
            exact ⟨fun f e => by simp only [Sum.inl.injEq] at e; rw [← e]; exact ht, fun _ _ _ _ e => by cases e⟩
          | inr y2 =>
            obtain ⟨q2, c2, l2⟩ := y2
            rw [ev2] at ht
            obtain ⟨b1, b2, b3, b4, b5, b6, b7⟩ := ht
            refine ⟨fun f e => (by cases e), fun q3 c3 l3 l4 e => ?_⟩
            simp only [Sum.inr.injEq, Prod.mk.injEq] at e
            obtain ⟨e1, e2, e3, e4⟩ := e
            rw [← e1, ← e2, ← e3, ← e4, List.length_append]
            exact ⟨by omega, by omega, by omega, by omega, b4, by omega, t1, by omega, fun _ => ⟨b7 [], by omega⟩⟩
        · rw [if_neg k34]
          refine ⟨fun f e => (by cases e), fun q3 c3 l3 l4 e => ?_⟩
          simp only [Sum.inr.injEq, Prod.mk.injEq] at e
          obtain ⟨e1, e2, e3, e4⟩ := e
          rw [← e1, ← e2, ← e3, ← e4, List.append_nil]
          exact ⟨by omega, by omega, by omega, by omega, a4, by omega, t1, by omega, fun x => absurd rfl x⟩
  · rw [if_pos k33]
    exact ⟨fun f e => by simp only [Sum.inl.injEq] at e; omega, fun _ _ _ _ e => by cases e⟩
theorem pRl_gd {T : Tp} (hL : tpL T ≤ 400) : ∀ m cl q c, q ≤ tpL T → c ≤ 60 → (∀ f, pRl T m cl q c = .inl f → 1 ≤ f ∧ f ≤ 8 * tpL T + 10) ∧ (∀ ls, pRl T m cl q c = .inr ls → ls.length + cl ≤ 12 ∧ 3 * (cat ls).length + 6 * c + q ≤ 760 ∧ ∀ x, x ∈ ls → ty x.1 [] = some [false] ∧ nv x.1 ≤ 60 ∧ (x.2 ≠ [] → ty x.2 [] = some [true] ∧ nv x.2 ≤ 60))
  | 0, cl, q, c, hq, hc => by
    rw [pRl]
    exact ⟨fun f e => by simp only [Sum.inl.injEq] at e; omega, fun ls e => by cases e⟩
  | m + 1, cl, q, c, hq, hc => by
    obtain ⟨h1, h2⟩ := pCl_gd (cl := cl) hL hq hc
    rw [pRl]
    cases ev : pCl T cl q c with
    | inl f =>
      exact ⟨fun f' e => by simp only [Sum.inl.injEq] at e; rw [← e]; exact h1 f ev, fun ls e => by cases e⟩
    | inr y =>
      obtain ⟨q1, c1, l1, l2⟩ := y
      obtain ⟨a1, a2, a3, a4, a5, a6, a7, a8, a9⟩ := h2 q1 c1 l1 l2 ev
      simp only
      by_cases k0 : kd T q1 = 0
      · rw [if_pos k0]
        refine ⟨fun f e => (by cases e), fun ls e => ?_⟩
        simp only [Sum.inr.injEq] at e
        rw [← e]
        refine ⟨by simp only [List.length_cons, List.length_nil]; omega, ?_, fun x hx => ?_⟩
        · simp only [cat, List.append_nil]; omega
        · rw [List.mem_singleton] at hx
          rw [hx]
          exact ⟨a7, a8, a9⟩
      · rw [if_neg k0]
        by_cases k4 : kd T q1 = 4
        · rw [if_pos k4]
          obtain ⟨g1, g2⟩ := nq_gt (kd_lt (T := T) (q := q1) (by omega))
          obtain ⟨i1, i2⟩ := pRl_gd hL m (cl + 1) (nq T q1) c1 g2 a5
          cases ev2 : pRl T m (cl + 1) (nq T q1) c1 with
          | inl f =>
            exact ⟨fun f' e => by simp only [Sum.inl.injEq] at e; rw [← e]; exact i1 f ev2, fun ls e => by cases e⟩
          | inr ls0 =>
            obtain ⟨b1, b2, b3⟩ := i2 ls0 ev2
            refine ⟨fun f e => (by cases e), fun ls e => ?_⟩
            simp only [Sum.inr.injEq] at e
            rw [← e]
            refine ⟨by simp only [List.length_cons]; omega, ?_, fun x hx => ?_⟩
            · simp only [cat]
              rw [List.length_append]
              omega
            · rcases List.mem_cons.mp hx with rfl | hx
              · exact ⟨a7, a8, a9⟩
              · exact b3 x hx
        · rw [if_neg k4]
          exact ⟨fun f e => by simp only [Sum.inl.injEq] at e; omega, fun ls e => by cases e⟩
theorem SgC.app {D : Dt} {j n : Nat} {l1 l2 : List En} (a : SgC D j n l1) (b : SgC D j (n + l1.length) l2) : SgC D j n (l1 ++ l2) := by
  intro i hi
  rw [List.length_append] at hi
  by_cases c : i < l1.length
  · rw [show (l1 ++ l2).getD i (0, 0) = l1.getD i (0, 0) by simp [List.getD, List.getElem?_append_left c]]
    exact a i c
  · have := b (i - l1.length) (by omega)
    rw [show n + l1.length + (i - l1.length) = n + i by omega] at this
    rw [show (l1 ++ l2).getD i (0, 0) = l2.getD (i - l1.length) (0, 0) by simp [List.getD, List.getElem?_append_right (show l1.length ≤ i by omega)]]
    exact this
def RdO (j cl n : Nat) (D D' : Dt) (ls : List Cl2) : Prop := D'.1 (3, j, 0, 0) 6 = nI (cl + ls.length) ∧ (∀ c, c < ls.length → D'.1 (3, j, 4, 0) (cl + c) = nI (sA ls n c) ∧ D'.1 (3, j, 5, 0) (cl + c) = nI (tA ls n c) ∧ D'.1 (3, j, 6, 0) (cl + c) = nI (eA ls n c)) ∧ SgC D' j n (cat ls) ∧ (∀ k, k < n → D'.1 (3, j, 1, 0) k = D.1 (3, j, 1, 0) k ∧ D'.1 (3, j, 2, 0) k = D.1 (3, j, 2, 0) k) ∧ (∀ k, k < cl → D'.1 (3, j, 4, 0) k = D.1 (3, j, 4, 0) k ∧ D'.1 (3, j, 5, 0) k = D.1 (3, j, 5, 0) k ∧ D'.1 (3, j, 6, 0) k = D.1 (3, j, 6, 0) k) ∧ Sm (rdJ j) D D'
def RdC (j cl n : Nat) (D : Dt) (x : Nat ⊕ List Cl2) (res : Option (Int32 × Dt)) : Prop := match x with
  | .inl f => ∃ D', res = some (nI f, D') ∧ Sm (rdJ j) D D'
  | .inr ls => ∃ D', res = some (0, D') ∧ RdO j cl n D D' ls
theorem c_read {T : Tp} {j : Nat} (hL : tpL T ≤ 400) (hj : j < 6) : ∀ m fu cl q c n D, cl + m = 13 → m ≤ fu → q ≤ tpL T → c ≤ 60 → 3 * n ≤ 6 * c + q → CSt D T j q c n → D.1 (3, j, 0, 0) 6 = nI cl → (m = 0 → False) → RdC j cl n D (pRl T m cl q c) (F_X4_read_b11 j fu (nI cl) D) := by
  intro m
  induction m with
  | zero => intros; exact absurd rfl (by assumption)
  | succ m ih =>
    intro fu cl q c n D hcl hf hq hc hb h h6 _
    obtain ⟨fu, rfl⟩ : ∃ g, fu = g + 1 := ⟨fu - 1, by omega⟩
    rw [F_X4_read_b11, if_neg (show ¬ (12 : Int32) < nI cl from nI_nlt (a := 12) (by omega) (by decide)), pRl]
    obtain ⟨y1, y2, y3⟩ := c_takeBuy (cl := cl) (by omega) h.1
    obtain ⟨gd1, gd2⟩ := pCl_gd (cl := cl) hL hq hc
    -- from where the clause is read
    have tail : ∀ (l1 l2 : List En) (q1 c1 : Nat) (D1 : Dt), pCl T cl q c = .inr (q1, c1, l1, l2) → RuO T j n D q1 c1 (l1 ++ l2) D1 → D1.1 (3, j, 0, 0) 6 = nI cl → (∀ k, D1.1 (3, j, 4, 0) k = D.1 (3, j, 4, 0) k ∧ D1.1 (3, j, 5, 0) k = D.1 (3, j, 5, 0) k ∧ D1.1 (3, j, 6, 0) k = D.1 (3, j, 6, 0) k) → RdC j cl n D (if kd T q1 = 0 then .inr [(l1, l2)] else if kd T q1 = 4 then (match pRl T m (cl + 1) (nq T q1) c1 with
      | .inl f => .inl f
      | .inr ls => .inr ((l1, l2) :: ls)) else .inl (1 + 8 * q1)) (F_X4_read_b89 j (fun l2_30 D31 => (F_X4_read_b11 j fu l2_30 D31)) (nI cl) (nI n) (nI (n + l1.length)) D1) := by
      intro l1 l2 q1 c1 D1 ec r1 h61 u1
      obtain ⟨a1, a2, a3, a4, a5, a6, _, _, _⟩ := gd2 q1 c1 l1 l2 ec
      have hkb := kd_b (T := T) (p := q1)
      have k0 : (nI (kd T q1) = (0 : Int32)) = (kd T q1 = 0) := nI_k (s := 0) (by decide)
      obtain ⟨D2, e2, s2, b6, b4, b5, b7, bo, bs, m2⟩ := c_addCl (a := nI n) (b := nI (n + l1.length)) hj a1 r1.1 h61
      rw [F_X4_read_b89, e2, vbd_s, c_sgn s2.1, cbd_s]
      simp only [k0]
      have one : SgC D2 j n (l1 ++ l2) := fun i hi => by
        rw [bs 1 _ (Or.inl rfl), bs 2 _ (Or.inr rfl)]
        exact r1.2.1 i hi
      have low : ∀ k, k < n → D2.1 (3, j, 1, 0) k = D.1 (3, j, 1, 0) k ∧ D2.1 (3, j, 2, 0) k = D.1 (3, j, 2, 0) k := fun k hk => by
        rw [bs 1 _ (Or.inl rfl), bs 2 _ (Or.inr rfl)]
        exact r1.2.2.1 k hk
      have lowc : ∀ k, k < cl → D2.1 (3, j, 4, 0) k = D.1 (3, j, 4, 0) k ∧ D2.1 (3, j, 5, 0) k = D.1 (3, j, 5, 0) k ∧ D2.1 (3, j, 6, 0) k = D.1 (3, j, 6, 0) k := fun k hk => by
        obtain ⟨z1, z2, z3⟩ := u1 k
        refine ⟨?_, ?_, ?_⟩
        · exact ((bo 4 k hk).resolve_right (by decide)).trans z1
        · exact ((bo 5 k hk).resolve_right (by decide)).trans z2
        · exact ((bo 6 k hk).resolve_right (by decide)).trans z3
      have m02 : Sm (rdJ j) D D2 := (ru_rdJ r1.2.2.2).trans m2
      by_cases c0 : kd T q1 = 0
      · rw [if_pos c0, if_pos c0]
        refine ⟨D2, rfl, b6, fun c hc => ?_, ?_, low, lowc, m02⟩
        · have : c = 0 := by simp only [List.length_cons, List.length_nil] at hc; omega
          subst this
          exact ⟨b4, b5, b7⟩
        · simp only [cat, List.append_nil]
          exact one
      · rw [if_neg c0, if_neg c0]
        obtain ⟨z1, z2⟩ := c_demand (s := 4) s2.1 (by decide) (by decide)
        by_cases c4 : kd T q1 = 4
        · obtain ⟨D3, e3, cp3, m3⟩ := z1 c4
          obtain ⟨g1, g2⟩ := nq_gt (kd_lt (T := T) (q := q1) (by omega))
          have u3 : ∀ a k, D3.1 (3, j, a, 0) k = D2.1 (3, j, a, 0) k := fun a k => m3.i (by simp [prS])
          rw [if_pos c4, show F_X2_demand 4 D2 = _ from e3, cbd_s, if_neg (show ¬ (1 : Int32) = 0 by decide), bnd_e, nI_1]
          have hI := ih fu (cl + 1) (nq T q1) c1 (n + (l1 ++ l2).length) D3 (by omega) (by omega) g2 a5 (by omega) (s2.to cp3 m3) (by rw [u3]; exact b6) (by omega)
          cases ev : pRl T m (cl + 1) (nq T q1) c1 with
          | inl f =>
            rw [ev] at hI
            obtain ⟨D4, e4, m4⟩ := hI
            exact ⟨D4, e4, (m02.trans (pr_rd m3)).trans m4⟩
          | inr ls =>
            rw [ev] at hI
            obtain ⟨D4, e4, d1, d2, d3, d4, d5, d6⟩ := hI
            refine ⟨D4, e4, ?_, fun c hc => ?_, ?_, fun k hk => ?_, fun k hk => ?_, (m02.trans (pr_rd m3)).trans d6⟩
            · rw [d1]; congr 1; simp only [List.length_cons]; omega
            · cases c with
              | zero =>
                obtain ⟨x1, x2, x3⟩ := d5 cl (by omega)
                refine ⟨?_, ?_, ?_⟩
                · show D4.1 (3, j, 4, 0) cl = _
                  rw [x1, u3]; exact b4
                · show D4.1 (3, j, 5, 0) cl = _
                  rw [x2, u3]; exact b5
                · show D4.1 (3, j, 6, 0) cl = _
                  rw [x3, u3]; exact b7
              | succ c =>
                have := d2 c (by simp only [List.length_cons] at hc; omega)
                rw [show cl + 1 + c = cl + (c + 1) by omega] at this
                exact this
            · refine SgC.app (fun i hi => ?_) d3
              obtain ⟨x1, x2⟩ := d4 (n + i) (by have : i < (l1 ++ l2).length := hi; omega)
              rw [x1, x2, u3, u3]
              exact one i hi
            · obtain ⟨x1, x2⟩ := d4 k (by omega)
              rw [x1, x2, u3, u3]
              exact low k hk
            · obtain ⟨x1, x2, x3⟩ := d5 k (by omega)
              rw [x1, x2, x3, u3, u3, u3]
              exact lowc k hk
        · obtain ⟨D3, e3, f3, m3⟩ := z2 c4
          rw [if_neg c4, show F_X2_demand 4 D2 = _ from e3, cbd_s, if_pos rfl, f3]
          exact ⟨D3, rfl, m02.trans (pr_rd m3)⟩
    by_cases k33 : kd T q = 33
    · by_cases c12 : 12 ≤ cl
      · obtain ⟨D1, e1, f1, m1⟩ := y2 k33 c12
        have : pCl T cl q c = .inl (1 + 8 * q + 4) := by unfold pCl; rw [if_neg (fun x => x k33), if_pos c12]
        rw [this, e1, cbd_s, if_pos rfl, f1]
        exact ⟨D1, rfl, pr_rd m1⟩
      · obtain ⟨D1, e1, cp1, m1⟩ := y3 k33 (by omega)
        obtain ⟨g1, g2⟩ := nq_gt (kd_lt (T := T) (q := q) (by omega))
        have s1 := h.to cp1 m1
        have u1 : ∀ a k, D1.1 (3, j, a, 0) k = D.1 (3, j, a, 0) k := fun a k => m1.i (by simp [prS])
        have r1 : RuO T j n D (nq T q) c [] D1 := RuO.nil s1 m1
        rw [e1, cbd_s, if_neg (show ¬ (1 : Int32) = 0 by decide), bnd_e]
        have hs := c_rSum hL hj g2 hc (show 3 * n ≤ 6 * c + nq T q by omega) s1
        have ec : pCl T cl q c = match pSum T (nq T q) c with
          | .inl f => .inl f
          | .inr (q1, c1, l1) => if kd T q1 = 34 then (match pTst T (pFct T 10) (nq T q1) c1 with
            | .inl f => .inl f
            | .inr (q2, c2, l2) => .inr (q2, c2, l1, l2)) else .inr (q1, c1, l1, []) := by unfold pCl; rw [if_neg (fun x => x k33), if_neg c12] <;> rfl
        have hn : D1.1 (3, j, 0, 0) 2 = nI n := s1.2.2
        have o6 : ∀ {E E' : Dt}, Sm (ruS j) E E' → E'.1 (3, j, 0, 0) 6 = E.1 (3, j, 0, 0) 6 ∧ ∀ k, E'.1 (3, j, 4, 0) k = E.1 (3, j, 4, 0) k ∧ E'.1 (3, j, 5, 0) k = E.1 (3, j, 5, 0) k ∧ E'.1 (3, j, 6, 0) k = E.1 (3, j, 6, 0) k := fun s => ⟨s.i (by simp [ruS, prS]), fun k => ⟨s.i (by simp [ruS, prS]), s.i (by simp [ruS, prS]), s.i (by simp [ruS, prS])⟩⟩
        cases ev : pSum T (nq T q) c with
        | inl f =>
          rw [ev] at hs ec
          obtain ⟨D2, e2, f2, m2⟩ := hs
          rw [ec, e2, cbd_s, if_pos rfl, f2]
          exact ⟨D2, rfl, (pr_rd m1).trans (ru_rdJ m2)⟩
        | inr y =>
          obtain ⟨q1, c1, l1⟩ := y
          obtain ⟨v1, v2, v3, v4, v5⟩ := slen hL g2 hc ev
          rw [ev] at hs ec
          simp only at ec
          obtain ⟨D2, e2, r2⟩ := hs
          have r02 : RuO T j n D q1 c1 l1 D2 := RuO.seq r1 r2
          rw [e2, cbd_s, if_neg (show ¬ (1 : Int32) = 0 by decide), bnd_e, hn, show D2.1 (3, j, 0, 0) 2 = nI (n + l1.length) from r2.1.2.2]
          obtain ⟨z1, z2⟩ := c_take (s := 34) r2.1.1 (by decide) (by decide)
          by_cases c34 : kd T q1 = 34
          · obtain ⟨D3, e3, cp3, m3⟩ := z1 c34
            obtain ⟨g3, g4⟩ := nq_gt (kd_lt (T := T) (q := q1) (by omega))
            have s3 := r2.1.to cp3 m3
            rw [if_pos c34] at ec
            have ht := c_rTst hL hj (pFct_gd hL 10) (c_rFct hL hj 10 16 (by decide) (by decide)) (nq T q1) c1 (n + l1.length) D3 g4 v4 (by omega) s3
            rw [show F_X2_take 34 D2 = _ from e3, cbd_s, if_neg (show ¬ (1 : Int32) = 0 by decide), show F_X4_readTest j 0 D3 = FG_X4_readTest (F_X4_readFact_f 16) j (nI (10 - 10)) D3 from rfl]
            cases ev2 : pTst T (pFct T 10) (nq T q1) c1 with
            | inl f =>
              rw [ev2] at ht ec
              obtain ⟨D4, e4, f4, m4⟩ := ht
              rw [ec, e4, cbd_s, if_pos rfl, f4]
              exact ⟨D4, rfl, ((ru_rdJ r02.2.2.2).trans (pr_rd m3)).trans (ru_rdJ m4)⟩
            | inr y2 =>
              obtain ⟨q2, c2, l2⟩ := y2
              rw [ev2] at ht ec
              simp only at ec
              obtain ⟨D4, e4, r4⟩ := ht
              have r23 : RuO T j (n + l1.length) D2 q2 c2 l2 D4 := RuO.pre r4 (pr_ru m3) (fun a k => m3.i (by simp [prS]))
              have r04 := RuO.seq r02 r23
              obtain ⟨p6, pk⟩ := o6 r04.2.2.2
              have := tail l1 l2 q2 c2 D4 ec r04 (p6.trans h6) pk
              rw [ec, e4, cbd_s, if_neg (show ¬ (1 : Int32) = 0 by decide)]
              exact this
          · rw [if_neg c34] at ec
            obtain ⟨p6, pk⟩ := o6 r02.2.2.2
            have := tail l1 [] q1 c1 D2 ec (by rw [List.append_nil]; exact r02) (p6.trans h6) pk
            rw [ec, show F_X2_take 34 D2 = _ from z2 c34, cbd_s, if_pos rfl]
            exact this
    · obtain ⟨D1, e1, f1, m1⟩ := y1 k33
      have : pCl T cl q c = .inl (1 + 8 * q) := by unfold pCl; rw [if_pos k33]
      rw [this, e1, cbd_s, if_pos rfl, f1]
      exact ⟨D1, rfl, pr_rd m1⟩
theorem sg_list {F G : Nat → Int32} : ∀ (l : List En) (n : Nat), (∀ i, i < l.length → F (n + i) = (l.getD i (0, 0)).1 ∧ G (n + i) = (l.getD i (0, 0)).2) → sg F G n l.length = l
  | [], _, _ => rfl
  | x :: l, n, h => by
    show (F n, G n) :: sg F G (n + 1) l.length = x :: l
    obtain ⟨h1, h2⟩ := h 0 (by simp)
    have h1' : F n = x.1 := h1
    have h2' : G n = x.2 := h2
    rw [h1', h2', sg_list l (n + 1) (fun i hi => by
      have := h (i + 1) (by simp only [List.length_cons]; omega)
      rw [show n + (i + 1) = n + 1 + i by omega] at this
      exact this)]
theorem cl_at {F G : Nat → Int32} : ∀ (ls : List Cl2) (n c : Nat), c < ls.length → (∀ i, i < (cat ls).length → F (n + i) = ((cat ls).getD i (0, 0)).1 ∧ G (n + i) = ((cat ls).getD i (0, 0)).2) → ∃ x, x ∈ ls ∧ sA ls n c + x.1.length = tA ls n c ∧ tA ls n c + x.2.length = eA ls n c ∧ eA ls n c ≤ n + (cat ls).length ∧ sg F G (sA ls n c) x.1.length = x.1 ∧ sg F G (tA ls n c) x.2.length = x.2
  | [], n, c, hc, _ => absurd hc (Nat.not_lt_zero c)
  | x :: ls, n, 0, hc, h => by
    have a1 : ∀ i, i < (x.1 ++ x.2).length → (cat (x :: ls)).getD i (0, 0) = (x.1 ++ x.2).getD i (0, 0) := fun i hi => by
      show ((x.1 ++ x.2) ++ cat ls).getD i (0, 0) = _
      simp only [List.getD]
      rw [List.getElem?_append_left hi]
    have hl : (cat (x :: ls)).length = x.1.length + x.2.length + (cat ls).length := by
      show ((x.1 ++ x.2) ++ cat ls).length = _
      rw [List.length_append, List.length_append]
    refine ⟨x, List.mem_cons_self, rfl, ?_, ?_, ?_, ?_⟩
    · show n + x.1.length + x.2.length = n + (x.1 ++ x.2).length
      rw [List.length_append]
      omega
    · show n + (x.1 ++ x.2).length ≤ _
      rw [List.length_append, hl]
      omega
    · refine sg_list x.1 n (fun i hi => ?_)
      have := h i (by omega)
      rw [a1 i (by rw [List.length_append]; omega), show (x.1 ++ x.2).getD i (0, 0) = x.1.getD i (0, 0) by simp only [List.getD]; rw [List.getElem?_append_left hi]] at this
      exact this
    · refine sg_list x.2 (n + x.1.length) (fun i hi => ?_)
      have := h (x.1.length + i) (by omega)
      rw [a1 _ (by rw [List.length_append]; omega), show (x.1 ++ x.2).getD (x.1.length + i) (0, 0) = x.2.getD i (0, 0) by
        simp only [List.getD]
        rw [List.getElem?_append_right (by omega), show x.1.length + i - x.1.length = i by omega], ← Nat.add_assoc] at this
      exact this
  | x :: ls, n, c + 1, hc, h => by
    have hl : (cat (x :: ls)).length = (x.1 ++ x.2).length + (cat ls).length := by
      show ((x.1 ++ x.2) ++ cat ls).length = _
      rw [List.length_append]
    obtain ⟨y, g1, g2, g3, g4, g5, g6⟩ := cl_at (F := F) (G := G) ls (n + (x.1 ++ x.2).length) c (by simp only [List.length_cons] at hc; omega) (fun i hi => by
      have := h ((x.1 ++ x.2).length + i) (by omega)
      rw [show (cat (x :: ls)).getD ((x.1 ++ x.2).length + i) (0, 0) = (cat ls).getD i (0, 0) by
        show ((x.1 ++ x.2) ++ cat ls).getD _ (0, 0) = _
        simp only [List.getD]
        rw [List.getElem?_append_right (by omega), show (x.1 ++ x.2).length + i - (x.1 ++ x.2).length = i by omega], ← Nat.add_assoc] at this
      exact this)
    exact ⟨y, List.mem_cons_of_mem _ g1, g2, g3, by show eA ls (n + (x.1 ++ x.2).length) c ≤ _; omega, g5, g6⟩
def rlOf (ls : List Cl2) (F G : Nat → Int32) : Rl := (ls.length, sA ls 0, tA ls 0, eA ls 0, F, G)
def SgF (F G : Nat → Int32) (l : List En) : Prop := ∀ i, i < l.length → F i = (l.getD i (0, 0)).1 ∧ G i = (l.getD i (0, 0)).2
theorem rlOf_wf {T : Tp} {q : Nat} {ls : List Cl2} {F G : Nat → Int32} (hL : tpL T ≤ 400) (hq : q ≤ tpL T) (e : pRl T 13 0 q 0 = .inr ls) (h : SgF F G (cat ls)) : RWf (rlOf ls F G) := by
  obtain ⟨a1, a2, a3⟩ := (pRl_gd hL 13 0 q 0 hq (by decide)).2 ls e
  refine ⟨by show ls.length ≤ 12; omega, fun c hc => ?_⟩
  obtain ⟨x, g1, g2, g3, g4, g5, g6⟩ := cl_at (F := F) (G := G) ls 0 c hc (fun i hi => by rw [Nat.zero_add]; exact h i hi)
  obtain ⟨t1, t2, t3⟩ := a3 x g1
  have s1 : rSum (rlOf ls F G) c = x.1 := by
    show sg F G (sA ls 0 c) (tA ls 0 c - sA ls 0 c) = x.1
    rw [show tA ls 0 c - sA ls 0 c = x.1.length by omega]
    exact g5
  have s2 : rTst (rlOf ls F G) c = x.2 := by
    show sg F G (tA ls 0 c) (eA ls 0 c - tA ls 0 c) = x.2
    rw [show eA ls 0 c - tA ls 0 c = x.2.length by omega]
    exact g6
  rw [s1, s2]
  refine ⟨by show sA ls 0 c ≤ tA ls 0 c; omega, by show tA ls 0 c ≤ eA ls 0 c; omega, by show eA ls 0 c ≤ 300; omega, t1, t2, fun hlt => t3 (fun x0 => ?_)⟩
  have hlt' : tA ls 0 c < eA ls 0 c := hlt
  rw [x0] at g3
  simp only [List.length_nil] at g3
  omega
theorem RC.rl {D D' : Dt} {A : Al} (h : RC D A) (s : Sm (fun la _ => la.1 == 2 || la.1 == 4 || (la.1 == 3 && la.2.1 == alN A)) D D') (h1 : D'.1 (2, 0, 0, 0) 1 = 0) : RC D' (A.1, A.2.1, A.2.2.1, A.2.2.2.1, 0, alB A) := by
  obtain ⟨r1, r2, r3, r4, r5, r6, r7, r8⟩ := h
  have zw : ∀ w (la : LA) k, w < 5 → wcl w la = true → ((fun la _ => la.1 == 2 || la.1 == 4 || (la.1 == 3 && la.2.1 == alN A)) : LA → Nat → Bool) la k = false := by
    intro w la k hw e
    simp only [wcl, Bool.or_eq_true, Bool.and_eq_true, beq_iff_eq, decide_eq_true_eq, Bool.or_eq_false_iff, Bool.and_eq_false_iff, beq_eq_false_iff_ne] at e ⊢
    omega
  refine ⟨r1.sm s (fun la k e => zw 0 la k (by decide) e), fun w hw => ?_, fun k hk => ?_, fun k W hk hW => (r4 k W hk hW).sm s (fun la j e => zw (k + 1) la j (by omega) e), ?_, fun r hr => (r6 r hr).sm s (fun q k _ => by have : r < alN A := hr; simp; omega), h1, fun k hk => absurd hk (Nat.not_lt_zero k)⟩
  · obtain ⟨p, hp⟩ := r2 w hw
    exact ⟨p, hp.sm s (fun k => by simp)⟩
  · rw [s.i (by simp)]; exact r3 k hk
  · rw [s.i (by simp)]; exact r5
def addR (A : Al) (R : Rl) : Al := (A.1, A.2.1, alN A + 1, fun r => if r = alN A then R else alR A r, 0, alB A)
theorem c_rule {A : Al} {D : Dt} (hA : okA A) (hN : alN A < 6) (h : RC D A) : match pRl (taped A) 13 0 (sbk (taped A) 0) 0 with
    | .inl f => ∃ D', F_X10_rule D = some (-2 - nI f, D') ∧ RC D' (A.1, A.2.1, A.2.2.1, A.2.2.2.1, 0, alB A) ∧ Sm cS D D'
    | .inr ls => ∃ D' F G, F_X10_rule D = some (nI (alN A), D') ∧ SgF F G (cat ls) ∧ RC D' (addR A (rlOf ls F G)) ∧ Sm cS D D' := by
  have hT := okTp hA
  have hL := hT.1
  obtain ⟨D1, N, e1, t1, a6, a7, m1⟩ := c_split (D := D) hT ⟨h.2.2.2.2.2.2.1, h.2.2.2.2.2.2.2⟩
  have m2 : Sm (fun la k => la == (2, 0, 0, 0) && k == 1) D1 (setI D1 (2, 0, 0, 0) 1 0) := Sm.sI (by simp)
  have c2 : CP (setI D1 (2, 0, 0, 0) 1 0) (taped A) (sbk (taped A) 0) := (t1.cp a6 a7).sm m2 (fun q k _ _ => by simp; omega) (fun k _ _ => by simp; omega)
  have len2 : (setI D1 (2, 0, 0, 0) 1 0).1 (2, 0, 0, 0) 1 = 0 := gI_s
  have h5 : D.1 (10, 0, 0, 0) 5 = nI (alN A) := h.2.2.2.2.1
  rw [F_X10_rule, h5, if_pos (show nI (alN A) < (6 : Int32) from nI_lt (b := 6) hN (by decide)), e1, vbd_s, bnd_e]
  generalize setI D1 (2, 0, 0, 0) 1 0 = D2 at m2 c2 len2 ⊢
  have m12 : Sm (fun la _ => la.1 == 2) D D2 := by
    refine (m1.mono (fun la k e => ?_)).trans (m2.mono (fun la k e => ?_))
    · simp only [beq_eq_false_iff_ne] at e
      simp only [spS, Bool.or_eq_false_iff, Bool.and_eq_false_iff, beq_eq_false_iff_ne]
      exact ⟨⟨⟨fun x => e (by rw [x]), fun x => e (by rw [x])⟩, fun x => e (by rw [x])⟩, Or.inl (fun x => e (by rw [x]))⟩
    · simp only [beq_eq_false_iff_ne] at e
      simp only [Bool.and_eq_false_iff, beq_eq_false_iff_ne]
      exact Or.inl (fun x => e (by rw [x]))
  have h52 : D2.1 (10, 0, 0, 0) 5 = nI (alN A) := by rw [m12.i (by simp)]; exact h5
  rw [h52, grd_t (inBe hN (by decide)), nIc (by omega), F_X4_read, grd_t (V3 hN), F_X3_clear, grd_t (V3 hN), bnd_e, bnd_e, vbd_s, bnd_e]
  generalize hj : alN A = j at hN h5 h52 ⊢
  have m3 : Sm (fun la k => (la.1 == 3 && la.2.1 == j) || (la == (4, 0, 0, 0) && k == 1)) D2 (setI (setI (setI D2 (3, j, 0, 0) 2 0) (3, j, 0, 0) 6 0) (4, 0, 0, 0) 1 0) := ((Sm.sI (by simp)).trans (Sm.sI (by simp))).trans (Sm.sI (by simp))
  have x6 : (setI (setI (setI D2 (3, j, 0, 0) 2 0) (3, j, 0, 0) 6 0) (4, 0, 0, 0) 1 0).1 (3, j, 0, 0) 6 = nI 0 := by simp [gI]; rfl
  have s3 : CSt (setI (setI (setI D2 (3, j, 0, 0) 2 0) (3, j, 0, 0) 6 0) (4, 0, 0, 0) 1 0) (taped A) j (sbk (taped A) 0) 0 0 := ⟨c2.sm m3 (fun _ _ _ _ => by simp) (fun _ _ _ => by simp), by simp [gI]; rfl, by simp [gI]; rfl⟩
  generalize setI (setI (setI D2 (3, j, 0, 0) 2 0) (3, j, 0, 0) 6 0) (4, 0, 0, 0) 1 0 = D3 at m3 x6 s3 ⊢
  have hr := c_read hL hN 13 2000 0 (sbk (taped A) 0) 0 0 D3 (by omega) (by omega) (sbk_le (Nat.zero_le _)) (by omega) (by omega) s3 x6 (by decide)
  have big : ∀ {D4 : Dt}, Sm (rdJ j) D3 D4 → Sm (fun la _ => la.1 == 2 || la.1 == 4 || (la.1 == 3 && la.2.1 == alN A)) D D4 := fun s => by
    rw [hj]
    refine ((m12.mono (fun la k e => ?_)).trans (m3.mono (fun la k e => ?_))).trans (s.mono (fun la k e => ?_))
    · simp only [Bool.or_eq_false_iff] at e
      exact e.1.1
    · simp only [Bool.or_eq_false_iff, Bool.and_eq_false_iff, beq_eq_false_iff_ne] at e ⊢
      exact ⟨e.2, Or.inl (fun x => e.1.2 (by rw [x]))⟩
    · simp only [rdJ, prS, Bool.or_eq_false_iff, Bool.and_eq_false_iff, beq_eq_false_iff_ne] at e ⊢
      exact ⟨⟨Or.inl (fun x => e.1.1 (by rw [x])), Or.inl (fun x => e.1.2 (by rw [x]))⟩, e.2⟩
  have bc : ∀ {E E' : Dt}, Sm (fun la _ => la.1 == 2 || la.1 == 4 || (la.1 == 3 && la.2.1 == alN A)) E E' → Sm cS E E' := fun s => s.mono (fun la k e => by
    simp only [cS, Bool.not_eq_false', beq_iff_eq] at e
    simp [e])
  have len4 : ∀ {D4 : Dt}, Sm (rdJ j) D3 D4 → D4.1 (2, 0, 0, 0) 1 = 0 := fun s => by rw [s.i (by simp [rdJ, prS]), m3.i (by simp)]; exact len2
  cases ev : pRl (taped A) 13 0 (sbk (taped A) 0) 0 with
  | inl f =>
    rw [ev] at hr
    obtain ⟨D4, e4, m4⟩ := hr
    obtain ⟨f1, f2⟩ := (pRl_gd hL 13 0 _ 0 (sbk_le (Nat.zero_le _)) (by decide)).1 f ev
    simp only
    rw [show F_X4_read_b11 j 2000 0 D3 = _ from e4, cbd_s, if_neg (nI_ne0 (by omega) (by omega))]
    exact ⟨D4, rfl, h.rl (big m4) (len4 m4), bc (big m4)⟩
  | inr ls =>
    rw [ev] at hr
    obtain ⟨D4, e4, d1, d2, d3, d4, d5, m4⟩ := hr
    simp only
    have h54 : D4.1 (10, 0, 0, 0) 5 = nI j := by rw [(big m4).i (by simp)]; exact h5
    have hR := h.rl (big m4) (len4 m4)
    rw [show F_X4_read_b11 j 2000 0 D3 = _ from e4, cbd_s, if_pos rfl, h54, nI_1, bnd_e, gI_s]
    have m5 : Sm (fun la k => la == (10, 0, 0, 0) && k == 5) D4 (setI D4 (10, 0, 0, 0) 5 (nI (j + 1))) := Sm.sI (by simp)
    have x5 : (setI D4 (10, 0, 0, 0) 5 (nI (j + 1))).1 (10, 0, 0, 0) 5 = nI (j + 1) := gI_s
    generalize setI D4 (10, 0, 0, 0) 5 (nI (j + 1)) = D5 at m5 x5 ⊢
    refine ⟨D5, D5.1 (3, j, 1, 0), D5.1 (3, j, 2, 0), ?_, fun i hi => ?_, ?_, (bc (big m4)).trans (m5.mono (fun la k e => ?_))⟩
    · rw [nI_pred]
    · rw [m5.i (by simp), m5.i (by simp)]
      have := d3 i hi
      rw [Nat.zero_add] at this
      exact this
    · obtain ⟨r1, r2, r3, r4, r5, r6, r7, r8⟩ := hR
      have zw : ∀ w (la : LA) k, w < 5 → wcl w la = true → ((fun la k => la == (10, 0, 0, 0) && k == 5) : LA → Nat → Bool) la k = false := by
        intro w la k hw e
        simp only [Bool.and_eq_false_iff, beq_eq_false_iff_ne]
        left
        rintro rfl
        simp [wcl] at e
      refine ⟨r1.sm m5 (fun la k e => zw 0 la k (by decide) e), fun w hw => ?_, fun k hk => ?_, fun k W hk hW => (r4 k W hk hW).sm m5 (fun la j e => zw (k + 1) la j (by omega) e), ?_, fun r hr => ?_, ?_, fun k hk => absurd hk (Nat.not_lt_zero k)⟩
      · obtain ⟨p, hp⟩ := r2 w hw
        exact ⟨p, hp.sm m5 (fun k => by simp)⟩
      · rw [m5.i (by simp)]; exact r3 k hk
      · show D5.1 (10, 0, 0, 0) 5 = nI (alN A + 1)
        rw [hj]; exact x5
      · show CR D5 r (if r = alN A then _ else alR A r)
        have hr' : r < alN A + 1 := hr
        by_cases c : r = alN A
        · rw [if_pos c, c, hj]
          refine ⟨?_, rfl, rfl, fun c hc => ?_⟩
          · rw [m5.i (by simp), d1, Nat.zero_add]; rfl
          · obtain ⟨y1, y2, y3⟩ := d2 c hc
            rw [Nat.zero_add] at y1 y2 y3
            rw [m5.i (by simp), m5.i (by simp), m5.i (by simp)]
            exact ⟨y1, y2, y3⟩
        · rw [if_neg c]
          exact (r6 r (by show r < alN A; omega)).sm m5 (fun q k _ => by simp)
      · rw [m5.i (by simp)]; exact len4 m4
    · simp only [cS, Bool.not_eq_false', beq_iff_eq] at e
      simp only [Bool.and_eq_false_iff, beq_eq_false_iff_ne]
      left
      rintro rfl
      cases e
