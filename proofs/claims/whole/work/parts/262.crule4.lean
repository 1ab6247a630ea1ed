theorem c_takeBuy {T : Tp} {q cl : Nat} {D : Dt} (hcl : cl < 100) (h : CP D T q) : (kd T q ≠ 33 → ∃ D', F_X4_takeBuy (nI cl) D = some (0, D') ∧ D'.1 (2, 0, 0, 0) 7 = nI (1 + 8 * q) ∧ Sm prS D D') ∧ (kd T q = 33 → 12 ≤ cl → ∃ D', F_X4_takeBuy (nI cl) D = some (0, D') ∧ D'.1 (2, 0, 0, 0) 7 = nI (1 + 8 * q + 4) ∧ Sm prS D D') ∧ (kd T q = 33 → cl < 12 → ∃ D', F_X4_takeBuy (nI cl) D = some (1, D') ∧ CP D' T (nq T q) ∧ Sm prS D D') := by
  have hkb := kd_b (T := T) (p := q)
  have k33 : (nI (kd T q) = (33 : Int32)) = (kd T q = 33) := nI_k (s := 33) (by decide)
  obtain ⟨y1, y2⟩ := c_demand (s := 33) h (by decide) (by decide)
  rw [F_X4_takeBuy, c_sgn h, cbd_s]
  simp only [k33]
  refine ⟨fun c => ?_, fun c hc => ?_, fun c hc => ?_⟩
  · obtain ⟨D', e, f, m⟩ := y2 c
    rw [if_neg c, F_X4_takeBuy_b27, show F_X2_demand 33 D = _ from e, cbd_s, grd_t (Or.inl rfl)]
    exact ⟨D', rfl, f, m⟩
  · obtain ⟨D', e, f, s⟩ := c_fl (k := 4) h
    rw [if_pos c, if_neg (show ¬ nI cl < (12 : Int32) from nI_nlt (b := 12) hc (by omega)), show F_X2_fail 4 D = _ from e, cbd_s, grd_t (Or.inl rfl)]
    exact ⟨D', rfl, f, pr7 s⟩
  · obtain ⟨D', e, cp, m⟩ := y1 c
    rw [if_pos c, if_pos (show nI cl < (12 : Int32) from nI_lt (b := 12) hc (by decide)), F_X4_takeBuy_b27, show F_X2_demand 33 D = _ from e, cbd_s, grd_t (Or.inr rfl)]
    exact ⟨D', rfl, cp, m⟩
theorem pr_rd {j : Nat} {D D' : Dt} (s : Sm prS D D') : Sm (rdJ j) D D' := ru_rdJ (pr_ru s)
/-- a clause: what it gives holds -/
theorem pCl_gd {T : Tp} {cl q c : Nat} (hL : tpL T ≤ 400) (hq : q ≤ tpL T) (hc : c ≤ 60) : (∀ f, pCl T cl q c = .inl f → 1 ≤ f ∧ f ≤ 8 * tpL T + 10) ∧ (∀ q1 c1 l1 l2, pCl T cl q c = .inr (q1, c1, l1, l2) → cl < 12 ∧ q < q1 ∧ q1 ≤ tpL T ∧ c ≤ c1 ∧ c1 ≤ 60 ∧ 3 * (l1 ++ l2).length + 6 * c + q ≤ 6 * c1 + q1 ∧ ty l1 [] = some [false] ∧ nv l1 ≤ 60 ∧ (l2 ≠ [] → ty l2 [] = some [true] ∧ nv l2 ≤ 60)) := by
  unfold pCl
  by_cases k33 : kd T q = 33
  · rw [if_neg (fun x => x k33)]
    by_cases c12 : 12 ≤ cl
    · rw [if_pos c12]
      exact ⟨fun f e => by simp only [Sum.inl.injEq] at e; omega, fun _ _ _ _ e => by cases e⟩
    · rw [if_neg c12]
      obtain ⟨g1, g2⟩ := nq_gt (kd_lt (T := T) (q := q) (by omega))
      have hs := pSum_gd (T := T) hL g2 hc
      cases ev : pSum T (nq T q) c with
      | inl f =>
        rw [ev] at hs
        exact ⟨fun f e => by simp only [Sum.inl.injEq] at e; rw [← e]; exact hs, fun _ _ _ _ e => by cases e⟩
      | inr y =>
        obtain ⟨q1, c1, l1⟩ := y
        rw [ev] at hs
        obtain ⟨a1, a2, a3, a4, a5, a6, a7⟩ := hs
        have t1 := a7 []
        simp only
        by_cases k34 : kd T q1 = 34
        · rw [if_pos k34]
          obtain ⟨g3, g4⟩ := nq_gt (kd_lt (T := T) (q := q1) (by omega))
          have ht := pTst_gd hL (pFct_gd hL 10) (q := nq T q1) (c := c1) g4 a4
          cases ev2 : pTst T (pFct T 10) (nq T q1) c1 with
          | inl f =>
            rw [ev2] at ht
            exact ⟨fun f e => by simp only [Sum.inl.injEq] at e; rw [← e]; exact ht, fun _ _ _ _ e => by cases e⟩
          | inr y2 =>
            obtain ⟨q2, c2, l2⟩ := y2
            rw [ev2] at ht
            obtain ⟨b1, b2, b3, b4, b5, b6, b7⟩ := ht
            refine ⟨fun f e => (by cases e), fun q3 c3 l3 l4 e => ?_⟩
            simp only [Sum.inr.injEq, Prod.mk.injEq] at e
            obtain ⟨e1, e2, e3, e4⟩ := e
            rw [← e1, ← e2, ← e3, ← e4, List.length_append]
            exact ⟨by omega, by omega, by omega, by omega, b4, by omega, t1, by omega, fun _ => ⟨b7 [], by omega⟩⟩
        · rw [if_neg k34]
          refine ⟨fun f e => (by cases e), fun q3 c3 l3 l4 e => ?_⟩
          simp only [Sum.inr.injEq, Prod.mk.injEq] at e
          obtain ⟨e1, e2, e3, e4⟩ := e
          rw [← e1, ← e2, ← e3, ← e4, List.append_nil]
          exact ⟨by omega, by omega, by omega, by omega, a4, by omega, t1, by omega, fun x => absurd rfl x⟩
  · rw [if_pos k33]
    exact ⟨fun f e => by simp only [Sum.inl.injEq] at e; omega, fun _ _ _ _ e => by cases e⟩
theorem pRl_gd {T : Tp} (hL : tpL T ≤ 400) : ∀ m cl q c, q ≤ tpL T → c ≤ 60 → (∀ f, pRl T m cl q c = .inl f → 1 ≤ f ∧ f ≤ 8 * tpL T + 10) ∧ (∀ ls, pRl T m cl q c = .inr ls → ls.length + cl ≤ 12 ∧ 3 * (cat ls).length + 6 * c + q ≤ 760 ∧ ∀ x, x ∈ ls → ty x.1 [] = some [false] ∧ nv x.1 ≤ 60 ∧ (x.2 ≠ [] → ty x.2 [] = some [true] ∧ nv x.2 ≤ 60))
  | 0, cl, q, c, hq, hc => by
    rw [pRl]
    exact ⟨fun f e => by simp only [Sum.inl.injEq] at e; omega, fun ls e => by cases e⟩
  | m + 1, cl, q, c, hq, hc => by
    obtain ⟨h1, h2⟩ := pCl_gd (cl := cl) hL hq hc
    rw [pRl]
    cases ev : pCl T cl q c with
    | inl f =>
      exact ⟨fun f' e => by simp only [Sum.inl.injEq] at e; rw [← e]; exact h1 f ev, fun ls e => by cases e⟩
    | inr y =>
      obtain ⟨q1, c1, l1, l2⟩ := y
      obtain ⟨a1, a2, a3, a4, a5, a6, a7, a8, a9⟩ := h2 q1 c1 l1 l2 ev
      simp only
      by_cases k0 : kd T q1 = 0
      · rw [if_pos k0]
        refine ⟨fun f e => (by cases e), fun ls e => ?_⟩
        simp only [Sum.inr.injEq] at e
        rw [← e]
        refine ⟨by simp only [List.length_cons, List.length_nil]; omega, ?_, fun x hx => ?_⟩
        · simp only [cat, List.append_nil]; omega
        · rw [List.mem_singleton] at hx
          rw [hx]
          exact ⟨a7, a8, a9⟩
      · rw [if_neg k0]
        by_cases k4 : kd T q1 = 4
        · rw [if_pos k4]
          obtain ⟨g1, g2⟩ := nq_gt (kd_lt (T := T) (q := q1) (by omega))
          obtain ⟨i1, i2⟩ := pRl_gd hL m (cl + 1) (nq T q1) c1 g2 a5
          cases ev2 : pRl T m (cl + 1) (nq T q1) c1 with
          | inl f =>
            exact ⟨fun f' e => by simp only [Sum.inl.injEq] at e; rw [← e]; exact i1 f ev2, fun ls e => by cases e⟩
          | inr ls0 =>
            obtain ⟨b1, b2, b3⟩ := i2 ls0 ev2
            refine ⟨fun f e => (by cases e), fun ls e => ?_⟩
            simp only [Sum.inr.injEq] at e
            rw [← e]
            refine ⟨by simp only [List.length_cons]; omega, ?_, fun x hx => ?_⟩
            · simp only [cat]
              rw [List.length_append]
              omega
            · rcases List.mem_cons.mp hx with rfl | hx
              · exact ⟨a7, a8, a9⟩
              · exact b3 x hx
        · rw [if_neg k4]
          exact ⟨fun f e => by simp only [Sum.inl.injEq] at e; omega, fun ls e => by cases e⟩
theorem SgC.app {D : Dt} {j n : Nat} {l1 l2 : List En} (a : SgC D j n l1) (b : SgC D j (n + l1.length) l2) : SgC D j n (l1 ++ l2) := by
  intro i hi
  rw [List.length_append] at hi
  by_cases c : i < l1.length
  · rw [show (l1 ++ l2).getD i (0, 0) = l1.getD i (0, 0) by simp [List.getD, List.getElem?_append_left c]]
    exact a i c
  · have := b (i - l1.length) (by omega)
    rw [show n + l1.length + (i - l1.length) = n + i by omega] at this
    rw [show (l1 ++ l2).getD i (0, 0) = l2.getD (i - l1.length) (0, 0) by simp [List.getD, List.getElem?_append_right (show l1.length ≤ i by omega)]]
    exact this
def RdO (j cl n : Nat) (D D' : Dt) (ls : List Cl2) : Prop := D'.1 (3, j, 0, 0) 6 = nI (cl + ls.length) ∧ (∀ c, c < ls.length → D'.1 (3, j, 4, 0) (cl + c) = nI (sA ls n c) ∧ D'.1 (3, j, 5, 0) (cl + c) = nI (tA ls n c) ∧ D'.1 (3, j, 6, 0) (cl + c) = nI (eA ls n c)) ∧ SgC D' j n (cat ls) ∧ (∀ k, k < n → D'.1 (3, j, 1, 0) k = D.1 (3, j, 1, 0) k ∧ D'.1 (3, j, 2, 0) k = D.1 (3, j, 2, 0) k) ∧ (∀ k, k < cl → D'.1 (3, j, 4, 0) k = D.1 (3, j, 4, 0) k ∧ D'.1 (3, j, 5, 0) k = D.1 (3, j, 5, 0) k ∧ D'.1 (3, j, 6, 0) k = D.1 (3, j, 6, 0) k) ∧ Sm (rdJ j) D D'
def RdC (j cl n : Nat) (D : Dt) (x : Nat ⊕ List Cl2) (res : Option (Int32 × Dt)) : Prop := match x with
  | .inl f => ∃ D', res = some (nI f, D') ∧ Sm (rdJ j) D D'
  | .inr ls => ∃ D', res = some (0, D') ∧ RdO j cl n D D' ls
theorem c_read {T : Tp} {j : Nat} (hL : tpL T ≤ 400) (hj : j < 6) : ∀ m fu cl q c n D, cl + m = 13 → m ≤ fu → q ≤ tpL T → c ≤ 60 → 3 * n ≤ 6 * c + q → CSt D T j q c n → D.1 (3, j, 0, 0) 6 = nI cl → (m = 0 → False) → RdC j cl n D (pRl T m cl q c) (F_X4_read_b11 j fu (nI cl) D) := by
  intro m
  induction m with
  | zero => intros; exact absurd rfl (by assumption)
  | succ m ih =>
    intro fu cl q c n D hcl hf hq hc hb h h6 _
    obtain ⟨fu, rfl⟩ : ∃ g, fu = g + 1 := ⟨fu - 1, by omega⟩
    rw [F_X4_read_b11, if_neg (show ¬ (12 : Int32) < nI cl from nI_nlt (a := 12) (by omega) (by decide)), pRl]
    obtain ⟨y1, y2, y3⟩ := c_takeBuy (cl := cl) (by omega) h.1
    obtain ⟨gd1, gd2⟩ := pCl_gd (cl := cl) hL hq hc
    -- from where the clause is read
    have tail : ∀ (l1 l2 : List En) (q1 c1 : Nat) (D1 : Dt), pCl T cl q c = .inr (q1, c1, l1, l2) → RuO T j n D q1 c1 (l1 ++ l2) D1 → D1.1 (3, j, 0, 0) 6 = nI cl → (∀ k, D1.1 (3, j, 4, 0) k = D.1 (3, j, 4, 0) k ∧ D1.1 (3, j, 5, 0) k = D.1 (3, j, 5, 0) k ∧ D1.1 (3, j, 6, 0) k = D.1 (3, j, 6, 0) k) → RdC j cl n D (if kd T q1 = 0 then .inr [(l1, l2)] else if kd T q1 = 4 then (match pRl T m (cl + 1) (nq T q1) c1 with
      | .inl f => .inl f
      | .inr ls => .inr ((l1, l2) :: ls)) else .inl (1 + 8 * q1)) (F_X4_read_b89 j (fun l2_30 D31 => (F_X4_read_b11 j fu l2_30 D31)) (nI cl) (nI n) (nI (n + l1.length)) D1) := by
      intro l1 l2 q1 c1 D1 ec r1 h61 u1
      obtain ⟨a1, a2, a3, a4, a5, a6, _, _, _⟩ := gd2 q1 c1 l1 l2 ec
      have hkb := kd_b (T := T) (p := q1)
      have k0 : (nI (kd T q1) = (0 : Int32)) = (kd T q1 = 0) := nI_k (s := 0) (by decide)
      obtain ⟨D2, e2, s2, b6, b4, b5, b7, bo, bs, m2⟩ := c_addCl (a := nI n) (b := nI (n + l1.length)) hj a1 r1.1 h61
      rw [F_X4_read_b89, e2, vbd_s, c_sgn s2.1, cbd_s]
      simp only [k0]
      have one : SgC D2 j n (l1 ++ l2) := fun i hi => by
        rw [bs 1 _ (Or.inl rfl), bs 2 _ (Or.inr rfl)]
        exact r1.2.1 i hi
      have low : ∀ k, k < n → D2.1 (3, j, 1, 0) k = D.1 (3, j, 1, 0) k ∧ D2.1 (3, j, 2, 0) k = D.1 (3, j, 2, 0) k := fun k hk => by
        rw [bs 1 _ (Or.inl rfl), bs 2 _ (Or.inr rfl)]
        exact r1.2.2.1 k hk
      have lowc : ∀ k, k < cl → D2.1 (3, j, 4, 0) k = D.1 (3, j, 4, 0) k ∧ D2.1 (3, j, 5, 0) k = D.1 (3, j, 5, 0) k ∧ D2.1 (3, j, 6, 0) k = D.1 (3, j, 6, 0) k := fun k hk => by
        obtain ⟨z1, z2, z3⟩ := u1 k
        refine ⟨?_, ?_, ?_⟩
        · exact ((bo 4 k hk).resolve_right (by decide)).trans z1
        · exact ((bo 5 k hk).resolve_right (by decide)).trans z2
        · exact ((bo 6 k hk).resolve_right (by decide)).trans z3
      have m02 : Sm (rdJ j) D D2 := (ru_rdJ r1.2.2.2).trans m2
      by_cases c0 : kd T q1 = 0
      · rw [if_pos c0, if_pos c0]
        refine ⟨D2, rfl, b6, fun c hc => ?_, ?_, low, lowc, m02⟩
        · have : c = 0 := by simp only [List.length_cons, List.length_nil] at hc; omega
          subst this
          exact ⟨b4, b5, b7⟩
        · simp only [cat, List.append_nil]
          exact one
      · rw [if_neg c0, if_neg c0]
        obtain ⟨z1, z2⟩ := c_demand (s := 4) s2.1 (by decide) (by decide)
        by_cases c4 : kd T q1 = 4
        · obtain ⟨D3, e3, cp3, m3⟩ := z1 c4
          obtain ⟨g1, g2⟩ := nq_gt (kd_lt (T := T) (q := q1) (by omega))
          have u3 : ∀ a k, D3.1 (3, j, a, 0) k = D2.1 (3, j, a, 0) k := fun a k => m3.i (by simp [prS])
          rw [if_pos c4, show F_X2_demand 4 D2 = _ from e3, cbd_s, if_neg (show ¬ (1 : Int32) = 0 by decide), bnd_e, nI_1]
          have hI := ih fu (cl + 1) (nq T q1) c1 (n + (l1 ++ l2).length) D3 (by omega) (by omega) g2 a5 (by omega) (s2.to cp3 m3) (by rw [u3]; exact b6) (by omega)
          cases ev : pRl T m (cl + 1) (nq T q1) c1 with
          | inl f =>
            rw [ev] at hI
            obtain ⟨D4, e4, m4⟩ := hI
            exact ⟨D4, e4, (m02.trans (pr_rd m3)).trans m4⟩
          | inr ls =>
            rw [ev] at hI
            obtain ⟨D4, e4, d1, d2, d3, d4, d5, d6⟩ := hI
            refine ⟨D4, e4, ?_, fun c hc => ?_, ?_, fun k hk => ?_, fun k hk => ?_, (m02.trans (pr_rd m3)).trans d6⟩
            · rw [d1]; congr 1; simp only [List.length_cons]; omega
            · cases c with
              | zero =>
                obtain ⟨x1, x2, x3⟩ := d5 cl (by omega)
                refine ⟨?_, ?_, ?_⟩
                · show D4.1 (3, j, 4, 0) cl = _
                  rw [x1, u3]; exact b4
                · show D4.1 (3, j, 5, 0) cl = _
                  rw [x2, u3]; exact b5
                · show D4.1 (3, j, 6, 0) cl = _
                  rw [x3, u3]; exact b7
              | succ c =>
                have := d2 c (by simp only [List.length_cons] at hc; omega)
                rw [show cl + 1 + c = cl + (c + 1) by omega] at this
                exact this
            · refine SgC.app (fun i hi => ?_) d3
              obtain ⟨x1, x2⟩ := d4 (n + i) (by have : i < (l1 ++ l2).length := hi; omega)
              rw [x1, x2, u3, u3]
              exact one i hi
            · obtain ⟨x1, x2⟩ := d4 k (by omega)
              rw [x1, x2, u3, u3]
              exact low k hk
            · obtain ⟨x1, x2, x3⟩ := d5 k (by omega)
              rw [x1, x2, x3, u3, u3, u3]
              exact lowc k hk
        · obtain ⟨D3, e3, f3, m3⟩ := z2 c4
          rw [if_neg c4, show F_X2_demand 4 D2 = _ from e3, cbd_s, if_pos rfl, f3]
          exact ⟨D3, rfl, m02.trans (pr_rd m3)⟩
    by_cases k33 : kd T q = 33
    · by_cases c12 : 12 ≤ cl
      · obtain ⟨D1, e1, f1, m1⟩ := y2 k33 c12
        have : pCl T cl q c = .inl (1 + 8 * q + 4) := by unfold pCl; rw [if_neg (fun x => x k33), if_pos c12]
        rw [this, e1, cbd_s, if_pos rfl, f1]
        exact ⟨D1, rfl, pr_rd m1⟩
      · obtain ⟨D1, e1, cp1, m1⟩ := y3 k33 (by omega)
        obtain ⟨g1, g2⟩ := nq_gt (kd_lt (T := T) (q := q) (by omega))
        have s1 := h.to cp1 m1
        have u1 : ∀ a k, D1.1 (3, j, a, 0) k = D.1 (3, j, a, 0) k := fun a k => m1.i (by simp [prS])
        have r1 : RuO T j n D (nq T q) c [] D1 := RuO.nil s1 m1
        rw [e1, cbd_s, if_neg (show ¬ (1 : Int32) = 0 by decide), bnd_e]
        have hs := c_rSum hL hj g2 hc (show 3 * n ≤ 6 * c + nq T q by omega) s1
        have ec : pCl T cl q c = match pSum T (nq T q) c with
          | .inl f => .inl f
          | .inr (q1, c1, l1) => if kd T q1 = 34 then (match pTst T (pFct T 10) (nq T q1) c1 with
            | .inl f => .inl f
            | .inr (q2, c2, l2) => .inr (q2, c2, l1, l2)) else .inr (q1, c1, l1, []) := by unfold pCl; rw [if_neg (fun x => x k33), if_neg c12]; rfl
        have hn : D1.1 (3, j, 0, 0) 2 = nI n := s1.2.2
        have o6 : ∀ {E E' : Dt}, Sm (ruS j) E E' → E'.1 (3, j, 0, 0) 6 = E.1 (3, j, 0, 0) 6 ∧ ∀ k, E'.1 (3, j, 4, 0) k = E.1 (3, j, 4, 0) k ∧ E'.1 (3, j, 5, 0) k = E.1 (3, j, 5, 0) k ∧ E'.1 (3, j, 6, 0) k = E.1 (3, j, 6, 0) k := fun s => ⟨s.i (by simp [ruS, prS]), fun k => ⟨s.i (by simp [ruS, prS]), s.i (by simp [ruS, prS]), s.i (by simp [ruS, prS])⟩⟩
        cases ev : pSum T (nq T q) c with
        | inl f =>
          rw [ev] at hs ec
          obtain ⟨D2, e2, f2, m2⟩ := hs
          rw [ec, e2, cbd_s, if_pos rfl, f2]
          exact ⟨D2, rfl, (pr_rd m1).trans (ru_rdJ m2)⟩
        | inr y =>
          obtain ⟨q1, c1, l1⟩ := y
          obtain ⟨v1, v2, v3, v4, v5⟩ := slen hL g2 hc ev
          rw [ev] at hs ec
          simp only at ec
          obtain ⟨D2, e2, r2⟩ := hs
          have r02 : RuO T j n D q1 c1 l1 D2 := RuO.seq r1 r2
          rw [e2, cbd_s, if_neg (show ¬ (1 : Int32) = 0 by decide), bnd_e, hn, show D2.1 (3, j, 0, 0) 2 = nI (n + l1.length) from r2.1.2.2]
          obtain ⟨z1, z2⟩ := c_take (s := 34) r2.1.1 (by decide) (by decide)
          by_cases c34 : kd T q1 = 34
          · obtain ⟨D3, e3, cp3, m3⟩ := z1 c34
            obtain ⟨g3, g4⟩ := nq_gt (kd_lt (T := T) (q := q1) (by omega))
            have s3 := r2.1.to cp3 m3
            rw [if_pos c34] at ec
            have ht := c_rTst hL hj (pFct_gd hL 10) (c_rFct hL hj 10 16 (by decide) (by decide)) (nq T q1) c1 (n + l1.length) D3 g4 v4 (by omega) s3
            rw [show F_X2_take 34 D2 = _ from e3, cbd_s, if_neg (show ¬ (1 : Int32) = 0 by decide), show F_X4_readTest j 0 D3 = FG_X4_readTest (F_X4_readFact_f 16) j (nI (10 - 10)) D3 from rfl]
            cases ev2 : pTst T (pFct T 10) (nq T q1) c1 with
            | inl f =>
              rw [ev2] at ht ec
              obtain ⟨D4, e4, f4, m4⟩ := ht
              rw [ec, e4, cbd_s, if_pos rfl, f4]
              exact ⟨D4, rfl, ((ru_rdJ r02.2.2.2).trans (pr_rd m3)).trans (ru_rdJ m4)⟩
            | inr y2 =>
              obtain ⟨q2, c2, l2⟩ := y2
              rw [ev2] at ht ec
              simp only at ec
              obtain ⟨D4, e4, r4⟩ := ht
              have r23 : RuO T j (n + l1.length) D2 q2 c2 l2 D4 := RuO.pre r4 (pr_ru m3) (fun a k => m3.i (by simp [prS]))
              have r04 := RuO.seq r02 r23
              obtain ⟨p6, pk⟩ := o6 r04.2.2.2
              have := tail l1 l2 q2 c2 D4 ec r04 (p6.trans h6) pk
              rw [ec, e4, cbd_s, if_neg (show ¬ (1 : Int32) = 0 by decide)]
              exact this
          · rw [if_neg c34] at ec
            obtain ⟨p6, pk⟩ := o6 r02.2.2.2
            have := tail l1 [] q1 c1 D2 ec (by rw [List.append_nil]; exact r02) (p6.trans h6) pk
            rw [ec, show F_X2_take 34 D2 = _ from z2 c34, cbd_s, if_pos rfl]
            exact this
    · obtain ⟨D1, e1, f1, m1⟩ := y1 k33
      have : pCl T cl q c = .inl (1 + 8 * q) := by unfold pCl; rw [if_pos k33]
      rw [this, e1, cbd_s, if_pos rfl, f1]
      exact ⟨D1, rfl, pr_rd m1⟩
