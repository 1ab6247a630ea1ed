theorem vlen {T : Tp} {q c q1 c1 : Nat} {l : List En} (hq : q ≤ tpL T) (hc : c ≤ 60) (e : pVal T q c = .inr (q1, c1, l)) : q ≤ q1 ∧ q1 ≤ tpL T ∧ c ≤ c1 ∧ c1 ≤ 60 ∧ 3 * l.length + 6 * c + q + 4 ≤ 6 * c1 + q1 := by
  have h := pVal_gd (T := T) hq hc
  rw [e] at h
  obtain ⟨a1, a2, a3, a4, a5, a6, a7⟩ := h
  exact ⟨a1, a2, a3, a4, by omega⟩
theorem c_rSL {T : Tp} {j : Nat} (hL : tpL T ≤ 400) (hj : j < 6) : ∀ m fu i w q c n D, tpL T < m + q → m ≤ fu → i ≤ q → q ≤ tpL T → c ≤ 60 → (w = 0 ∨ w = 7 ∨ w = 8) → 3 * n + wB w ≤ 6 * c + q → CSt D T j q c n → RuC T j n D (pSL T m w q c) (F_X4_readSum_b14 j (fun l2_54 D55 => (F_X4_readSum_b124 j l2_54 D55)) (fun l2_59 D60 => (F_X4_readSum_b124 j l2_59 D60)) fu (nI w) (nI i) D) := by
  intro m
  induction m with
  | zero => intro fu i w q c n D h; intros; omega
  | succ m ih =>
    intro fu i w q c n D hm hf hi hq hc hw hb h
    obtain ⟨fu, rfl⟩ : ∃ g, fu = g + 1 := ⟨fu - 1, by omega⟩
    have hkb := kd_b (T := T) (p := q)
    have k7 : (nI (kd T q) = (7 : Int32)) = (kd T q = 7) := nI_k (s := 7) (by decide)
    have k8 : (nI (kd T q) = (8 : Int32)) = (kd T q = 8) := nI_k (s := 8) (by decide)
    have hwB : wB w ≤ 3 := by unfold wB; split <;> omega
    have hwl := (wL_f hw).2.1
    -- the end
    have fin : RuC T j n D (.inr (q, c, wL w)) (F_X4_readSum_b124 j (nI w) D) := by
      rw [F_X4_readSum_b124]
      unfold wL
      by_cases cw : w = 0
      · rw [if_pos cw, if_pos (by rw [cw]; rfl)]
        exact ⟨D, rfl, RuO.nil h Sm.refl⟩
      · obtain ⟨D', e, r⟩ := c_radd (a := nI w) (b := 0) hj (show n < 400 by omega) h
        rw [if_neg cw, if_neg (nI_ne0 (by omega) (by omega)), e, vbd_s]
        exact ⟨D', rfl, r⟩
    rw [F_X4_readSum_b14, pSL]
    by_cases hi4 : 400 ≤ i
    · have hk0 : kd T q = 0 := kd_0.mpr (by omega)
      rw [if_pos (show (400 : Int32) ≤ nI i from nI_le (a := 400) hi4 (by omega)), if_neg (by omega)]
      exact fin
    rw [if_neg (show ¬ (400 : Int32) ≤ nI i from nI_ge (b := 400) (by omega) (by decide)), c_sgn h.1, cbd_s]
    by_cases h7 : 7 ≤ kd T q ∧ kd T q ≤ 11
    · obtain ⟨g1, g2⟩ := nq_gt (kd_lt (T := T) (q := q) (by omega))
      rw [if_pos h7, if_neg (show ¬ nI (kd T q) < (7 : Int32) from nI_nlt (b := 7) (by omega) (by omega)), if_pos (show nI (kd T q) ≤ (11 : Int32) from nI_le (b := 11) (by omega) (by decide))]
      obtain ⟨D1, e1, s1, m1⟩ := h.stp (by omega)
      rw [e1, vbd_s]
      simp only [k7, k8]
      have r1 : RuO T j n D (nq T q) c [] D1 := RuO.nil s1 m1
      -- a value, then the rest
      have val : ∀ (E : Dt) (n0 : Nat) (l5 : Int32), CSt E T j (nq T q) c n0 → 3 * n0 ≤ 6 * c + q → (l5 = 1 ∧ (kd T q = 7 ∨ kd T q = 8) ∨ l5 = 0 ∧ ¬ (kd T q = 7 ∨ kd T q = 8) ∧ 3 * n0 + wB w ≤ 6 * c + q) → RuC T j n0 E (if kd T q = 7 ∨ kd T q = 8 then pB (pVal T (nq T q) c) (fun q1 c1 => pSL T m (kd T q) q1 c1) else pB (pVal T (nq T q) c) (fun q1 c1 => pB (.inr (q1, c1, [(nI (kd T q), 0)])) (fun q2 c2 => pSL T m w q2 c2))) (F_X4_readSum_b90 j (fun l2_44 l3_45 D46 => (F_X4_readSum_b14 j (fun l2_54 D55 => (F_X4_readSum_b124 j l2_54 D55)) (fun l2_59 D60 => (F_X4_readSum_b124 j l2_59 D60)) fu l2_44 l3_45 D46)) (nI w) (nI i) (nI (kd T q)) l5 E) := by
        intro E n0 l5 hE hn0 hl5
        have hv := c_rVal (T := T) (q := nq T q) (c := c) (D := E) hj hc (show n0 < 400 by omega) hE
        rw [F_X4_readSum_b90]
        cases ev : pVal T (nq T q) c with
        | inl f =>
          rw [ev] at hv
          obtain ⟨D2, e2, f2, m2⟩ := hv
          have ex : (if kd T q = 7 ∨ kd T q = 8 then pB (.inl f : PR) (fun q1 c1 => pSL T m (kd T q) q1 c1) else pB (.inl f) (fun q1 c1 => pB (.inr (q1, c1, [(nI (kd T q), 0)])) (fun q2 c2 => pSL T m w q2 c2))) = .inl f := by split <;> rfl
          rw [ex, e2, cbd_s, if_pos rfl]
          exact ⟨D2, rfl, f2, m2⟩
        | inr y =>
          obtain ⟨q1, c1, l1⟩ := y
          obtain ⟨v1, v2, v3, v4, v5⟩ := vlen g2 hc ev
          rw [ev] at hv
          obtain ⟨D2, e2, r2⟩ := hv
          rw [e2, cbd_s, if_neg (show ¬ (1 : Int32) = 0 by decide)]
          rcases hl5 with ⟨rfl, h78⟩ | ⟨rfl, h78, hb'⟩
          · rw [if_pos h78, if_neg (show ¬ (1 : Int32) = 0 by decide), F_X4_readSum_b118, bnd_e, nI_1]
            refine RuC.seq r2 (ih fu (i + 1) (kd T q) q1 c1 (n0 + l1.length) D2 (by omega) (by omega) (by omega) v2 v4 (Or.inr h78) ?_ r2.1)
            have : wB (kd T q) = 3 := by unfold wB; rw [if_neg (by omega)]
            omega
          · rw [if_neg h78, if_pos rfl]
            obtain ⟨D3, e3, r3⟩ := c_radd (a := nI (kd T q)) (b := 0) hj (show n0 + l1.length < 400 by omega) r2.1
            rw [e3, vbd_s, F_X4_readSum_b118, bnd_e, nI_1]
            refine RuC.seq r2 (RuC.seq r3 (ih fu (i + 1) w q1 c1 (n0 + l1.length + 1) D3 (by omega) (by omega) (by omega) v2 v4 hw ?_ r3.1))
            omega
      by_cases h78 : kd T q = 7 ∨ kd T q = 8
      · rw [if_pos h78]
        have e68 : (if kd T q = 7 then F_X4_readSum_b68 j (fun l2_44 l3_45 D46 => (F_X4_readSum_b14 j (fun l2_54 D55 => (F_X4_readSum_b124 j l2_54 D55)) (fun l2_59 D60 => (F_X4_readSum_b124 j l2_59 D60)) fu l2_44 l3_45 D46)) (nI w) (nI i) (nI (kd T q)) D1 else if kd T q = 8 then F_X4_readSum_b68 j (fun l2_44 l3_45 D46 => (F_X4_readSum_b14 j (fun l2_54 D55 => (F_X4_readSum_b124 j l2_54 D55)) (fun l2_59 D60 => (F_X4_readSum_b124 j l2_59 D60)) fu l2_44 l3_45 D46)) (nI w) (nI i) (nI (kd T q)) D1 else F_X4_readSum_b73 j (fun l2_44 l3_45 D46 => (F_X4_readSum_b14 j (fun l2_54 D55 => (F_X4_readSum_b124 j l2_54 D55)) (fun l2_59 D60 => (F_X4_readSum_b124 j l2_59 D60)) fu l2_44 l3_45 D46)) (nI w) (nI i) (nI (kd T q)) 0 D1) = F_X4_readSum_b68 j (fun l2_44 l3_45 D46 => (F_X4_readSum_b14 j (fun l2_54 D55 => (F_X4_readSum_b124 j l2_54 D55)) (fun l2_59 D60 => (F_X4_readSum_b124 j l2_59 D60)) fu l2_44 l3_45 D46)) (nI w) (nI i) (nI (kd T q)) D1 := by
          rcases h78 with c | c
          · rw [if_pos c]
          · rw [if_neg (by omega), if_pos c]
        rw [e68, F_X4_readSum_b68, F_X4_readSum_b73, if_neg (show ¬ (1 : Int32) = 0 by decide)]
        by_cases cw : w = 0
        · have hwl0 : wL w = [] := by unfold wL; rw [if_pos cw]
          rw [if_pos (by rw [cw]; rfl), hwl0]
          have hv := val D1 n 1 s1 (by omega) (Or.inl ⟨rfl, h78⟩)
          rw [if_pos h78] at hv
          exact RuC.seq r1 hv
        · obtain ⟨D2, e2, r2⟩ := c_radd (a := nI w) (b := 0) hj (show n < 400 by omega) s1
          have hwl1 : wL w = [(nI w, 0)] := by unfold wL; rw [if_neg cw]
          have hw3 : wB w = 3 := by unfold wB; rw [if_neg cw]
          rw [if_neg (nI_ne0 (by omega) (by omega)), e2, vbd_s, hwl1]
          have hv := val D2 (n + 1) 1 r2.1 (by omega) (Or.inl ⟨rfl, h78⟩)
          rw [if_pos h78] at hv
          have r12 : RuO T j n D (nq T q) c [(nI w, 0)] D2 := RuO.seq r1 r2
          exact RuC.seq r12 hv
      · rw [if_neg h78, if_neg (fun x => h78 (Or.inl x)), if_neg (fun x => h78 (Or.inr x)), F_X4_readSum_b73, if_pos rfl]
        have hv := val D1 n 0 s1 (by omega) (Or.inr ⟨rfl, h78, by omega⟩)
        rw [if_neg h78] at hv
        have := RuC.seq (f := fun q0 c0 => pB (pVal T (nq T q) c) (fun q1 c1 => pB (.inr (q1, c1, [(nI (kd T q), 0)])) (fun q2 c2 => pSL T m w q2 c2))) r1 hv
        refine this.to ?_
        unfold pB
        simp only
        cases pVal T (nq T q) c with
        | inl f => rfl
        | inr y =>
          simp only
          cases pSL T m w y.1 y.2.1 with
          | inl f => rfl
          | inr z => rfl
    · rw [if_neg h7]
      by_cases c7 : kd T q < 7
      · rw [if_pos (show nI (kd T q) < (7 : Int32) from nI_lt (b := 7) c7 (by decide))]
        exact fin
      · rw [if_neg (show ¬ nI (kd T q) < (7 : Int32) from nI_nlt (b := 7) (by omega) (by omega)), if_neg (show ¬ nI (kd T q) ≤ (11 : Int32) from nI_ge (a := 11) (by omega) (by omega))]
        exact fin
theorem c_rSum {T : Tp} {j q c n : Nat} {D : Dt} (hL : tpL T ≤ 400) (hj : j < 6) (hq : q ≤ tpL T) (hc : c ≤ 60) (hb : 3 * n ≤ 6 * c + q) (h : CSt D T j q c n) : RuC T j n D (pSum T q c) (F_X4_readSum j D) := by
  have hv := c_rVal (T := T) (q := q) (c := c) (D := D) hj hc (show n < 400 by omega) h
  rw [F_X4_readSum, grd_t (V3 hj)]
  unfold pSum
  cases ev : pVal T q c with
  | inl f =>
    rw [ev] at hv
    obtain ⟨D2, e2, f2, m2⟩ := hv
    rw [e2, cbd_s, if_pos rfl]
    exact ⟨D2, rfl, f2, m2⟩
  | inr y =>
    obtain ⟨q1, c1, l1⟩ := y
    obtain ⟨v1, v2, v3, v4, v5⟩ := vlen hq hc ev
    rw [ev] at hv
    obtain ⟨D2, e2, r2⟩ := hv
    rw [e2, cbd_s, if_neg (show ¬ (1 : Int32) = 0 by decide)]
    refine RuC.seq r2 (c_rSL hL hj 401 2000 0 0 q1 c1 (n + l1.length) D2 (by omega) (by omega) (by omega) v2 v4 (Or.inl rfl) ?_ r2.1)
    have : wB 0 = 0 := rfl
    omega
theorem slen {T : Tp} {q c q1 c1 : Nat} {l : List En} (hL : tpL T ≤ 400) (hq : q ≤ tpL T) (hc : c ≤ 60) (e : pSum T q c = .inr (q1, c1, l)) : q ≤ q1 ∧ q1 ≤ tpL T ∧ c ≤ c1 ∧ c1 ≤ 60 ∧ 3 * l.length + 6 * c + q + 4 ≤ 6 * c1 + q1 := by
  have h := pSum_gd (T := T) hL hq hc
  rw [e] at h
  obtain ⟨a1, a2, a3, a4, a5, a6, a7⟩ := h
  exact ⟨a1, a2, a3, a4, by omega⟩
theorem c_rCmp {T : Tp} {j q c n : Nat} {D : Dt} (hL : tpL T ≤ 400) (hj : j < 6) (hq : q ≤ tpL T) (hc : c ≤ 60) (hb : 3 * n ≤ 6 * c + q) (h : CSt D T j q c n) : RuC T j n D (pCmp T q c) (F_X4_readComparison j D) := by
  have hs := c_rSum hL hj hq hc hb h
  rw [F_X4_readComparison, grd_t (V3 hj)]
  unfold pCmp
  cases ev : pSum T q c with
  | inl f =>
    rw [ev] at hs
    obtain ⟨D2, e2, f2, m2⟩ := hs
    rw [e2, cbd_s, if_pos rfl]
    exact ⟨D2, rfl, f2, m2⟩
  | inr y =>
    obtain ⟨q1, c1, l1⟩ := y
    obtain ⟨v1, v2, v3, v4, v5⟩ := slen hL hq hc ev
    rw [ev] at hs
    obtain ⟨D2, e2, r2⟩ := hs
    have hkb := kd_b (T := T) (p := q1)
    rw [e2, cbd_s, if_neg (show ¬ (1 : Int32) = 0 by decide), c_sgn r2.1.1, cbd_s]
    refine RuC.seq r2 ?_
    have f0 : RuC T j (n + l1.length) D2 (.inl (1 + 8 * q1)) (F_X4_readComparison_b30 j D2) := by
      obtain ⟨D', e, r⟩ := RuC.fail (n := n + l1.length) (k := 0) r2.1
      rw [F_X4_readComparison_b30, show F_X2_fail 0 D2 = _ from e, cbd_s, grd_t (Or.inl rfl)]
      exact r
    by_cases d : 12 ≤ kd T q1 ∧ kd T q1 ≤ 16
    · rw [if_pos d, if_neg (show ¬ nI (kd T q1) < (12 : Int32) from nI_nlt (b := 12) (by omega) (by omega)), if_pos (show nI (kd T q1) ≤ (16 : Int32) from nI_le (b := 16) (by omega) (by decide)), r2.1.2.1]
      by_cases c60 : 60 ≤ c1
      · rw [if_pos c60, if_neg (show ¬ nI c1 < (60 : Int32) from nI_nlt (b := 60) c60 (by omega))]
        obtain ⟨D', e, r⟩ := RuC.fail (n := n + l1.length) (k := 3) r2.1
        rw [show F_X2_fail 3 D2 = _ from e, cbd_s, grd_t (Or.inl rfl)]
        exact r
      · rw [if_neg c60, if_pos (show nI c1 < (60 : Int32) from nI_lt (b := 60) (by omega) (by decide)), nI_1, bnd_e]
        obtain ⟨h3, m3, u3⟩ := r2.1.cnt
        generalize setI D2 (4, 0, 0, 0) 1 (nI (c1 + 1)) = D3 at h3 m3 u3 ⊢
        obtain ⟨D4, e4, s4, m4⟩ := h3.stp (by omega)
        obtain ⟨g1, g2⟩ := nq_gt (kd_lt (T := T) (q := q1) (by omega))
        have hs2 := c_rSum (n := n + l1.length) hL hj g2 (show c1 + 1 ≤ 60 by omega) (by omega) s4
        rw [e4, vbd_s]
        have u4 : ∀ a k, D4.1 (3, j, a, 0) k = D2.1 (3, j, a, 0) k := fun a k => by rw [m4.i (by simp [prS])]; exact u3 a k
        have m24 : Sm (ruS j) D2 D4 := m3.trans (pr_ru m4)
        cases ev2 : pSum T (nq T q1) (c1 + 1) with
        | inl f =>
          rw [ev2] at hs2
          obtain ⟨D5, e5, f5, m5⟩ := hs2
          rw [e5, cbd_s, if_pos rfl]
          exact ⟨D5, rfl, f5, m24.trans m5⟩
        | inr y2 =>
          obtain ⟨q2, c2, l2⟩ := y2
          obtain ⟨w1, w2, w3, w4, w5⟩ := slen hL g2 (show c1 + 1 ≤ 60 by omega) ev2
          rw [ev2] at hs2
          obtain ⟨D5, e5, r5⟩ := hs2
          obtain ⟨D6, e6, r6⟩ := c_radd (a := nI (kd T q1)) (b := 0) hj (show n + l1.length + l2.length < 400 by omega) r5.1
          rw [e5, cbd_s, if_neg (show ¬ (1 : Int32) = 0 by decide), e6, vbd_s]
          refine RuC.seq (RuO.pre r5 m24 u4) ⟨D6, rfl, r6⟩
    · rw [if_neg d]
      by_cases c12 : kd T q1 < 12
      · rw [if_pos (show nI (kd T q1) < (12 : Int32) from nI_lt (b := 12) c12 (by decide))]
        exact f0
      · rw [if_neg (show ¬ nI (kd T q1) < (12 : Int32) from nI_nlt (b := 12) (by omega) (by omega)), if_neg (show ¬ nI (kd T q1) ≤ (16 : Int32) from nI_ge (a := 16) (by omega) (by omega))]
        exact f0
/-- what a reader of FACTS must do -/
def FcC (T : Tp) (j : Nat) (F : Nat → Nat → PR) (R : Dt → Option (Int32 × Dt)) : Prop := ∀ q c n D, q ≤ tpL T → c ≤ 60 → 3 * n ≤ 6 * c + q → CSt D T j q c n → RuC T j n D (F q c) (R D)
theorem flen {T : Tp} {F : Nat → Nat → PR} {q c q1 c1 : Nat} {l : List En} (hF : ∀ q c, q ≤ tpL T → c ≤ 60 → gdP T q c 9 0 [] [true] (F q c)) (hq : q ≤ tpL T) (hc : c ≤ 60) (e : F q c = .inr (q1, c1, l)) : q ≤ q1 ∧ q1 ≤ tpL T ∧ c ≤ c1 ∧ c1 ≤ 60 ∧ 3 * l.length + 6 * c + q + 9 ≤ 6 * c1 + q1 := by
  have h := hF q c hq hc
  rw [e] at h
  obtain ⟨a1, a2, a3, a4, a5, a6, a7⟩ := h
  exact ⟨a1, a2, a3, a4, by omega⟩
theorem c_rTL {T : Tp} {j : Nat} {F : Nat → Nat → PR} {rc : Nat → Int32 → Dt → Option (Int32 × Dt)} {d : Int32} (hL : tpL T ≤ 400) (hj : j < 6) (hF : ∀ q c, q ≤ tpL T → c ≤ 60 → gdP T q c 9 0 [] [true] (F q c)) (hR : FcC T j F (rc j d)) : ∀ m fu i w q c n D, tpL T < m + q → m ≤ fu → i ≤ q → q ≤ tpL T → c ≤ 60 → 3 * n + wO w ≤ 6 * c + q → CSt D T j q c n → RuC T j n D (pTL T F m w q c) (F_X4_readTest_b16 rc j d (fun l3_53 D54 => (F_X4_readTest_b111 rc j d l3_53 D54)) (fun l3_58 D59 => (F_X4_readTest_b111 rc j d l3_58 D59)) fu d (if w = true then 1 else 0) (nI i) D) := by
  intro m
  induction m with
  | zero => intro fu i w q c n D h; intros; omega
  | succ m ih =>
    intro fu i w q c n D hm hf hi hq hc hb h
    obtain ⟨fu, rfl⟩ : ∃ g, fu = g + 1 := ⟨fu - 1, by omega⟩
    have hkb := kd_b (T := T) (p := q)
    have k36 : (nI (kd T q) = (36 : Int32)) = (kd T q = 36) := nI_k (s := 36) (by decide)
    have k37 : (nI (kd T q) = (37 : Int32)) = (kd T q = 37) := nI_k (s := 37) (by decide)
    have hwO : wO w ≤ 3 := by unfold wO; split <;> omega
    rw [F_X4_readTest_b16, pTL]
    by_cases hi4 : 400 ≤ i
    · have hk0 : kd T q = 0 := kd_0.mpr (by omega)
      rw [if_pos (show (400 : Int32) ≤ nI i from nI_le (a := 400) hi4 (by omega)), if_neg (by omega), if_neg (by omega), F_X4_readTest_b111]
      unfold oL
      cases w with
      | false =>
        rw [if_neg (show ¬ false = true by decide), i1f (by decide)]
        exact ⟨D, rfl, RuO.nil h Sm.refl⟩
      | true =>
        have : wO true = 3 := rfl
        obtain ⟨D', e, r⟩ := c_radd (a := 37) (b := 0) hj (show n < 400 by omega) h
        rw [if_pos rfl, i1t rfl, e, vbd_s]
        exact ⟨D', rfl, r⟩
    · rw [if_neg (show ¬ (400 : Int32) ≤ nI i from nI_ge (b := 400) (by omega) (by decide)), c_sgn h.1, cbd_s]
      simp only [k36, k37]
      by_cases h36 : kd T q = 36
      · obtain ⟨g1, g2⟩ := nq_gt (kd_lt (T := T) (q := q) (by omega))
        obtain ⟨D1, e1, s1, m1⟩ := h.stp (by omega)
        have r1 : RuO T j n D (nq T q) c [] D1 := RuO.nil s1 m1
        rw [if_pos h36, if_pos h36, F_X4_readTest_b50, e1, vbd_s]
        simp only [k37]
        rw [if_neg (show ¬ kd T q = 37 by omega), F_X4_readTest_b75]
        have hf1 := hR (nq T q) c n D1 g2 hc (by omega) s1
        have goalX : RuC T j n D (pB (.inr (nq T q, c, [])) (fun q0 c0 => pB (F q0 c0) (fun q1 c1 => pB (.inr (q1, c1, [(36, 0)])) (fun q2 c2 => pTL T F m w q2 c2)))) (cbd (rc j d D1) (fun r14 D15 => (if r14 = 0 then (some ((0 : Int32), D15)) else (if nI (kd T q) = (36 : Int32) then (vbd (F_X3_add j (36 : Int32) (0 : Int32) D15) (fun D24 => (F_X4_readTest_b105 rc j d (fun l2_25 l3_26 l4_27 D28 => (F_X4_readTest_b16 rc j d (fun l3_53 D54 => (F_X4_readTest_b111 rc j d l3_53 D54)) (fun l3_58 D59 => (F_X4_readTest_b111 rc j d l3_58 D59)) fu l2_25 l3_26 l4_27 D28)) d (if w = true then 1 else 0) (nI i) D24))) else (F_X4_readTest_b105 rc j d (fun l2_19 l3_20 l4_21 D22 => (F_X4_readTest_b16 rc j d (fun l3_53 D54 => (F_X4_readTest_b111 rc j d l3_53 D54)) (fun l3_58 D59 => (F_X4_readTest_b111 rc j d l3_58 D59)) fu l2_19 l3_20 l4_21 D22)) d (1 : Int32) (nI i) D15))))) := by
          refine RuC.seq r1 ?_
          cases ev : F (nq T q) c with
          | inl f =>
            rw [ev] at hf1
            obtain ⟨D2, e2, f2, m2⟩ := hf1
            rw [e2, cbd_s, if_pos rfl]
            exact ⟨D2, rfl, f2, m2⟩
          | inr y =>
            obtain ⟨q1, c1, l1⟩ := y
            obtain ⟨v1, v2, v3, v4, v5⟩ := flen hF g2 hc ev
            rw [ev] at hf1
            obtain ⟨D2, e2, r2⟩ := hf1
            obtain ⟨D3, e3, r3⟩ := c_radd (a := 36) (b := 0) hj (show n + l1.length < 400 by omega) r2.1
            rw [e2, cbd_s, if_neg (show ¬ (1 : Int32) = 0 by decide), if_pos (by rw [k36]; exact h36), e3, vbd_s, F_X4_readTest_b105, bnd_e, nI_1]
            refine RuC.seq r2 (RuC.seq r3 (ih fu (i + 1) w q1 c1 (n + l1.length + 1) D3 (by omega) (by omega) (by omega) v2 v4 ?_ r3.1))
            omega
        refine (goalX.to ?_)
        unfold pB
        simp only
        cases F (nq T q) c with
        | inl f => rfl
        | inr y =>
          simp only
          cases pTL T F m w y.1 y.2.1 with
          | inl f => rfl
          | inr z => rfl
      · rw [if_neg h36, if_neg h36]
        by_cases h37 : kd T q = 37
        · obtain ⟨g1, g2⟩ := nq_gt (kd_lt (T := T) (q := q) (by omega))
          obtain ⟨D1, e1, s1, m1⟩ := h.stp (by omega)
          have r1 : RuO T j n D (nq T q) c [] D1 := RuO.nil s1 m1
          rw [if_pos h37, if_pos h37, F_X4_readTest_b50, e1, vbd_s, if_pos (by rw [k37]; exact h37)]
          have go : ∀ (E : Dt) (n0 : Nat) (w0 : Int32), CSt E T j (nq T q) c n0 → 3 * n0 ≤ 6 * c + q → RuC T j n0 E (pB (F (nq T q) c) (fun q1 c1 => pTL T F m true q1 c1)) (F_X4_readTest_b75 rc j d (fun l2_34 l3_35 l4_36 D37 => (F_X4_readTest_b16 rc j d (fun l3_53 D54 => (F_X4_readTest_b111 rc j d l3_53 D54)) (fun l3_58 D59 => (F_X4_readTest_b111 rc j d l3_58 D59)) fu l2_34 l3_35 l4_36 D37)) d w0 (nI i) (nI (kd T q)) E) := by
            intro E n0 w0 hE hn0
            have hf1 := hR (nq T q) c n0 E g2 hc (by omega) hE
            rw [F_X4_readTest_b75]
            cases ev : F (nq T q) c with
            | inl f =>
              rw [ev] at hf1
              obtain ⟨D2, e2, f2, m2⟩ := hf1
              rw [e2, cbd_s, if_pos rfl]
              exact ⟨D2, rfl, f2, m2⟩
            | inr y =>
              obtain ⟨q1, c1, l1⟩ := y
              obtain ⟨v1, v2, v3, v4, v5⟩ := flen hF g2 hc ev
              rw [ev] at hf1
              obtain ⟨D2, e2, r2⟩ := hf1
              rw [e2, cbd_s, if_neg (show ¬ (1 : Int32) = 0 by decide), if_neg (by rw [k36]; exact h36), F_X4_readTest_b105, bnd_e, nI_1]
              have : wO true = 3 := rfl
              exact RuC.seq r2 (ih fu (i + 1) true q1 c1 (n0 + l1.length) D2 (by omega) (by omega) (by omega) v2 v4 (by omega) r2.1)
          cases w with
          | false =>
            rw [if_neg (show ¬ false = true by decide), if_pos rfl]
            exact RuC.seq r1 (go D1 n _ s1 (by omega))
          | true =>
            have hw3 : wO true = 3 := rfl
            obtain ⟨D2, e2, r2⟩ := c_radd (a := 37) (b := 0) hj (show n < 400 by omega) s1
            rw [if_pos rfl, if_neg (show ¬ (1 : Int32) = 0 by decide), e2, vbd_s]
            have r12 : RuO T j n D (nq T q) c (oL true) D2 := RuO.seq r1 r2
            exact RuC.seq r12 (go D2 (n + 1) _ r2.1 (by omega))
        · rw [if_neg h37, if_neg h37, F_X4_readTest_b111]
          unfold oL
          cases w with
          | false =>
            rw [if_neg (show ¬ false = true by decide), i1f (by decide)]
            exact ⟨D, rfl, RuO.nil h Sm.refl⟩
          | true =>
            have : wO true = 3 := rfl
            obtain ⟨D', e, r⟩ := c_radd (a := 37) (b := 0) hj (show n < 400 by omega) h
            rw [if_pos rfl, i1t rfl, e, vbd_s]
            exact ⟨D', rfl, r⟩
