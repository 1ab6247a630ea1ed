theorem CfC.n5 {D : Dt} {q : Nat} {c : Cf} (h : CfC D q c) : cfN c ≤ 5 := by
  obtain ⟨x, _, _, h, _⟩ := h
  exact h
theorem stS_we {q i : Nat} {D D' : Dt} (h : Sm (stS i) D D') : Sm (weS q i) D D' := h.mono weS_st
theorem stS_8 {i q a b k : Nat} : stS i (8, q, a, b) k = false := by simp [stS]
theorem wk_add {s : St} {k : Nat} {v : Int32} : pAddS s k v 5 1 = s 5 1 := by simp [pAddS, up]
theorem wk_buy {s : St} {a b : Nat} : pBuy s a b 5 1 = s 5 1 := by simp [pBuy, pCnt, pAddS, pTake, pMove, pAddM, up]
theorem wk_harv {s : St} {k : Nat} : pHarv s k 5 1 = s 5 1 := by
  unfold pHarv pReap pTake
  split
  · split <;> simp [up]
  · rfl
theorem c_passA {q i w : Nat} {c : Cf} {kk : Int32 → Dt → Option (Int32 × Dt)} (hi : V (6, i, 0, 0) = true) (hw2 : w < 2147483648) (s0 : St) : ∀ (m fu j : Nat) (D : Dt), j + m = cfN c → m < fu → CfC D q c → rdS D i = itr (wA1 c) j s0 → rdS D i 5 1 = nI w → ∃ D', F_X8_pass_b23 q i kk fu (nI (cfN c)) (nI j) D = kk (nI (cfN c)) D' ∧ rdS D' i = wkA c s0 ∧ rdS D' i 5 1 = nI w ∧ Sm (stS i) D D' := by
  intro m
  induction m with
  | zero =>
    intro fu j D hj hf hc hr hw
    obtain ⟨fu, rfl⟩ : ∃ g, fu = g + 1 := ⟨fu - 1, by omega⟩
    have : j = cfN c := by omega
    subst this
    have h5 := hc.n5
    refine ⟨D, ?_, hr, hw, Sm.refl⟩
    rw [F_X8_pass_b23, if_pos (nI_le (Nat.le_refl _) (by omega))]
  | succ m ih =>
    intro fu j D hj hf hc hr hw
    obtain ⟨fu, rfl⟩ : ∃ g, fu = g + 1 := ⟨fu - 1, by omega⟩
    have h5 := hc.n5
    have hc' := hc
    obtain ⟨x, h1, h2, h3, h4, hs5, h6, -⟩ := hc
    have ht := c_toldFor (D := D) (x := x) (a := j) (t := cfT c) h2 (by omega) hw2 (fun k v hk hv => (h6 k v hk hv).1)
    obtain ⟨D1, e1, r1, m1⟩ := c_addSun (D := D) (k := j) (v := tlP (cfT c j) w) hi (by omega)
    have hwk : wkN (itr (wA1 c) j s0) = w := by rw [wkN, ← hr, hw, nIc hw2]
    obtain ⟨D2, e2, r2, w2, m2⟩ := ih fu (j + 1) D1 (by omega) (by omega) (hc'.sm (i := i) (stS_we m1)) (by rw [r1, hr, itr, wA1, hwk]) (by rw [r1, wk_add, hw])
    refine ⟨D2, ?_, r2, w2, m1.trans m2⟩
    rw [F_X8_pass_b23, if_neg (nI_ge (by omega) (by omega)), h1, obd_s, grd_t h2, s_week, hw, ht, cbd_s, e1, vbd_s]
    simp only [bnd_e, nI_1]
    exact e2
theorem c_passB {q i w : Nat} {c : Cf} {kk : Int32 → Int32 → Dt → Option (Int32 × Dt)} (hi : V (6, i, 0, 0) = true) (hq : V (8, q, 0, 0) = true) (hw2 : w < 2147483648) (x0 : Wq) : ∀ (m fu j : Nat) (D : Dt), j + m = cfN c → m < fu → CfC D q c → rdS D i = (itr (wB1 c) j x0).1 → rdS D i 5 1 = nI w → D.1 (8, q, 0, 0) 6 = (if (itr (wB1 c) j x0).2.2.1 then 1 else 0) → D.1 (8, q, 0, 0) 7 = (itr (wB1 c) j x0).2.2.2 → (∀ a, j ≤ a → a < 5 → nI a = cfC c → (itr (wB1 c) j x0).2.2.1 = false) → ∃ D', F_X8_pass_b56 q i kk fu (nI (cfN c)) (itr (wB1 c) j x0).2.1 (nI j) D = kk (nI (cfN c)) (wkB c x0).2.1 D' ∧ rdS D' i = (wkB c x0).1 ∧ D'.1 (8, q, 0, 0) 6 = (if (wkB c x0).2.2.1 then 1 else 0) ∧ D'.1 (8, q, 0, 0) 7 = (wkB c x0).2.2.2 ∧ Sm (weS q i) D D' := by
  intro m
  induction m with
  | zero =>
    intro fu j D hj hf hc hr hw hm hse hch
    obtain ⟨fu, rfl⟩ : ∃ g, fu = g + 1 := ⟨fu - 1, by omega⟩
    have : j = cfN c := by omega
    subst this
    have h5 := hc.n5
    refine ⟨D, ?_, hr, hm, hse, Sm.refl⟩
    rw [F_X8_pass_b56, if_pos (nI_le (Nat.le_refl _) (by omega))]
    rfl
  | succ m ih =>
    intro fu j D hj hf hc hr hw hm hse hch
    obtain ⟨fu, rfl⟩ : ∃ g, fu = g + 1 := ⟨fu - 1, by omega⟩
    have h5 := hc.n5
    generalize hx : itr (wB1 c) j x0 = x at hr hm hse hch ⊢
    have hnx : itr (wB1 c) (j + 1) x0 = wB1 c j x := by rw [itr, hx]
    obtain ⟨D1, e1, r1, q1, s1, v1⟩ := c_pick (m := x.2.2.1) hi hq hc (show j < 5 by omega) hw hw2 hm (hch j (Nat.le_refl _) (by omega))
    rw [hr] at e1 q1
    rw [F_X8_pass_b56, if_neg (nI_ge (by omega) (by omega)), e1, cbd_s, grd_t (inBe (show j < 5 by omega) (by decide)), nIc (by omega)]
    simp only [bnd_e]
    generalize hp : pkP c x.2.2.1 x.1 j = o at e1 ⊢
    generalize hD2 : setI D1 (6, i, 5, 0) j o = D2
    have s2 : Sm (weS q i) D1 D2 := by rw [← hD2]; exact stS_we (Sm.sI (stS_t _ _ _ _))
    have r2 : rdS D2 i = up x.1 4 j o := by rw [← hD2, sw_from (by omega), r1, hr]
    have q2 : D2.1 (8, q, 0, 0) 6 = D1.1 (8, q, 0, 0) 6 := by rw [← hD2, gI, if_neg (by simp)]
    have v2 : D2.1 (8, q, 0, 0) 7 = D1.1 (8, q, 0, 0) 7 := by rw [← hD2, gI, if_neg (by simp)]
    have hmn : ∀ a, j + 1 ≤ a → a < 5 → nI a = cfC c → (wB1 c j x).2.2.1 = false := by
      intro a ha ha5 hac
      have hz := hch a (by omega) ha5 hac
      have hne : ¬ nI j = cfC c := by
        intro h
        have := (nI_eq (a := a) (b := j) (by omega) (by omega)).mp (hac.trans h.symm)
        omega
      have : (wB1 c j x).2.2.1 = pkM c x.2.2.1 x.1 j := by unfold wB1; split <;> rfl
      rw [this, pkM, if_neg (fun h => hne h.1), hz]
    by_cases g : o = -1
    · rw [if_pos g]
      simp only [F_X8_pass_b111, bnd_e, nI_1]
      have hB : wB1 c j x = (up x.1 4 j o, x.2.1, pkM c x.2.2.1 x.1 j, x.2.2.2) := by unfold wB1; rw [hp, if_pos g, g]
      obtain ⟨D3, e3, r3, q3, v3, s3⟩ := ih fu (j + 1) D2 (by omega) (by omega) (hc.sm (s1.trans s2)) (by rw [hnx, hB, r2]) (by rw [r2, up_n (by omega), ← hr, hw]) (by rw [hnx, hB, q2, q1]) (by rw [hnx, hB, v2, v1, hse]) (by rw [hnx]; exact hmn)
      refine ⟨D3, ?_, r3, q3, v3, (s1.trans s2).trans s3⟩
      rw [← e3, hnx, hB]
    · rw [if_neg g]
      rcases pkP_rng (c := c) (m := x.2.2.1) (s := x.1) (a := j) with h | ⟨b, hb, eb, hmay⟩
      · rw [hp] at h
        exact absurd h g
      · rw [hp] at eb
        subst eb
        obtain ⟨D3, e3, r3, m3⟩ := c_buy (D := D2) hi (show j < 5 by omega) (show b < 5 by omega)
        rw [e3, vbd_s]
        simp only [F_X8_pass_b111, bnd_e, nI_1]
        generalize hD4 : setI D3 (8, q, 0, 0) 7 (D3.1 (8, q, 0, 0) 7 ||| 1 <<< (nI b &&& 31)) = D4
        have hB : wB1 c j x = (pBuy (up x.1 4 j (nI b)) j b, x.2.1 + 1, pkM c x.2.2.1 x.1 j, x.2.2.2 ||| (1 <<< (nI b &&& 31))) := by unfold wB1; rw [hp, if_neg g, nIc (by omega)]
        have s4 : Sm (weS q i) D3 D4 := by rw [← hD4]; exact Sm.sI (by simp [weS])
        have r4 : rdS D4 i = rdS D3 i := by
          rw [← hD4]
          exact rdX_cong (fun q' k _ _ => by rw [gI, if_neg (by simp)]) (fun k _ => by rw [gI, if_neg (by simp)])
        have q4 : D4.1 (8, q, 0, 0) 6 = D2.1 (8, q, 0, 0) 6 := by rw [← hD4, gI, if_neg (by simp), m3.i stS_8]
        have v4 : D4.1 (8, q, 0, 0) 7 = x.2.2.2 ||| (1 <<< (nI b &&& 31)) := by rw [← hD4, gI, if_pos ⟨rfl, rfl⟩, m3.i stS_8, v2, v1, hse]
        obtain ⟨D5, e5, r5, q5, v5, s5⟩ := ih fu (j + 1) D4 (by omega) (by omega) (hc.sm (((s1.trans s2).trans (stS_we m3)).trans s4)) (by rw [hnx, hB, r4, r3, r2]) (by rw [r4, r3, wk_buy, r2, up_n (by omega), ← hr, hw]) (by rw [hnx, hB, q4, q2, q1]) (by rw [hnx, hB, v4]) (by rw [hnx]; exact hmn)
        refine ⟨D5, ?_, r5, q5, v5, (((s1.trans s2).trans (stS_we m3)).trans s4).trans s5⟩
        rw [← e5, hnx, hB]
theorem mn_c (a b : Int32) : (if b < a then b else a) = (if a < b then a else b) := by rw [← mn_sw, mn_le]
theorem c_passC {q i : Nat} {c : Cf} {l3 : Int32} {kk : Int32 → Dt → Option (Int32 × Dt)} (hi : V (6, i, 0, 0) = true) (s0 : St) : ∀ (m fu j : Nat) (D : Dt), j + m = cfN c → m < fu → CfC D q c → rdS D i = itr (wC1 c) j s0 → ∃ D', F_X8_pass_b120 q i kk fu (nI (cfN c)) l3 (nI j) D = kk l3 D' ∧ rdS D' i = wkC c s0 ∧ Sm (stS i) D D' := by
  intro m
  induction m with
  | zero =>
    intro fu j D hj hf hc hr
    obtain ⟨fu, rfl⟩ : ∃ g, fu = g + 1 := ⟨fu - 1, by omega⟩
    have : j = cfN c := by omega
    subst this
    have h5 := hc.n5
    refine ⟨D, ?_, hr, Sm.refl⟩
    rw [F_X8_pass_b120, if_pos (nI_le (Nat.le_refl _) (by omega))]
  | succ m ih =>
    intro fu j D hj hf hc hr
    obtain ⟨fu, rfl⟩ : ∃ g, fu = g + 1 := ⟨fu - 1, by omega⟩
    have h5 := hc.n5
    have hc' := hc
    obtain ⟨D1, e1, r1, m1⟩ := c_harvest (D := D) (k := j) hi (by omega)
    obtain ⟨x, h1, h2, h3, h4, hs5, h6, -⟩ := hc.sm (i := i) (stS_we m1)
    generalize hD2 : setI D1 (6, i, 2, 0) j (if cfS c < D1.1 (6, i, 2, 0) j then cfS c else D1.1 (6, i, 2, 0) j) = D2
    have m2 : Sm (stS i) D1 D2 := by rw [← hD2]; exact Sm.sI (stS_t _ _ _ _)
    have r2 : rdS D2 i = itr (wC1 c) (j + 1) s0 := by
      rw [← hD2, sw_sun (by omega), s_sun (by omega), mn_c, r1, hr]
      rfl
    obtain ⟨D3, e3, r3, m3⟩ := ih fu (j + 1) D2 (by omega) (by omega) (hc'.sm (i := i) (stS_we (m1.trans m2))) r2
    refine ⟨D3, ?_, r3, (m1.trans m2).trans m3⟩
    rw [F_X8_pass_b120, if_neg (nI_ge (by omega) (by omega)), e1, vbd_s, grd_t (inBe (show j < 5 by omega) (by decide)), h1, obd_s, grd_t h2, hs5, nIc (by omega), hD2]
    simp only [bnd_e, nI_1]
    exact e3
theorem itrA_wk {c : Cf} {s : St} : ∀ n, itr (wA1 c) n s 5 1 = s 5 1
  | 0 => rfl
  | n + 1 => by rw [itr, wA1, wk_add, itrA_wk n]
theorem c_pass {D : Dt} {q i w : Nat} {m : Bool} {se : Int32} {c : Cf} (hi : V (6, i, 0, 0) = true) (hq : V (8, q, 0, 0) = true) (hc : CfC D q c) (hw : rdS D i 5 1 = nI w) (hw2 : w < 2147483648) (hm : D.1 (8, q, 0, 0) 6 = if m then 1 else 0) (hse : D.1 (8, q, 0, 0) 7 = se) (hm0 : cfC c = -1 ∨ m = false) : ∃ D', F_X8_pass q i D = some ((pWk c m (rdS D i) se).2.1, D') ∧ rdS D' i = (pWk c m (rdS D i) se).1 ∧ D'.1 (8, q, 0, 0) 6 = (if (pWk c m (rdS D i) se).2.2.1 then 1 else 0) ∧ D'.1 (8, q, 0, 0) 7 = (pWk c m (rdS D i) se).2.2.2 ∧ Sm (weS q i) D D' := by
  have h5 := hc.n5
  have hc' := hc
  obtain ⟨x, h1, h2, h3, h4, hs5, h6, -⟩ := hc
  have hl : (if (5 : Int32) < nI (cfN c) then (5 : Int32) else nI (cfN c)) = nI (cfN c) := by
    rw [if_neg (show ¬ (5 : Int32) < nI (cfN c) from nI_nlt (a := 5) h5 (by decide))]
  rw [F_X8_pass, grd_t hq, grd_t hi, h1, if_neg (by simp), obd_s, grd_t h2, h4]
  simp only [bnd_e, hl]
  generalize hk1 : (fun l2_14 D15 => F_X8_pass_b56 q i (fun l2_36 l3_37 D38 => F_X8_pass_b120 q i (fun l3_47 D48 => some (l3_47, setI D48 (6, i, 0, 0) 6 (D48.1 (6, i, 0, 0) 6 + 1))) 2000 l2_36 l3_37 0 D38) 2000 l2_14 0 0 D15) = k1
  obtain ⟨D1, e1, r1, w1, m1⟩ := c_passA (q := q) (c := c) (kk := k1) hi hw2 (rdS D i) (cfN c) 2000 0 D (by omega) (by omega) hc' rfl hw
  have e1' : F_X8_pass_b23 q i k1 2000 (nI (cfN c)) 0 D = k1 (nI (cfN c)) D1 := e1
  rw [e1', ← hk1]
  clear hk1 e1' e1
  show ∃ D', F_X8_pass_b56 q i (fun l2_36 l3_37 D38 => F_X8_pass_b120 q i (fun l3_47 D48 => some (l3_47, setI D48 (6, i, 0, 0) 6 (D48.1 (6, i, 0, 0) 6 + 1))) 2000 l2_36 l3_37 0 D38) 2000 (nI (cfN c)) 0 0 D1 = some ((pWk c m (rdS D i) se).2.1, D') ∧ _
  have hc1 := hc'.sm (i := i) (stS_we m1)
  obtain ⟨D2, e2, r2, q2, v2, s2⟩ := c_passB (q := q) (c := c) (kk := fun l2_36 l3_37 D38 => F_X8_pass_b120 q i (fun l3_47 D48 => some (l3_47, setI D48 (6, i, 0, 0) 6 (D48.1 (6, i, 0, 0) 6 + 1))) 2000 l2_36 l3_37 0 D38) hi hq hw2 (wkA c (rdS D i), 0, m, se) (cfN c) 2000 0 D1 (by omega) (by omega) hc1 r1 w1 (by rw [m1.i stS_8, hm]; rfl) (by rw [m1.i stS_8, hse]; rfl) (fun a _ ha hac => by
    rcases hm0 with h | h
    · rw [h] at hac
      have := congrArg Int32.toInt hac
      rw [nI_toInt (by omega)] at this
      have e : (-1 : Int32).toInt = -1 := rfl
      omega
    · exact h)
  rw [show F_X8_pass_b56 q i (fun l2_36 l3_37 D38 => F_X8_pass_b120 q i (fun l3_47 D48 => some (l3_47, setI D48 (6, i, 0, 0) 6 (D48.1 (6, i, 0, 0) 6 + 1))) 2000 l2_36 l3_37 0 D38) 2000 (nI (cfN c)) 0 0 D1 = _ from e2]
  clear e2
  have hc2 := hc1.sm s2
  obtain ⟨D3, e3, r3, m3⟩ := c_passC (q := q) (c := c) (l3 := (wkB c (wkA c (rdS D i), 0, m, se)).2.1) (kk := fun l3_47 D48 => some (l3_47, setI D48 (6, i, 0, 0) 6 (D48.1 (6, i, 0, 0) 6 + 1))) hi (wkB c (wkA c (rdS D i), 0, m, se)).1 (cfN c) 2000 0 D2 (by omega) (by omega) hc2 r2
  rw [show F_X8_pass_b120 q i (fun l3_47 D48 => some (l3_47, setI D48 (6, i, 0, 0) 6 (D48.1 (6, i, 0, 0) 6 + 1))) 2000 (nI (cfN c)) (wkB c (wkA c (rdS D i), 0, m, se)).2.1 0 D2 = _ from e3]
  refine ⟨_, rfl, ?_, ?_, ?_, ?_⟩
  · rw [sw_week, s_week, r3]
    rfl
  · rw [gI, if_neg (by simp), m3.i stS_8, q2]
    rfl
  · rw [gI, if_neg (by simp), m3.i stS_8, v2]
    rfl
  · exact (((stS_we m1).trans s2).trans (stS_we m3)).trans (stS_we (Sm.sI (stS_t _ _ _ _)))
