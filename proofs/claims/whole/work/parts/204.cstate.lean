/-! ===== the class's State ===== -/
theorem c_addSun {D : Dt} {i k : Nat} {v : Int32} (hi : V (6, i, 0, 0) = true) (hk : k < 5) : ∃ D', F_X6_addSun i (nI k) v D = some D' ∧ rdS D' i = pAddS (rdS D i) k v ∧ Sm (stS i) D D' := by
  simp (disch := omega) only [F_X6_addSun, grd, hi, inBe, nIc, bnd, eq_self, if_true]
  refine ⟨_, rfl, ?_, Sm.sI (stS_t _ _ _ _)⟩
  simp (disch := omega) only [sw_sun, s_sun, pAddS]
theorem c_addMen {D : Dt} {i k : Nat} {v : Int32} (hi : V (6, i, 0, 0) = true) (hk : k < 5) : ∃ D', F_X6_addMen i (nI k) v D = some D' ∧ rdS D' i = pAddM (rdS D i) k v ∧ Sm (stS i) D D' := by
  simp (disch := omega) only [F_X6_addMen, grd, hi, inBe, nIc, bnd, eq_self, if_true]
  refine ⟨_, rfl, ?_, Sm.sI (stS_t _ _ _ _)⟩
  simp (disch := omega) only [sw_men, s_men, pAddM]
theorem c_moveMen {D : Dt} {i a b : Nat} {v : Int32} (hi : V (6, i, 0, 0) = true) (ha : a < 5) (hb : b < 5) : ∃ D', F_X6_moveMen i (nI a) (nI b) v D = some D' ∧ rdS D' i = pMove (rdS D i) a b v ∧ Sm (stS i) D D' := by
  simp (disch := omega) only [F_X6_moveMen, grd, hi, inBe, nIc, bnd, eq_self, if_true]
  obtain ⟨D1, e1, r1, m1⟩ := c_addMen (D := setI D (6, i, 1, 0) a (D.1 (6, i, 1, 0) a - v)) (v := v) hi hb
  rw [e1, vbd_s]
  refine ⟨_, rfl, ?_, Sm.trans (Sm.sI (stS_t _ _ _ _)) m1⟩
  rw [r1]
  simp (disch := omega) only [sw_men, s_men, pMove]
theorem c_buy {D : Dt} {i a b : Nat} (hi : V (6, i, 0, 0) = true) (ha : a < 5) (hb : b < 5) : ∃ D', F_X6_buy i (nI a) (nI b) D = some D' ∧ rdS D' i = pBuy (rdS D i) a b ∧ Sm (stS i) D D' := by
  simp (disch := omega) only [F_X6_buy, grd, hi, inBe, nIc, bnd, eq_self, if_true]
  obtain ⟨D1, e1, r1, m1⟩ := c_moveMen (D := D) (v := D.1 (6, i, 0, 0) 5) hi ha hb
  rw [e1, vbd_s]
  obtain ⟨D2, e2, r2, m2⟩ := c_addSun (D := setI D1 (6, i, 2, 0) b (D1.1 (6, i, 2, 0) b - 1)) (v := 1) hi ha
  rw [e2, vbd_s]
  refine ⟨_, rfl, ?_, Sm.trans m1 (Sm.trans (Sm.sI (stS_t _ _ _ _)) (Sm.trans m2 (Sm.sI (stS_t _ _ _ _))))⟩
  simp (disch := omega) only [sw_bought, s_bought, r2, sw_sun, s_sun, r1, s_rate, pBuy, pTake, pCnt]
theorem c_harvest {D : Dt} {i k : Nat} (hi : V (6, i, 0, 0) = true) (hk : k < 5) : ∃ D', F_X6_harvest i (nI k) D = some D' ∧ rdS D' i = pHarv (rdS D i) k ∧ Sm (stS i) D D' := by
  simp (disch := omega) only [F_X6_harvest, grd, hi, inBe, nIc, bnd, eq_self, if_true]
  have e1 : D.1 (6, i, 3, 0) k = rdS D i 2 k := s_hay hk
  have e2 : D.1 (6, i, 2, 0) k = rdS D i 1 k := s_sun hk
  rw [e1, e2]
  by_cases h1 : 1 ≤ rdS D i 2 k
  · rw [if_pos h1]
    by_cases h2 : 1 ≤ rdS D i 1 k
    · rw [if_pos h2]
      refine ⟨_, rfl, ?_, Sm.trans (Sm.trans (Sm.sI (stS_t _ _ _ _)) (Sm.sI (stS_t _ _ _ _))) (Sm.sI (stS_t _ _ _ _))⟩
      simp (disch := omega) only [pHarv, if_pos h1, if_pos h2, sw_barn, sw_hay, sw_sun, s_barn, s_hay, s_men, s_sun, pReap, pTake]
      simp [up]
    · rw [if_neg h2]
      refine ⟨_, rfl, ?_, Sm.sI (stS_t _ _ _ _)⟩
      simp (disch := omega) only [pHarv, if_pos h1, if_neg h2, sw_hay, s_hay]
  · rw [if_neg h1]
    refine ⟨_, rfl, ?_, Sm.refl⟩
    simp only [pHarv, if_neg h1]
theorem c_mayBuy {D : Dt} {i a b : Nat} (hi : V (6, i, 0, 0) = true) (ha : a < 5) (hb : b < 5) : F_X6_mayBuy i (nI a) (nI b) D = some (if pMay (rdS D i) a b then 1 else 0, D) := by
  have e : nI a = nI b ↔ a = b := nI_eq (by omega) (by omega)
  simp (disch := omega) only [F_X6_mayBuy, grd, hi, inBe, nIc, eq_self, if_true, e, s_men, s_sun, s_rate, pMay]
  by_cases h1 : a = b
  · simp [h1]
  · rw [if_neg h1]
    by_cases h2 : rdS D i 0 a < rdS D i 5 0
    · simp [h2]
    · rw [if_neg h2]
      by_cases h3 : rdS D i 1 b ≤ 0
      · simp [h3]
      · simp [h1, h2, h3]
/-! rows handed over -/
theorem c_copyRow {D : Dt} {a b : LA} {n : Nat} (ha : V a = true) (hb : V b = true) (sa : sh a = .inr (0, n)) (sb : sh b = .inr (0, n)) (hn : n < 2147483648) : F_X10_copyRow a b D = some (cpyI D a b 0 0 n) := by
  have la : lenOf a = n := by simp only [lenOf, sa]
  have lb : lenOf b = n := by simp only [lenOf, sb]
  have hc : (if Int32.ofNat n < Int32.ofNat n then Int32.ofNat n else Int32.ofNat n) = nI n := by rw [ite_self]; rfl
  have h0 : (0 : Int32).toNatClampNeg = 0 := rfl
  simp only [F_X10_copyRow, la, lb, hc, h0, nIc hn]
  rw [grd_t ⟨ha, sa⟩, grd_t ⟨hb, sb⟩, grd_t ⟨by decide, by decide, nI_pos hn, by omega, by omega⟩]
  rfl
theorem cp_in {D : Dt} {a b : LA} {n k : Nat} (h : k < n) : (cpyI D a b 0 0 n).1 b k = D.1 a k := by
  show (if b = b then va_cpy (D.1 a) (D.1 b) 0 0 n k else _) = _
  rw [if_pos rfl, pk_cpy_in (by omega) (by omega), show 0 + (k - 0) = k by omega]
theorem cp_ne {D : Dt} {a b l : LA} {n k : Nat} (h : l ≠ b) : (cpyI D a b 0 0 n).1 l k = D.1 l k := by
  show (if l = b then va_cpy (D.1 a) (D.1 b) 0 0 n k else _) = _
  rw [if_neg h]
theorem c_copyFrom {D : Dt} {i j : Nat} (hi : V (6, i, 0, 0) = true) (hj : V (6, j, 0, 0) = true) : ∃ D', F_X6_copyFrom i j D = some D' ∧ rdS D' i = rdS D j ∧ Sm (stS i) D D' := by
  have cr : ∀ (q : Nat) (D : Dt), q < 5 → F_X10_copyRow (6, j, q + 1, 0) (6, i, q + 1, 0) D = some (cpyI D (6, j, q + 1, 0) (6, i, q + 1, 0) 0 0 5) := by
    intro q D hq
    have : q = 0 ∨ q = 1 ∨ q = 2 ∨ q = 3 ∨ q = 4 := by omega
    rcases this with rfl | rfl | rfl | rfl | rfl <;> exact c_copyRow (V_f _ hj (by decide)) (V_f _ hi (by decide)) rfl rfl (by decide)
  simp only [F_X6_copyFrom, grd, hi, hj, eq_self, if_true]
  rw [cr 0 D (by decide), vbd_s, cr 1 _ (by decide), vbd_s, cr 2 _ (by decide), vbd_s, cr 3 _ (by decide), vbd_s, cr 4 _ (by decide), vbd_s]
  simp only [bnd]
  refine ⟨_, rfl, ?_, ?_⟩
  · by_cases hij : i = j
    · subst hij
      funext x y
      simp only [rdS, rdX, gI]
      by_cases h : x < 5 ∧ y < 5
      · rw [if_pos h, if_pos h]
        have : x = 0 ∨ x = 1 ∨ x = 2 ∨ x = 3 ∨ x = 4 := by omega
        rcases this with rfl | rfl | rfl | rfl | rfl <;> simp [cpyI, va_cpy]
      · rw [if_neg h, if_neg h]
        by_cases h4 : x = 5 ∧ y < 3
        · rw [if_pos h4, if_pos h4]
          have : y = 0 ∨ y = 1 ∨ y = 2 := by omega
          rcases this with rfl | rfl | rfl <;> simp [cpyI]
        · rw [if_neg h4, if_neg h4]
    · funext x y
      simp only [rdS, rdX, gI]
      by_cases h : x < 5 ∧ y < 5
      · rw [if_pos h, if_pos h]
        have : x = 0 ∨ x = 1 ∨ x = 2 ∨ x = 3 ∨ x = 4 := by omega
        have hji : ¬ j = i := fun e => hij e.symm
        rcases this with rfl | rfl | rfl | rfl | rfl <;> simp [cpyI, va_cpy, h.2, hij, hji]
      · rw [if_neg h, if_neg h]
        by_cases h4 : x = 5 ∧ y < 3
        · rw [if_pos h4, if_pos h4]
          have hji : ¬ j = i := fun e => hij e.symm
          have : y = 0 ∨ y = 1 ∨ y = 2 := by omega
          rcases this with rfl | rfl | rfl <;> simp [cpyI, hji]
        · rw [if_neg h4, if_neg h4]
  · have c : ∀ (D : Dt) (a : LA) (q : Nat), Sm (stS i) D (cpyI D a (6, i, q, 0) 0 0 5) := fun D a q => Sm.cp (fun k _ _ => stS_t _ _ _ _)
    exact ((((((((c _ _ _).trans (c _ _ _)).trans (c _ _ _)).trans (c _ _ _)).trans (c _ _ _)).trans (Sm.sI (stS_t _ _ _ _))).trans (Sm.sI (stS_t _ _ _ _))).trans (Sm.sI (stS_t _ _ _ _)))
