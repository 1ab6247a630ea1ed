/-! ===== the reference's state ===== -/
def stM : LA → Nat → Bool := fun la k => la.1 == 11 && (decide (3 ≤ la.2.2.1 ∧ la.2.2.1 ≤ 7) || (la.2.2.1 == 2 && decide (3 ≤ k ∧ k ≤ 5)))
theorem stM_r {q j k : Nat} (n : Nat) (h1 : 3 ≤ q) (h2 : q ≤ 7) : stM (11, n, q, j) k = true := by simp [stM, h1, h2]
theorem stM_s {k : Nat} (n j : Nat) (h1 : 3 ≤ k) (h2 : k ≤ 5) : stM (11, n, 2, j) k = true := by simp [stM, h1, h2]
theorem mn_le (a b : Int32) : (if a ≤ b then a else b) = (if a < b then a else b) := by
  by_cases h : a < b
  · rw [if_pos h, if_pos (fa_of_lt h).1]
  · rw [if_neg h]
    by_cases h2 : a ≤ b
    · rw [if_pos h2]
      rw [fa_lt] at h
      rw [fa_le] at h2
      rw [fa_eq]
      omega
    · rw [if_neg h2]
theorem mn_sw (a b : Int32) : (if a ≤ b then a else b) = (if b < a then b else a) := by
  by_cases h : a ≤ b
  · rw [if_pos h, if_neg]
    rw [fa_lt]
    rw [fa_le] at h
    omega
  · rw [if_neg h, if_pos (fa_of_nle h)]
theorem r_upTo {a b : Int32} {D : Dt} : F_X11_upTo a b D = some (if a < b then a else b, D) := by
  rw [← mn_le]
  unfold F_X11_upTo
  split <;> rfl
theorem r_buys {D : Dt} {a b : Nat} (ha : a < 5) (hb : b < 5) : ∃ D', F_X11_buys (nI a) (nI b) D = some D' ∧ rdM D' = pBuy (rdM D) a b ∧ Sm stM D D' := by
  simp (disch := omega) only [F_X11_buys, grd, inBe, nIc, bnd, eq_self, if_true, r_upTo, cbd_s]
  refine ⟨_, rfl, ?_, ?_⟩
  · simp (disch := omega) only [mw_men, mw_sun, mw_bought, m_men, m_sun, m_bought, m_rate, pBuy, pTake, pCnt, pAddS, pAddM, pMove]
    simp [up]
  · exact ((((Sm.sI (stM_r 0 (by decide) (by decide))).trans (Sm.sI (stM_r 0 (by decide) (by decide)))).trans (Sm.sI (stM_r 0 (by decide) (by decide)))).trans (Sm.sI (stM_r 0 (by decide) (by decide)))).trans (Sm.sI (stM_s 0 0 (by decide) (by decide)))
/-- whether a bit stands -/
def hasB (x : Int32) (k : Nat) : Bool := decide (¬ ((x >>> (nI k &&& 31)) &&& 1) = 0)
theorem and1 (y : Int32) : y &&& 1 = 0 ∨ y &&& 1 = 1 := by
  obtain ⟨j, hj, e⟩ := pk_andE y (m := 1) 1 (by decide)
  have : j = 0 ∨ j = 1 := by omega
  rcases this with rfl | rfl
  · exact Or.inl e
  · exact Or.inr e
theorem r_has {x : Int32} {k : Nat} {D : Dt} : F_X11_has x (nI k) D = some (if hasB x k then 1 else 0, D) := by
  simp only [F_X11_has, hasB]
  rcases and1 (x >>> (nI k &&& 31)) with h | h <;> simp [h]
theorem c_has {x : Int32} {k : Nat} {D : Dt} : F_X8_has x (nI k) D = some (if hasB x k then 1 else 0, D) := by
  simp only [F_X8_has, hasB]
  by_cases h : (x >>> (nI k &&& 31)) &&& 1 = 0 <;> simp [h]
theorem has0 (k : Nat) (hk : k < 32) : hasB 0 k = false := by
  have : (0 : Int32) >>> (nI k &&& 31) = 0 := by
    have h := pk_shrN (n := 0) (by decide) (nI k &&& 31) k (by
      have := pk_andN (n := k) (by omega) (m := 31) 5 (by decide)
      rw [this, Nat.mod_eq_of_lt (by omega)]
      have : ∀ k, k < 32 → ((nI k).toBitVec.smod 32).toNat = k := by decide
      exact this k hk)
    rw [show nI 0 = 0 from rfl] at h
    rw [h]
    simp [nI_0]
  simp only [hasB, this]
  decide
theorem r_canBuy {D : Dt} {a b : Nat} (ha : a < 5) (hb : b < 5) : F_X11_canBuy (nI a) (nI b) D = some (if pMay (rdM D) a b && !hasB (D.1 (11, 0, 0, 0) 39) b then 1 else 0, D) := by
  have e : nI a = nI b ↔ a = b := nI_eq (by omega) (by omega)
  simp (disch := omega) only [F_X11_canBuy, grd, inBe, nIc, eq_self, if_true, e, m_men, m_sun, m_rate, pMay, r_has, cbd_s]
  by_cases h1 : a = b
  · simp [h1]
  · rw [if_neg h1]
    by_cases h2 : rdM D 0 a < rdM D 5 0
    · simp [h2]
    · rw [if_neg h2]
      by_cases h3 : rdM D 1 b ≤ 0
      · simp [h3]
      · by_cases h4 : hasB (D.1 (11, 0, 0, 0) 39) b = true
        · simp [h1, h2, h3, h4]
        · simp [h1, h2, h3, h4]
/-! ===== what is kept of them: 0 to 999 men, 99 sun, 99 hay, 9999 barley ===== -/
def bw (x : Int32) (m : Int) : Prop := 0 ≤ x.toInt ∧ x.toInt ≤ m
/-- n LANDS, the rest empty; rate at least 0 -/
def Gd (n : Nat) (s : St) : Prop := (∀ k, bw (s 0 k) 999 ∧ bw (s 1 k) 99 ∧ bw (s 2 k) 99 ∧ bw (s 3 k) 9999) ∧ (∀ k, n ≤ k → s 0 k = 0 ∧ s 1 k = 0 ∧ s 2 k = 0 ∧ s 3 k = 0) ∧ bw (s 5 0) 9
theorem r_reaps {D : Dt} {k : Nat} (hk : k < 5) (h1 : bw (rdM D 2 k) 99) (h2 : bw (rdM D 1 k) 99) : ∃ D', F_X11_reaps (nI k) D = some D' ∧ rdM D' = pHarv (rdM D) k ∧ Sm stM D D' := by
  have z2 : rdM D 2 k = 0 ↔ ¬ 1 ≤ rdM D 2 k := by
    rw [fa_eq, fa_le]
    have : (0 : Int32).toInt = 0 := rfl
    have : (1 : Int32).toInt = 1 := rfl
    have := h1.1
    omega
  have z1 : rdM D 1 k = 0 ↔ ¬ 1 ≤ rdM D 1 k := by
    rw [fa_eq, fa_le]
    have : (0 : Int32).toInt = 0 := rfl
    have : (1 : Int32).toInt = 1 := rfl
    have := h2.1
    omega
  have hb : ∀ x, ∃ D', F_X11_reaps_b60 (nI k) (nI k) x D = some D' ∧ rdM D' = pReap (rdM D) k x ∧ Sm stM D D' := by
    intro x
    simp (disch := omega) only [F_X11_reaps_b60, grd, inBe, nIc, bnd, eq_self, if_true, r_upTo, cbd_s]
    refine ⟨_, rfl, ?_, ?_⟩
    · simp (disch := omega) only [mw_barn, mw_hay, mw_sun, m_barn, m_hay, m_sun, pReap, pTake]
      simp [up]
    · exact ((Sm.sI (stM_r 0 (by decide) (by decide))).trans (Sm.sI (stM_r 0 (by decide) (by decide)))).trans (Sm.sI (stM_r 0 (by decide) (by decide)))
  simp (disch := omega) only [F_X11_reaps, grd, inBe, nIc, bnd, eq_self, if_true, m_hay, m_sun, m_men]
  by_cases g1 : 1 ≤ rdM D 2 k
  · rw [if_neg (by rw [z2]; exact fun h => h g1)]
    by_cases g2 : 1 ≤ rdM D 1 k
    · rw [if_neg (by rw [z1]; exact fun h => h g2)]
      have e : pHarv (rdM D) k = pReap (rdM D) k (if rdM D 2 k ≤ rdM D 0 k then rdM D 2 k else rdM D 0 k) := by
        rw [mn_le]
        simp only [pHarv, if_pos g1, if_pos g2]
      rw [e]
      by_cases g3 : rdM D 2 k ≤ rdM D 0 k
      · rw [if_pos g3, if_pos g3]
        exact hb _
      · rw [if_neg g3, if_neg g3]
        exact hb _
    · rw [if_pos (z1.mpr g2)]
      refine ⟨_, rfl, ?_, Sm.sI (stM_r 0 (by decide) (by decide))⟩
      simp (disch := omega) only [mw_hay, m_hay, pHarv, if_pos g1, if_neg g2]
  · rw [if_pos (z2.mpr g1)]
    exact ⟨_, rfl, by simp only [pHarv, if_neg g1], Sm.refl⟩
