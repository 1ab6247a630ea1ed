theorem r_mv0 {D : Dt} {v : Int32} {z : Nat} (hz : z < 560) (h48 : D.1 (11, 0, 0, 0) 48 = 0) (h47 : D.1 (11, 0, 0, 0) 47 = nI z) : F_X11_moves v D = some (v, setI (setI D (11, 0, 45, 0) z v) (11, 0, 0, 0) 47 (nI (z + 1))) := by
  rw [F_X11_moves, h48, if_pos rfl, F_X11_moves_b20, h47, grd_t (inBe hz (by decide)), nIc (by omega)]
  simp only [bnd_e]
  rw [gI, if_neg (by simp), h47, nI_1]
theorem r_mv1 {D : Dt} {v : Int32} {z : Nat} (hz : z < 560) (h48 : D.1 (11, 0, 0, 0) 48 = 1) (h47 : D.1 (11, 0, 0, 0) 47 = nI z) : F_X11_moves v D = some (D.1 (11, 0, 45, 0) z, setI (setI D (11, 0, 45, 0) z (D.1 (11, 0, 45, 0) z)) (11, 0, 0, 0) 47 (nI (z + 1))) := by
  rw [F_X11_moves, h48, if_neg (by decide), h47, grd_t (inBe hz (by decide)), F_X11_moves_b20, h47, grd_t (inBe hz (by decide)), nIc (by omega)]
  simp only [bnd_e]
  rw [gI, if_neg (by simp), h47, nI_1]
theorem r_mvF {a1 : LA} {n z : Nat} {D : Dt} (hv : V a1 = true) (hsh : sh a1 = .inr (0, n)) (hne : a1 ≠ (11, 0, 45, 0)) (hne2 : a1 ≠ (11, 0, 0, 0)) (hz : z + n ≤ 560) (hg : D.1 (11, 0, 0, 0) 48 = 0) (hat : D.1 (11, 0, 0, 0) 47 = nI z) : ∃ D', F_X11_movesRow a1 D = some D' ∧ D'.2 = D.2 ∧ D'.1 (11, 0, 0, 0) 47 = nI (z + n) ∧ (∀ la k, la ≠ (11, 0, 45, 0) → ¬ (la = (11, 0, 0, 0) ∧ k = 47) → D'.1 la k = D.1 la k) ∧ (∀ k, k < n → D'.1 (11, 0, 45, 0) (z + k) = D.1 a1 k) ∧ (∀ k, (k < z ∨ z + n ≤ k) → D'.1 (11, 0, 45, 0) k = D.1 (11, 0, 45, 0) k) := by
  have hl : lenOf a1 = n := by simp only [lenOf, hsh]
  rw [F_X11_movesRow, grd_t ⟨hv, by rw [hl]; exact hsh⟩]
  obtain ⟨D', h, e⟩ := lpC (fun fu j D => F_X11_movesRow_b2 a1 fu (nI j) D) (fun j E => E.2 = D.2 ∧ E.1 (11, 0, 0, 0) 47 = nI (z + j) ∧ (∀ la k, la ≠ (11, 0, 45, 0) → ¬ (la = (11, 0, 0, 0) ∧ k = 47) → E.1 la k = D.1 la k) ∧ (∀ k, k < j → E.1 (11, 0, 45, 0) (z + k) = D.1 a1 k) ∧ (∀ k, (k < z ∨ z + j ≤ k) → E.1 (11, 0, 45, 0) k = D.1 (11, 0, 45, 0) k)) n some (by
    intro fu j E hj ⟨h1, h2, h3, h4, h5⟩
    have hg2 : E.1 (11, 0, 0, 0) 48 = 0 := by rw [h3 _ _ (by simp) (by simp), hg]
    refine ⟨setI (setI (setI E (11, 0, 45, 0) (z + j) (E.1 a1 j)) (11, 0, 0, 0) 47 (nI (z + j + 1))) a1 j (E.1 a1 j), ⟨h1, ?_, ?_, ?_, ?_⟩, ?_⟩
    · rw [gI, if_neg (fun h => hne2 h.1.symm), gI, if_pos ⟨rfl, rfl⟩]
      rfl
    · intro la k g1 g2
      rw [gI]
      by_cases c : la = a1 ∧ k = j
      · rw [if_pos c, ← h3 la k g1 g2, c.1, c.2]
      · rw [if_neg c, gI, if_neg g2, gI, if_neg (fun h => g1 h.1), h3 la k g1 g2]
    · intro k hk
      rw [gI, if_neg (fun h => hne h.1.symm), gI, if_neg (by simp), gI]
      by_cases c : k = j
      · subst c
        rw [if_pos ⟨rfl, rfl⟩, h3 _ _ hne (fun h => hne2 h.1)]
      · rw [if_neg (by omega), h4 k (by omega)]
    · intro k hk
      rw [gI, if_neg (fun h => hne h.1.symm), gI, if_neg (by simp), gI, if_neg (by omega), h5 k (by omega)]
    · show F_X11_movesRow_b2 a1 (fu + 1) (nI j) E = F_X11_movesRow_b2 a1 fu (nI (j + 1)) _
      rw [F_X11_movesRow_b2, hl, if_neg (show ¬ Int32.ofNat n ≤ nI j from nI_ge hj (by omega)), grd_t (inBe hj (by omega)), nIc (by omega), r_mv0 (z := z + j) (by omega) hg2 h2, cbd_s]
      simp only [bnd_e, nI_1]) (by
    intro fu E _
    show F_X11_movesRow_b2 a1 (fu + 1) (nI n) E = _
    rw [F_X11_movesRow_b2, hl, if_pos (show Int32.ofNat n ≤ nI n from nI_le (Nat.le_refl _) (by omega))]) n 2000 0 D (by omega) (by omega) ⟨rfl, hat, fun _ _ _ _ => rfl, fun k hk => absurd hk (by omega), fun _ _ => rfl⟩
  exact ⟨D', e, h⟩
theorem r_mvB {a1 : LA} {n z : Nat} {D : Dt} (hv : V a1 = true) (hsh : sh a1 = .inr (0, n)) (hne : a1 ≠ (11, 0, 45, 0)) (hne2 : a1 ≠ (11, 0, 0, 0)) (hz : z + n ≤ 560) (hg : D.1 (11, 0, 0, 0) 48 = 1) (hat : D.1 (11, 0, 0, 0) 47 = nI z) : ∃ D', F_X11_movesRow a1 D = some D' ∧ D'.2 = D.2 ∧ D'.1 (11, 0, 0, 0) 47 = nI (z + n) ∧ (∀ la k, la ≠ a1 → ¬ (la = (11, 0, 0, 0) ∧ k = 47) → D'.1 la k = D.1 la k) ∧ (∀ k, k < n → D'.1 a1 k = D.1 (11, 0, 45, 0) (z + k)) ∧ (∀ k, n ≤ k → D'.1 a1 k = D.1 a1 k) := by
  have hl : lenOf a1 = n := by simp only [lenOf, hsh]
  rw [F_X11_movesRow, grd_t ⟨hv, by rw [hl]; exact hsh⟩]
  obtain ⟨D', h, e⟩ := lpC (fun fu j D => F_X11_movesRow_b2 a1 fu (nI j) D) (fun j E => E.2 = D.2 ∧ E.1 (11, 0, 0, 0) 47 = nI (z + j) ∧ (∀ la k, la ≠ a1 → ¬ (la = (11, 0, 0, 0) ∧ k = 47) → E.1 la k = D.1 la k) ∧ (∀ k, k < j → E.1 a1 k = D.1 (11, 0, 45, 0) (z + k)) ∧ (∀ k, j ≤ k → E.1 a1 k = D.1 a1 k)) n some (by
    intro fu j E hj ⟨h1, h2, h3, h4, h5⟩
    have hg2 : E.1 (11, 0, 0, 0) 48 = 1 := by rw [h3 _ _ (fun h => hne2 h.symm) (by simp), hg]
    refine ⟨setI (setI (setI E (11, 0, 45, 0) (z + j) (E.1 (11, 0, 45, 0) (z + j))) (11, 0, 0, 0) 47 (nI (z + j + 1))) a1 j (E.1 (11, 0, 45, 0) (z + j)), ⟨h1, ?_, ?_, ?_, ?_⟩, ?_⟩
    · rw [gI, if_neg (fun h => hne2 h.1.symm), gI, if_pos ⟨rfl, rfl⟩]
      rfl
    · intro la k g1 g2
      rw [gI, if_neg (fun h => g1 h.1), gI, if_neg g2, gI]
      by_cases c : la = (11, 0, 45, 0) ∧ k = z + j
      · rw [if_pos c, ← h3 la k g1 g2, c.1, c.2]
      · rw [if_neg c, h3 la k g1 g2]
    · intro k hk
      rw [gI]
      by_cases c : k = j
      · subst c
        rw [if_pos ⟨rfl, rfl⟩, h3 _ _ (fun h => hne h.symm) (by simp)]
      · rw [if_neg (fun h => c h.2), gI, if_neg (fun h => hne2 h.1), gI, if_neg (fun h => hne h.1), h4 k (by omega)]
    · intro k hk
      rw [gI, if_neg (by omega), gI, if_neg (fun h => hne2 h.1), gI, if_neg (fun h => hne h.1), h5 k (by omega)]
    · show F_X11_movesRow_b2 a1 (fu + 1) (nI j) E = F_X11_movesRow_b2 a1 fu (nI (j + 1)) _
      rw [F_X11_movesRow_b2, hl, if_neg (show ¬ Int32.ofNat n ≤ nI j from nI_ge hj (by omega)), grd_t (inBe hj (by omega)), nIc (by omega), r_mv1 (z := z + j) (by omega) hg2 h2, cbd_s]
      simp only [bnd_e, nI_1]) (by
    intro fu E _
    show F_X11_movesRow_b2 a1 (fu + 1) (nI n) E = _
    rw [F_X11_movesRow_b2, hl, if_pos (show Int32.ofNat n ≤ nI n from nI_le (Nat.le_refl _) (by omega))]) n 2000 0 D (by omega) (by omega) ⟨rfl, hat, fun _ _ _ _ => rfl, fun k hk => absurd hk (by omega), fun _ _ => rfl⟩
  exact ⟨D', e, h⟩
/-- j of the 28 are put behind z -/
def Mf (z : Nat) (D0 D : Dt) (j : Nat) : Prop := D.2 = D0.2 ∧ D.1 (11, 0, 0, 0) 48 = 0 ∧ D.1 (11, 0, 0, 0) 47 = nI (z + j) ∧ (∀ la k, la ≠ (11, 0, 45, 0) → ¬ (la = (11, 0, 0, 0) ∧ (k = 47 ∨ k = 48)) → D.1 la k = D0.1 la k) ∧ (∀ k, k < 3 → k < j → D.1 (11, 0, 45, 0) (z + k) = D0.1 (11, 0, 2, 0) (k + 3)) ∧ (∀ q k, q < 5 → k < 5 → 3 + 5 * q + k < j → D.1 (11, 0, 45, 0) (z + (3 + 5 * q + k)) = D0.1 (11, 0, q + 3, 0) k) ∧ (∀ k, (k < z ∨ z + j ≤ k) → D.1 (11, 0, 45, 0) k = D0.1 (11, 0, 45, 0) k)
theorem Mf_row {z : Nat} {D0 D : Dt} (q : Nat) (hz : z + 28 ≤ 560) (hq : q < 5) (h : Mf z D0 D (3 + 5 * q)) : ∃ D', F_X11_movesRow (11, 0, q + 3, 0) D = some D' ∧ Mf z D0 D' (3 + 5 * (q + 1)) := by
  obtain ⟨h1, h2, h3, h4, h5, h6, h7⟩ := h
  have hsh : V (11, 0, q + 3, 0) = true ∧ sh (11, 0, q + 3, 0) = .inr (0, 5) := by
    have : q = 0 ∨ q = 1 ∨ q = 2 ∨ q = 3 ∨ q = 4 := by omega
    rcases this with rfl | rfl | rfl | rfl | rfl <;> exact ⟨by decide, rfl⟩
  obtain ⟨D', e, g1, g2, g3, g4, g5⟩ := r_mvF (a1 := (11, 0, q + 3, 0)) (n := 5) (z := z + (3 + 5 * q)) hsh.1 hsh.2 (fun h => by simp at h; omega) (by simp) (by omega) h2 h3
  refine ⟨D', e, g1.trans h1, ?_, ?_, ?_, ?_, ?_, ?_⟩
  · rw [g3 _ _ (by simp) (by simp), h2]
  · rw [g2]
    congr 1
  · intro la k c1 c2
    rw [g3 la k c1 (fun h => c2 ⟨h.1, Or.inl h.2⟩), h4 la k c1 c2]
  · intro k a b
    rw [g5 _ (by omega), h5 k a (by omega)]
  · intro q' k a b c
    by_cases hqq : q' = q
    · subst hqq
      rw [show z + (3 + 5 * q' + k) = z + (3 + 5 * q') + k by omega, g4 k b, h4 _ _ (fun h => by simp at h; omega) (by simp)]
    · rw [g5 _ (by omega), h6 q' k a b (by omega)]
  · intro k hk
    rw [g5 _ (by omega), h7 k (by omega)]
theorem r_movesF {i : Nat} {D : Dt} (hi : i < 20) : ∃ D', F_X11_movesAll (nI i) 0 D = some D' ∧ Mf (28 * i) D D' 28 := by
  have hx : (28 : Int32) * nI i = nI (28 * i) := by rw [show (28 : Int32) = nI 28 from rfl, pk_mul]
  have hz : 28 * i + 28 ≤ 560 := by omega
  have f0 : Mf (28 * i) D (setI (setI D (11, 0, 0, 0) 47 (nI (28 * i))) (11, 0, 0, 0) 48 0) 0 := by
    refine ⟨rfl, by rw [gI, if_pos ⟨rfl, rfl⟩], by rw [gI, if_neg (by simp), gI, if_pos ⟨rfl, rfl⟩]; rfl, ?_, fun k _ h => absurd h (by omega), fun q k _ _ h => absurd h (by omega), ?_⟩
    · intro la k c1 c2
      rw [gI, if_neg (fun h => c2 ⟨h.1, Or.inr h.2⟩), gI, if_neg (fun h => c2 ⟨h.1, Or.inl h.2⟩)]
    · intro k _
      rw [gI, if_neg (by simp), gI, if_neg (by simp)]
  rw [F_X11_movesAll, hx, bnd_ei, grd_t (Or.inl rfl), bnd_ei]
  obtain ⟨D3, f3, e3⟩ := lpC (fun fu j E => F_X11_movesAll_b15 (nI i) 0 (fun D11 => (vbd (F_X11_movesRow (11, 0, 3, 0) D11) (fun D13 => (vbd (F_X11_movesRow (11, 0, 4, 0) D13) (fun D15 => (vbd (F_X11_movesRow (11, 0, 5, 0) D15) (fun D17 => (vbd (F_X11_movesRow (11, 0, 6, 0) D17) (fun D19 => (vbd (F_X11_movesRow (11, 0, 7, 0) D19) (fun D21 => (some D21)))))))))))) fu (nI (j + 3)) E) (fun j E => Mf (28 * i) D E j) 3 _ (by
    intro fu j E hj ⟨h1, h2, h3, h4, h5, h6, h7⟩
    refine ⟨setI (setI (setI E (11, 0, 45, 0) (28 * i + j) (E.1 (11, 0, 2, 0) (j + 3))) (11, 0, 0, 0) 47 (nI (28 * i + j + 1))) (11, 0, 2, 0) (j + 3) (E.1 (11, 0, 2, 0) (j + 3)), ⟨h1, ?_, ?_, ?_, ?_, ?_, ?_⟩, ?_⟩
    · rw [gI, if_neg (by simp), gI, if_neg (by simp), gI, if_neg (by simp), h2]
    · rw [gI, if_neg (by simp), gI, if_pos ⟨rfl, rfl⟩]
      rfl
    · intro la k c1 c2
      rw [gI]
      by_cases c : la = (11, 0, 2, 0) ∧ k = j + 3
      · rw [if_pos c, ← h4 la k c1 c2, c.1, c.2]
      · rw [if_neg c, gI, if_neg (fun h => c2 ⟨h.1, Or.inl h.2⟩), gI, if_neg (fun h => c1 h.1), h4 la k c1 c2]
    · intro k a b
      rw [gI, if_neg (by simp), gI, if_neg (by simp), gI]
      by_cases c : k = j
      · subst c
        rw [if_pos ⟨rfl, rfl⟩, h4 _ _ (by simp) (by simp)]
      · rw [if_neg (by omega), h5 k a (by omega)]
    · intro q k a b c
      exact absurd c (by omega)
    · intro k hk
      rw [gI, if_neg (by simp), gI, if_neg (by simp), gI, if_neg (by omega), h7 k (by omega)]
    · show F_X11_movesAll_b15 _ _ _ (fu + 1) (nI (j + 3)) E = F_X11_movesAll_b15 _ _ _ fu (nI (j + 1 + 3)) _
      rw [F_X11_movesAll_b15, if_neg (show ¬ (6 : Int32) ≤ nI (j + 3) from nI_ge (b := 6) (by omega) (by decide)), grd_t (inBe (show j + 3 < 9 by omega) (by decide)), nIc (by omega), r_mv0 (z := 28 * i + j) (by omega) h2 h3, cbd_s]
      simp only [bnd_e, nI_1]) (by
    intro fu E _
    show F_X11_movesAll_b15 _ _ _ (fu + 1) (nI (3 + 3)) E = _
    rw [F_X11_movesAll_b15, if_pos (show (6 : Int32) ≤ nI (3 + 3) from nI_le (a := 6) (by omega) (by omega))]) 3 2000 0 _ (by omega) (by omega) f0
  obtain ⟨D4, e4, f4⟩ := Mf_row 0 hz (by decide) f3
  obtain ⟨D5, e5, f5⟩ := Mf_row 1 hz (by decide) f4
  obtain ⟨D6, e6, f6⟩ := Mf_row 2 hz (by decide) f5
  obtain ⟨D7, e7, f7⟩ := Mf_row 3 hz (by decide) f6
  obtain ⟨D8, e8, f8⟩ := Mf_row 4 hz (by decide) f7
  refine ⟨D8, ?_, f8⟩
  refine Eq.trans e3 ?_
  simp only [e4, vbd_s, e5, e6, e7, e8]
theorem Mf.rd {i : Nat} {D0 D : Dt} (h : Mf (28 * i) D0 D 28) : rdP (lvR D) i = rdM D0 := by
  funext x y
  simp only [rdP, rdM, rdX]
  by_cases c : x < 5 ∧ y < 5
  · rw [if_pos c, if_pos c]
    show D.1 (11, 0, 45, 0) _ = _
    exact h.2.2.2.2.2.1 x y c.1 c.2 (by omega)
  · rw [if_neg c, if_neg c]
    by_cases c2 : x = 5 ∧ y < 3
    · rw [if_pos c2, if_pos c2]
      show D.1 (11, 0, 45, 0) _ = _
      exact h.2.2.2.2.1 y c2.2 (by omega)
    · rw [if_neg c2, if_neg c2]
/-- j of the 28 are taken back -/
def Mb (z : Nat) (D0 D : Dt) (j : Nat) : Prop := D.2 = D0.2 ∧ D.1 (11, 0, 0, 0) 48 = 1 ∧ D.1 (11, 0, 0, 0) 47 = nI (z + j) ∧ (∀ la k, stM la k = false → ¬ (la = (11, 0, 0, 0) ∧ (k = 47 ∨ k = 48)) → D.1 la k = D0.1 la k) ∧ (∀ k, k < 3 → k < j → D.1 (11, 0, 2, 0) (k + 3) = D0.1 (11, 0, 45, 0) (z + k)) ∧ (∀ q k, q < 5 → k < 5 → 3 + 5 * q + k < j → D.1 (11, 0, q + 3, 0) k = D0.1 (11, 0, 45, 0) (z + (3 + 5 * q + k)))
theorem Mb_row {z : Nat} {D0 D : Dt} (q : Nat) (hz : z + 28 ≤ 560) (hq : q < 5) (h : Mb z D0 D (3 + 5 * q)) : ∃ D', F_X11_movesRow (11, 0, q + 3, 0) D = some D' ∧ Mb z D0 D' (3 + 5 * (q + 1)) := by
  obtain ⟨h1, h2, h3, h4, h5, h6⟩ := h
  have hsh : V (11, 0, q + 3, 0) = true ∧ sh (11, 0, q + 3, 0) = .inr (0, 5) := by
    have : q = 0 ∨ q = 1 ∨ q = 2 ∨ q = 3 ∨ q = 4 := by omega
    rcases this with rfl | rfl | rfl | rfl | rfl <;> exact ⟨by decide, rfl⟩
  obtain ⟨D', e, g1, g2, g3, g4, g5⟩ := r_mvB (a1 := (11, 0, q + 3, 0)) (n := 5) (z := z + (3 + 5 * q)) hsh.1 hsh.2 (fun h => by simp at h; omega) (by simp) (by omega) h2 h3
  refine ⟨D', e, g1.trans h1, ?_, ?_, ?_, ?_, ?_⟩
  · rw [g3 _ _ (by simp) (by simp), h2]
  · rw [g2]
    congr 1
  · intro la k c1 c2
    rw [g3 la k (fun h => by rw [h, stM_r 0 (by omega) (by omega)] at c1; cases c1) (fun h => c2 ⟨h.1, Or.inl h.2⟩), h4 la k c1 c2]
  · intro k a b
    rw [g3 _ _ (fun h => by simp at h) (by simp), h5 k a (by omega)]
  · intro q' k a b c
    by_cases hqq : q' = q
    · subst hqq
      rw [g4 k b, h4 _ _ (by simp [stM]) (by simp), show z + (3 + 5 * q') + k = z + (3 + 5 * q' + k) by omega]
    · rw [g3 _ _ (fun h => by simp at h; omega) (by simp), h6 q' k a b (by omega)]
theorem r_movesB {i : Nat} {D : Dt} (hi : i < 20) : ∃ D', F_X11_movesAll (nI i) 1 D = some D' ∧ Mb (28 * i) D D' 28 := by
  have hx : (28 : Int32) * nI i = nI (28 * i) := by rw [show (28 : Int32) = nI 28 from rfl, pk_mul]
  have hz : 28 * i + 28 ≤ 560 := by omega
  have f0 : Mb (28 * i) D (setI (setI D (11, 0, 0, 0) 47 (nI (28 * i))) (11, 0, 0, 0) 48 1) 0 := by
    refine ⟨rfl, by rw [gI, if_pos ⟨rfl, rfl⟩], by rw [gI, if_neg (by simp), gI, if_pos ⟨rfl, rfl⟩]; rfl, ?_, fun k _ h => absurd h (by omega), fun q k _ _ h => absurd h (by omega)⟩
    intro la k c1 c2
    rw [gI, if_neg (fun h => c2 ⟨h.1, Or.inr h.2⟩), gI, if_neg (fun h => c2 ⟨h.1, Or.inl h.2⟩)]
  rw [F_X11_movesAll, hx, bnd_ei, grd_t (Or.inr rfl), bnd_ei]
  obtain ⟨D3, f3, e3⟩ := lpC (fun fu j E => F_X11_movesAll_b15 (nI i) 1 (fun D11 => (vbd (F_X11_movesRow (11, 0, 3, 0) D11) (fun D13 => (vbd (F_X11_movesRow (11, 0, 4, 0) D13) (fun D15 => (vbd (F_X11_movesRow (11, 0, 5, 0) D15) (fun D17 => (vbd (F_X11_movesRow (11, 0, 6, 0) D17) (fun D19 => (vbd (F_X11_movesRow (11, 0, 7, 0) D19) (fun D21 => (some D21)))))))))))) fu (nI (j + 3)) E) (fun j E => Mb (28 * i) D E j) 3 _ (by
    intro fu j E hj ⟨h1, h2, h3, h4, h5, h6⟩
    refine ⟨setI (setI (setI E (11, 0, 45, 0) (28 * i + j) (E.1 (11, 0, 45, 0) (28 * i + j))) (11, 0, 0, 0) 47 (nI (28 * i + j + 1))) (11, 0, 2, 0) (j + 3) (E.1 (11, 0, 45, 0) (28 * i + j)), ⟨h1, ?_, ?_, ?_, ?_, ?_⟩, ?_⟩
    · rw [gI, if_neg (by simp), gI, if_neg (by simp), gI, if_neg (by simp), h2]
    · rw [gI, if_neg (by simp), gI, if_pos ⟨rfl, rfl⟩]
      rfl
    · intro la k c1 c2
      rw [gI, if_neg (fun h => by rw [h.1, h.2, stM_s 0 0 (by omega) (by omega)] at c1; cases c1), gI, if_neg (fun h => c2 ⟨h.1, Or.inl h.2⟩), gI]
      by_cases c : la = (11, 0, 45, 0) ∧ k = 28 * i + j
      · rw [if_pos c, ← h4 la k c1 c2, c.1, c.2]
      · rw [if_neg c, h4 la k c1 c2]
    · intro k a b
      rw [gI]
      by_cases c : k = j
      · subst c
        rw [if_pos ⟨rfl, rfl⟩, h4 _ _ (by simp [stM]) (by simp)]
      · rw [if_neg (by omega), gI, if_neg (by simp), gI, if_neg (by simp), h5 k a (by omega)]
    · intro q k a b c
      exact absurd c (by omega)
    · show F_X11_movesAll_b15 _ _ _ (fu + 1) (nI (j + 3)) E = F_X11_movesAll_b15 _ _ _ fu (nI (j + 1 + 3)) _
      rw [F_X11_movesAll_b15, if_neg (show ¬ (6 : Int32) ≤ nI (j + 3) from nI_ge (b := 6) (by omega) (by decide)), grd_t (inBe (show j + 3 < 9 by omega) (by decide)), nIc (by omega), r_mv1 (z := 28 * i + j) (by omega) h2 h3, cbd_s]
      simp only [bnd_e, nI_1]) (by
    intro fu E _
    show F_X11_movesAll_b15 _ _ _ (fu + 1) (nI (3 + 3)) E = _
    rw [F_X11_movesAll_b15, if_pos (show (6 : Int32) ≤ nI (3 + 3) from nI_le (a := 6) (by omega) (by omega))]) 3 2000 0 _ (by omega) (by omega) f0
  obtain ⟨D4, e4, f4⟩ := Mb_row 0 hz (by decide) f3
  obtain ⟨D5, e5, f5⟩ := Mb_row 1 hz (by decide) f4
  obtain ⟨D6, e6, f6⟩ := Mb_row 2 hz (by decide) f5
  obtain ⟨D7, e7, f7⟩ := Mb_row 3 hz (by decide) f6
  obtain ⟨D8, e8, f8⟩ := Mb_row 4 hz (by decide) f7
  refine ⟨D8, ?_, f8⟩
  refine Eq.trans e3 ?_
  simp only [e4, vbd_s, e5, e6, e7, e8]
theorem Mb.rd {i : Nat} {D0 D : Dt} (h : Mb (28 * i) D0 D 28) : rdM D = rdP (lvR D0) i := by
  funext x y
  simp only [rdP, rdM, rdX]
  by_cases c : x < 5 ∧ y < 5
  · rw [if_pos c, if_pos c]
    show _ = D0.1 (11, 0, 45, 0) _
    exact h.2.2.2.2.2 x y c.1 c.2 (by omega)
  · rw [if_neg c, if_neg c]
    by_cases c2 : x = 5 ∧ y < 3
    · rw [if_pos c2, if_pos c2]
      show _ = D0.1 (11, 0, 45, 0) _
      exact h.2.2.2.2.1 y c2.2 (by omega)
    · rw [if_neg c2, if_neg c2]
theorem RW.past {R R' : Nat → Nat → Int32} {W : Wo} {n : Nat} {f : Nat → St} (r : RW R W) (h : ∀ q k, q ≠ 6 → q < 14 → R' q k = R q k) (hn : n ≤ 20) (h6 : R' 6 0 = nI n) (hp : ∀ j, j < n → rdP R' j = f j) : RW R' (W.1, W.2.1, n, f, W.2.2.2.2) := by
  obtain ⟨h1, h2, h3, h4, h5, h6', h7, h8, h9, h10, h11, h12, h13, h14⟩ := r
  refine ⟨?_, ?_, ?_, ?_, ?_, ?_, ?_, hn, h6, hp, fun k v hk hv => ?_, h12, fun j hj => ?_, fun k hk => ?_⟩
  · rw [h _ _ (by decide) (by decide)]; exact h1
  · rw [h _ _ (by decide) (by decide)]; exact h2
  · rw [h _ _ (by decide) (by decide)]; exact h3
  · rw [rdR_cong (fun q k hq _ => h q k (by omega) (by omega))]; exact h4
  · rw [h _ _ (by decide) (by decide)]; exact h5
  · rw [h _ _ (by decide) (by decide)]; exact h6'
  · rw [h _ _ (by decide) (by decide)]; exact h7
  · rw [h _ _ (by decide) (by decide)]; exact h11 k v hk hv
  · rw [h _ _ (by decide) (by decide), h _ _ (by decide) (by decide), h _ _ (by decide) (by decide)]; exact h13 j hj
  · rw [h _ _ (by decide) (by decide), h _ _ (by decide) (by decide), h _ _ (by decide) (by decide)]; exact h14 k hk
theorem RW.st {R R' : Nat → Nat → Int32} {W : Wo} {s : St} (r : RW R W) (h : ∀ q k, 5 < q → R' q k = R q k) (h0 : ∀ k, k < 3 ∨ 5 < k → R' 0 k = R 0 k) (hs : rdR R' = s) : RW R' (W.1, s, W.2.2) := by
  obtain ⟨h1, h2, h3, h4, h5, h6, h7, h8, h9, h10, h11, h12, h13, h14⟩ := r
  refine ⟨?_, ?_, ?_, hs, ?_, ?_, ?_, h8, ?_, fun j hj => ?_, fun k v hk hv => ?_, h12, fun j hj => ?_, fun k hk => ?_⟩
  · rw [h0 _ (by decide)]; exact h1
  · rw [h0 _ (by decide)]; exact h2
  · rw [h0 _ (by decide)]; exact h3
  · rw [h0 _ (by decide)]; exact h5
  · rw [h0 _ (by decide)]; exact h6
  · rw [h0 _ (by decide)]; exact h7
  · rw [h _ _ (by decide)]; exact h9
  · have hj20 : j < 20 := Nat.lt_of_lt_of_le hj h8
    rw [rdP_cong hj20 (fun k _ => h _ _ (by decide))]; exact h10 j hj
  · rw [h _ _ (by decide)]; exact h11 k v hk hv
  · rw [h _ _ (by decide), h _ _ (by decide), h _ _ (by decide)]; exact h13 j hj
  · rw [h _ _ (by decide), h _ _ (by decide), h _ _ (by decide)]; exact h14 k hk
def pushW (W : Wo) : Wo := (W.1, W.2.1, (if woP W < 20 then woP W + 1 else 20), (if woP W < 20 then fun j => if j = woP W then woS W else woF W j else fun j => if j = 19 then woS W else woF W (j + 1)), W.2.2.2.2)
def kaS : LA → Nat → Bool := fun la k => la == (11, 0, 45, 0) || (la == (11, 0, 0, 0) && (k == 46 || (k == 47 || k == 48)))
theorem lvR_q {D D' : Dt} (h : ∀ la k, la ≠ (11, 0, 45, 0) → la ≠ (11, 0, 0, 0) → D'.1 la k = D.1 la k) (q k : Nat) (h6 : q ≠ 6) (h14 : q < 14) : lvR D' q k = lvR D q k := by
  rw [← lvA_lv q (by omega) h6, ← lvA_lv q (by omega) h6]
  refine h _ _ ?_ (lvA_sh q (by omega)).2.2.2
  intro e
  exact absurd (lvA_inj q 14 (by omega) (by decide) (e.trans rfl)) (by omega)
theorem r_keep50 {D : Dt} {P : Nat} (hP : P < 20) (h46 : D.1 (11, 0, 0, 0) 46 = nI P) : ∃ D', F_X11_keepsAct_b50 D = some D' ∧ D'.2 = D.2 ∧ (∀ la k, la ≠ (11, 0, 45, 0) → ¬ (la = (11, 0, 0, 0) ∧ (k = 46 ∨ k = 47 ∨ k = 48)) → D'.1 la k = D.1 la k) ∧ D'.1 (11, 0, 0, 0) 46 = nI (P + 1) ∧ rdP (lvR D') P = rdM D ∧ (∀ k, (k < 28 * P ∨ 28 * P + 28 ≤ k) → D'.1 (11, 0, 45, 0) k = D.1 (11, 0, 45, 0) k) := by
  obtain ⟨D1, e1, f1⟩ := r_movesF (D := D) hP
  rw [F_X11_keepsAct_b50, h46, e1, vbd_s, bnd_ei]
  have g46 : D1.1 (11, 0, 0, 0) 46 = nI P := by rw [f1.2.2.2.1 _ _ (by simp) (by simp), h46]
  refine ⟨_, rfl, f1.1, ?_, ?_, ?_, ?_⟩
  · intro la k c1 c2
    rw [gI, if_neg (fun h => c2 ⟨h.1, Or.inl h.2⟩), f1.2.2.2.1 la k c1 (fun h => c2 ⟨h.1, Or.inr h.2⟩)]
  · rw [gI, if_pos ⟨rfl, rfl⟩, g46, nI_1]
  · rw [← f1.rd]
    refine rdP_cong hP (fun k _ => ?_)
    show (setI D1 (11, 0, 0, 0) 46 _).1 (11, 0, 45, 0) k = D1.1 (11, 0, 45, 0) k
    rw [gI, if_neg (by simp)]
  · intro k hk
    rw [gI, if_neg (by simp), f1.2.2.2.2.2.2 k hk]
theorem r_keepsAct {D : Dt} {W : Wo} (h : RW (lvR D) W) : ∃ D', F_X11_keepsAct D = some D' ∧ RW (lvR D') (pushW W) ∧ Sm kaS D D' := by
  have h8 : woP W ≤ 20 := h.2.2.2.2.2.2.2.1
  have h9 : D.1 (11, 0, 0, 0) 46 = nI (woP W) := h.2.2.2.2.2.2.2.2.1
  have h10 := h.2.2.2.2.2.2.2.2.2.1
  have hst : rdM D = woS W := by rw [← lvR_rd]; exact h.2.2.2.1
  have toS : ∀ D', D'.2 = D.2 → (∀ la k, la ≠ (11, 0, 45, 0) → ¬ (la = (11, 0, 0, 0) ∧ (k = 46 ∨ k = 47 ∨ k = 48)) → D'.1 la k = D.1 la k) → Sm kaS D D' := by
    intro D' h2 hf la k e
    refine ⟨hf la k ?_ ?_, by rw [h2], by rw [h2]⟩
    · rintro rfl
      simp [kaS] at e
    · rintro ⟨rfl, hk⟩
      simp [kaS] at e
      omega
  rw [F_X11_keepsAct, h9]
  by_cases c : woP W < 20
  · rw [if_neg (fun e => by have := (nI_eq (a := woP W) (b := 20) (by omega) (by decide)).mp e; omega)]
    obtain ⟨D', e, g1, g2, g3, g4, g5⟩ := r_keep50 c h9
    refine ⟨D', e, ?_, toS D' g1 g2⟩
    have hp : pushW W = (W.1, W.2.1, woP W + 1, (fun j => if j = woP W then woS W else woF W j), W.2.2.2.2) := by unfold pushW; rw [if_pos c, if_pos c]
    rw [hp]
    refine h.past (fun q k a b => lvR_q (fun la k c1 c2 => g2 la k c1 (fun x => c2 x.1)) q k a b) (by omega) g3 (fun j hj => ?_)
    by_cases cj : j = woP W
    · rw [if_pos cj, cj, g4, hst]
    · rw [if_neg cj, ← h10 j (by omega)]
      funext x y
      have hk : ∀ i, i < 28 → D'.1 (11, 0, 45, 0) (28 * j + i) = D.1 (11, 0, 45, 0) (28 * j + i) := fun i hi => g5 _ (by omega)
      simp only [rdP]
      by_cases c1 : x < 5 ∧ y < 5
      · rw [if_pos c1, if_pos c1]
        exact hk _ (by omega)
      · rw [if_neg c1, if_neg c1]
        by_cases c2 : x = 5 ∧ y < 3
        · rw [if_pos c2, if_pos c2]
          exact hk _ (by omega)
        · rw [if_neg c2, if_neg c2]
  · have hP : woP W = 20 := by omega
    rw [hP, if_pos (show nI 20 = (20 : Int32) from rfl)]
    obtain ⟨D1, f1, e1⟩ := lpC (fun fu j E => F_X11_keepsAct_b12 (fun D10 => (bnd (setI D10 (11, 0, 0, 0) 46 ((D10.1 (11, 0, 0, 0) 46) - 1)) (fun D11 => (F_X11_keepsAct_b50 D11)))) fu (nI (j + 28)) E) (fun j E => E.2 = D.2 ∧ (∀ la k, la ≠ (11, 0, 45, 0) → E.1 la k = D.1 la k) ∧ (∀ k, k < j → E.1 (11, 0, 45, 0) k = D.1 (11, 0, 45, 0) (k + 28)) ∧ (∀ k, j ≤ k → E.1 (11, 0, 45, 0) k = D.1 (11, 0, 45, 0) k)) 532 _ (by
      intro fu j E hj ⟨a1, a2, a3, a4⟩
      refine ⟨setI E (11, 0, 45, 0) j (E.1 (11, 0, 45, 0) (j + 28)), ⟨a1, ?_, ?_, ?_⟩, ?_⟩
      · intro la k cl
        rw [gI, if_neg (fun x => cl x.1), a2 la k cl]
      · intro k hk
        rw [gI]
        by_cases ck : k = j
        · rw [if_pos ⟨rfl, ck⟩, a4 _ (by omega), ck]
        · rw [if_neg (by omega), a3 k (by omega)]
      · intro k hk
        rw [gI, if_neg (by omega), a4 k (by omega)]
      · show F_X11_keepsAct_b12 _ (fu + 1) (nI (j + 28)) E = F_X11_keepsAct_b12 _ fu (nI (j + 1 + 28)) _
        have hs : nI (j + 28) - 28 = nI j := by
          have := pk_sub (a := j + 28) (b := 28) (by omega)
          rw [show j + 28 - 28 = j by omega] at this
          exact this
        rw [F_X11_keepsAct_b12, if_neg (show ¬ (560 : Int32) ≤ nI (j + 28) from nI_ge (b := 560) (by omega) (by decide)), grd_t (inBe (show j + 28 < 560 by omega) (by decide))]
        simp only [hs, bnd_e, nI_1]
        rw [grd_t (inBe (show j < 560 by omega) (by decide)), nIc (by omega), nIc (by omega), show j + 28 + 1 = j + 1 + 28 by omega]) (by
      intro fu E _
      show F_X11_keepsAct_b12 _ (fu + 1) (nI (532 + 28)) E = _
      rw [F_X11_keepsAct_b12, if_pos (show (560 : Int32) ≤ nI (532 + 28) from nI_le (a := 560) (by omega) (by omega))]) 532 2000 0 D (by omega) (by omega) ⟨rfl, fun _ _ _ => rfl, fun k hk => absurd hk (by omega), fun _ _ => rfl⟩
    obtain ⟨a1, a2, a3, a4⟩ := f1
    have e1' : F_X11_keepsAct_b12 (fun D10 => (bnd (setI D10 (11, 0, 0, 0) 46 ((D10.1 (11, 0, 0, 0) 46) - 1)) (fun D11 => (F_X11_keepsAct_b50 D11)))) 2000 28 D = _ := e1
    rw [e1', bnd_ei, a2 _ _ (by simp), h9, hP, show nI 20 - 1 = nI 19 from nI_pred 19]
    obtain ⟨D', e, g1, g2, g3, g4, g5⟩ := r_keep50 (D := setI D1 (11, 0, 0, 0) 46 (nI 19)) (P := 19) (by decide) (by rw [gI, if_pos ⟨rfl, rfl⟩])
    have g2' : ∀ la k, la ≠ (11, 0, 45, 0) → ¬ (la = (11, 0, 0, 0) ∧ (k = 46 ∨ k = 47 ∨ k = 48)) → D'.1 la k = D.1 la k := by
      intro la k c1 c2
      rw [g2 la k c1 c2, gI, if_neg (fun x => c2 ⟨x.1, Or.inl x.2⟩), a2 la k c1]
    refine ⟨D', e, ?_, toS D' (g1.trans a1) g2'⟩
    have hp : pushW W = (W.1, W.2.1, 20, (fun j => if j = 19 then woS W else woF W (j + 1)), W.2.2.2.2) := by unfold pushW; rw [if_neg c, if_neg c]
    rw [hp]
    refine h.past (fun q k a b => lvR_q (fun la k c1 c2 => g2' la k c1 (fun x => c2 x.1)) q k a b) (by omega) g3 (fun j hj => ?_)
    by_cases cj : j = 19
    · rw [if_pos cj, cj, g4, ← hst]
      exact rdX_cong (fun q k _ _ => by rw [gI, if_neg (by simp), a2 _ _ (by simp; omega)]) (fun k _ => by rw [gI, if_neg (by simp), a2 _ _ (by simp)])
    · rw [if_neg cj, ← h10 (j + 1) (by omega)]
      funext x y
      have hk : ∀ i, i < 28 → D'.1 (11, 0, 45, 0) (28 * j + i) = D.1 (11, 0, 45, 0) (28 * (j + 1) + i) := fun i hi => by
        rw [g5 _ (by omega), gI, if_neg (by simp), a3 _ (by omega), show 28 * j + i + 28 = 28 * (j + 1) + i by omega]
      simp only [rdP]
      by_cases c1 : x < 5 ∧ y < 5
      · rw [if_pos c1, if_pos c1]
        exact hk _ (by omega)
      · rw [if_neg c1, if_neg c1]
        by_cases c2 : x = 5 ∧ y < 3
        · rw [if_pos c2, if_pos c2]
          exact hk _ (by omega)
        · rw [if_neg c2, if_neg c2]
