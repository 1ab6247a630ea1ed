theorem lpC {α : Type} (L : Nat → Nat → Dt → Option α) (P : Nat → Dt → Prop) (n : Nat) (kk : Dt → Option α) (hs : ∀ fu j D, j < n → P j D → ∃ D', P (j + 1) D' ∧ L (fu + 1) j D = L fu (j + 1) D') (he : ∀ fu D, P n D → L (fu + 1) n D = kk D) : ∀ m fu j D, j + m = n → m < fu → P j D → ∃ D', P n D' ∧ L fu j D = kk D' := by
  intro m
  induction m with
  | zero =>
    intro fu j D hj hf h
    obtain ⟨fu, rfl⟩ : ∃ g, fu = g + 1 := ⟨fu - 1, by omega⟩
    have : j = n := by omega
    subst this
    exact ⟨D, h, he fu D h⟩
  | succ m ih =>
    intro fu j D hj hf h
    obtain ⟨fu, rfl⟩ : ∃ g, fu = g + 1 := ⟨fu - 1, by omega⟩
    obtain ⟨D1, h1, e1⟩ := hs fu j D (by omega) h
    obtain ⟨D2, h2, e2⟩ := ih fu (j + 1) D1 (by omega) (by omega) h1
    exact ⟨D2, h2, e1.trans e2⟩
def caS (la : LA) (k : Nat) : Bool := la == (11, 0, 0, 0) && (k == 56 || k == 57)
theorem r_carF {a1 : LA} {n z : Nat} {D : Dt} (hv : V a1 = true) (hsh : sh a1 = .inr (0, n)) (hne : a1 ≠ (11, 0, 55, 0)) (hne2 : a1 ≠ (11, 0, 0, 0)) (hz : z + n ≤ 5000) (hn : n < 1000) (hg : D.1 (11, 0, 0, 0) 57 = 0) (hat : D.1 (11, 0, 0, 0) 56 = nI z) : ∃ D', F_X11_carryRow a1 D = some D' ∧ D'.2 = D.2 ∧ D'.1 (11, 0, 0, 0) 56 = nI (z + n) ∧ (∀ la k, la ≠ (11, 0, 55, 0) → ¬ (la = (11, 0, 0, 0) ∧ k = 56) → D'.1 la k = D.1 la k) ∧ (∀ k, k < n → D'.1 (11, 0, 55, 0) (z + k) = D.1 a1 k) ∧ (∀ k, (k < z ∨ z + n ≤ k) → D'.1 (11, 0, 55, 0) k = D.1 (11, 0, 55, 0) k) := by
  have hl : lenOf a1 = n := by simp only [lenOf, hsh]
  rw [F_X11_carryRow, grd_t ⟨hv, by rw [hl]; exact hsh⟩]
  obtain ⟨D', h, e⟩ := lpC (fun fu j D => F_X11_carryRow_b2 a1 fu (nI j) D) (fun j E => E.2 = D.2 ∧ E.1 (11, 0, 0, 0) 56 = nI (z + j) ∧ (∀ la k, la ≠ (11, 0, 55, 0) → ¬ (la = (11, 0, 0, 0) ∧ k = 56) → E.1 la k = D.1 la k) ∧ (∀ k, k < j → E.1 (11, 0, 55, 0) (z + k) = D.1 a1 k) ∧ (∀ k, (k < z ∨ z + j ≤ k) → E.1 (11, 0, 55, 0) k = D.1 (11, 0, 55, 0) k)) n some (by
    intro fu j E hj ⟨h1, h2, h3, h4, h5⟩
    have hg2 : E.1 (11, 0, 0, 0) 57 = 0 := by rw [h3 _ _ (by simp) (by simp), hg]
    refine ⟨setI (setI E (11, 0, 55, 0) (z + j) (E.1 a1 j)) (11, 0, 0, 0) 56 (nI (z + (j + 1))), ⟨h1, ?_, ?_, ?_, ?_⟩, ?_⟩
    · rw [gI, if_pos ⟨rfl, rfl⟩]
    · intro la k g1 g2
      rw [gI, if_neg g2, gI, if_neg (fun h => g1 h.1), h3 la k g1 g2]
    · intro k hk
      rw [gI, if_neg (by simp), gI]
      by_cases c : k = j
      · subst c
        rw [if_pos ⟨rfl, rfl⟩, h3 _ _ hne (fun h => hne2 h.1)]
      · rw [if_neg (by omega), h4 k (by omega)]
    · intro k hk
      rw [gI, if_neg (by simp), gI, if_neg (by omega), h5 k (by omega)]
    · show F_X11_carryRow_b2 a1 (fu + 1) (nI j) E = F_X11_carryRow_b2 a1 fu (nI (j + 1)) _
      rw [F_X11_carryRow_b2, hl, if_neg (show ¬ Int32.ofNat n ≤ nI j from nI_ge hj (by omega)), hg2, if_pos rfl, grd_t (inBe hj (by omega)), h2, grd_t (inBe (by omega) (by decide)), nIc (by omega), nIc (by omega)]
      simp only [F_X11_carryRow_b42, bnd_e, nI_1]
      rw [gI, if_neg (by simp), h2, nI_1]
      rfl) (by
    intro fu E _
    show F_X11_carryRow_b2 a1 (fu + 1) (nI n) E = _
    rw [F_X11_carryRow_b2, hl, if_pos (show Int32.ofNat n ≤ nI n from nI_le (Nat.le_refl _) (by omega))]) n 2000 0 D (by omega) (by omega) ⟨rfl, hat, fun _ _ _ _ => rfl, fun k hk => absurd hk (by omega), fun _ _ => rfl⟩
  exact ⟨D', e, h⟩
theorem r_carB {a1 : LA} {n z : Nat} {D : Dt} (hv : V a1 = true) (hsh : sh a1 = .inr (0, n)) (hne : a1 ≠ (11, 0, 55, 0)) (hne2 : a1 ≠ (11, 0, 0, 0)) (hz : z + n ≤ 5000) (hn : n < 1000) (hg : D.1 (11, 0, 0, 0) 57 = 1) (hat : D.1 (11, 0, 0, 0) 56 = nI z) : ∃ D', F_X11_carryRow a1 D = some D' ∧ D'.2 = D.2 ∧ D'.1 (11, 0, 0, 0) 56 = nI (z + n) ∧ (∀ la k, la ≠ a1 → ¬ (la = (11, 0, 0, 0) ∧ k = 56) → D'.1 la k = D.1 la k) ∧ (∀ k, k < n → D'.1 a1 k = D.1 (11, 0, 55, 0) (z + k)) ∧ (∀ k, n ≤ k → D'.1 a1 k = D.1 a1 k) := by
  have hl : lenOf a1 = n := by simp only [lenOf, hsh]
  rw [F_X11_carryRow, grd_t ⟨hv, by rw [hl]; exact hsh⟩]
  obtain ⟨D', h, e⟩ := lpC (fun fu j D => F_X11_carryRow_b2 a1 fu (nI j) D) (fun j E => E.2 = D.2 ∧ E.1 (11, 0, 0, 0) 56 = nI (z + j) ∧ (∀ la k, la ≠ a1 → ¬ (la = (11, 0, 0, 0) ∧ k = 56) → E.1 la k = D.1 la k) ∧ (∀ k, k < j → E.1 a1 k = D.1 (11, 0, 55, 0) (z + k)) ∧ (∀ k, j ≤ k → E.1 a1 k = D.1 a1 k)) n some (by
    intro fu j E hj ⟨h1, h2, h3, h4, h5⟩
    have hg2 : E.1 (11, 0, 0, 0) 57 = 1 := by rw [h3 _ _ (fun h => hne2 h.symm) (by simp), hg]
    refine ⟨setI (setI E a1 j (E.1 (11, 0, 55, 0) (z + j))) (11, 0, 0, 0) 56 (nI (z + (j + 1))), ⟨h1, ?_, ?_, ?_, ?_⟩, ?_⟩
    · rw [gI, if_pos ⟨rfl, rfl⟩]
    · intro la k g1 g2
      rw [gI, if_neg g2, gI, if_neg (fun h => g1 h.1), h3 la k g1 g2]
    · intro k hk
      rw [gI, if_neg (fun h => hne2 h.1), gI]
      by_cases c : k = j
      · subst c
        rw [if_pos ⟨rfl, rfl⟩, h3 _ _ (fun h => hne h.symm) (by simp)]
      · rw [if_neg (by omega), h4 k (by omega)]
    · intro k hk
      rw [gI, if_neg (fun h => hne2 h.1), gI, if_neg (by omega), h5 k (by omega)]
    · show F_X11_carryRow_b2 a1 (fu + 1) (nI j) E = F_X11_carryRow_b2 a1 fu (nI (j + 1)) _
      rw [F_X11_carryRow_b2, hl, if_neg (show ¬ Int32.ofNat n ≤ nI j from nI_ge hj (by omega)), hg2, if_neg (by decide), h2, grd_t (inBe (by omega) (by decide)), grd_t (inBe hj (by omega)), nIc (by omega), nIc (by omega)]
      simp only [F_X11_carryRow_b42, bnd_e, nI_1]
      rw [gI, if_neg (fun h => hne2 h.1.symm), h2, nI_1]
      rfl) (by
    intro fu E _
    show F_X11_carryRow_b2 a1 (fu + 1) (nI n) E = _
    rw [F_X11_carryRow_b2, hl, if_pos (show Int32.ofNat n ≤ nI n from nI_le (Nat.le_refl _) (by omega))]) n 2000 0 D (by omega) (by omega) ⟨rfl, hat, fun _ _ _ _ => rfl, fun k hk => absurd hk (by omega), fun _ _ => rfl⟩
  exact ⟨D', e, h⟩
/-! row after row -/
def lvA (q : Nat) : LA := if q = 0 then (11, 0, 2, 0) else if q ≤ 5 then (11, 0, q + 2, 0) else if q = 6 then (11, 0, 46, 0) else if q ≤ 13 then (11, 0, q + 1, 0) else (11, 0, 45, 0)
/-- rows 0 .. q - 1 are put behind z -/
def Fq (z : Nat) (D0 D : Dt) (q : Nat) : Prop := D.2 = D0.2 ∧ D.1 (11, 0, 0, 0) 57 = 0 ∧ D.1 (11, 0, 0, 0) 56 = nI (z + roO q) ∧ (∀ la k, la ≠ (11, 0, 55, 0) → la ≠ (11, 0, 46, 0) → ¬ (la = (11, 0, 0, 0) ∧ (k = 56 ∨ k = 57)) → D.1 la k = D0.1 la k) ∧ (∀ q' k, q' < q → k < roL q' → D.1 (11, 0, 55, 0) (z + (roO q' + k)) = lvR D0 q' k) ∧ (∀ k, (k < z ∨ z + roO q ≤ k) → D.1 (11, 0, 55, 0) k = D0.1 (11, 0, 55, 0) k)
theorem roO_s : ∀ q, q < 15 → roO (q + 1) = roO q + roL q ∨ q = 14 := by decide
theorem roO_m : ∀ q q', q' < q → q < 15 → roO q' + roL q' ≤ roO q := by
  have : ∀ q, q < 15 → ∀ q', q' < q → roO q' + roL q' ≤ roO q := by decide
  exact fun q q' h h2 => this q h2 q' h
def roE (q : Nat) : Nat := if q = 15 then 945 else roO q
def Fq' (z : Nat) (D0 D : Dt) (q : Nat) : Prop := D.2 = D0.2 ∧ D.1 (11, 0, 0, 0) 57 = 0 ∧ D.1 (11, 0, 0, 0) 56 = nI (z + roE q) ∧ (∀ la k, la ≠ (11, 0, 55, 0) → la ≠ (11, 0, 46, 0) → ¬ (la = (11, 0, 0, 0) ∧ (k = 56 ∨ k = 57)) → D.1 la k = D0.1 la k) ∧ (∀ q' k, q' < q → k < roL q' → D.1 (11, 0, 55, 0) (z + (roO q' + k)) = lvR D0 q' k) ∧ (∀ k, (k < z ∨ z + roE q ≤ k) → D.1 (11, 0, 55, 0) k = D0.1 (11, 0, 55, 0) k)
theorem roE_s : ∀ q, q < 15 → roE (q + 1) = roE q + roL q := by decide
theorem roE_m : ∀ q q', q' < q → q < 16 → roO q' + roL q' ≤ roE q := by
  have : ∀ q, q < 16 → ∀ q', q' < q → roO q' + roL q' ≤ roE q := by decide
  exact fun q q' h h2 => this q h2 q' h
theorem roE_b : ∀ q, q < 16 → roE q ≤ 945 := by decide
theorem roE_o : ∀ q, q < 15 → roE q = roO q := by decide
theorem roL_b : ∀ q, q < 15 → roL q < 1000 := by decide
theorem lvA_sh : ∀ q, q < 15 → V (lvA q) = true ∧ sh (lvA q) = .inr (0, roL q) ∧ lvA q ≠ (11, 0, 55, 0) ∧ lvA q ≠ (11, 0, 0, 0) := by decide
theorem lvA_46 : ∀ q, q < 15 → q ≠ 6 → lvA q ≠ (11, 0, 46, 0) := by decide
theorem lvA_lv {D : Dt} {k : Nat} (q : Nat) (hq : q < 15) (h6 : q ≠ 6) : D.1 (lvA q) k = lvR D q k := by
  unfold lvA lvR
  by_cases c0 : q = 0
  · rw [if_pos c0, if_pos c0]
  · rw [if_neg c0, if_neg c0]
    by_cases c1 : q ≤ 5
    · rw [if_pos c1, if_pos c1]
    · rw [if_neg c1, if_neg c1, if_neg h6, if_neg h6]
      by_cases c2 : q ≤ 13
      · rw [if_pos c2, if_pos c2]
      · rw [if_neg c2, if_neg c2]
theorem Fq_step {z : Nat} {D0 D : Dt} (q : Nat) (hz : z + 945 ≤ 5000) (hq : q < 15) (hlv : ∀ k, k < roL q → D.1 (lvA q) k = lvR D0 q k) (h : Fq' z D0 D q) : ∃ D', F_X11_carryRow (lvA q) D = some D' ∧ Fq' z D0 D' (q + 1) ∧ (∀ k, D'.1 (11, 0, 46, 0) k = D.1 (11, 0, 46, 0) k) := by
  obtain ⟨h1, h2, h3, h4, h5, h6⟩ := h
  obtain ⟨a1, a2, a3, a4⟩ := lvA_sh q hq
  have hb := roE_b (q + 1) (by omega)
  have hs := roE_s q hq
  obtain ⟨D', e, g1, g2, g3, g4, g5⟩ := r_carF (z := z + roE q) a1 a2 a3 a4 (by omega) (roL_b q hq) h2 h3
  refine ⟨D', e, ⟨g1.trans h1, ?_, ?_, ?_, ?_, ?_⟩, fun k => g3 _ _ (by simp) (by simp)⟩
  · rw [g3 _ _ (by simp) (by simp), h2]
  · rw [g2, hs, Nat.add_assoc]
  · intro la k c1 c2 c3
    rw [g3 la k c1 (fun h => c3 ⟨h.1, Or.inl h.2⟩), h4 la k c1 c2 c3]
  · intro q' k hq' hk
    have eo := roE_o q hq
    by_cases c : q' = q
    · subst c
      have := g4 k hk
      rw [show z + roE q' + k = z + (roO q' + k) by omega] at this
      rw [this, hlv k hk]
    · have := roE_m q q' (by omega) (by omega)
      rw [g5 _ (by omega), h5 q' k (by omega) hk]
  · intro k hk
    rw [g5 k (by omega), h6 k (by omega)]
theorem Fq_plain {z : Nat} {D0 D : Dt} (q : Nat) (hz : z + 945 ≤ 5000) (hq : q < 15) (hq6 : q ≠ 6) (h : Fq' z D0 D q) : ∃ D', F_X11_carryRow (lvA q) D = some D' ∧ Fq' z D0 D' (q + 1) := by
  obtain ⟨D', e, f, _⟩ := Fq_step q hz hq (fun k hk => by
    obtain ⟨_, _, a3, a4⟩ := lvA_sh q hq
    rw [h.2.2.2.1 _ _ a3 (lvA_46 q hq hq6) (fun x => a4 x.1), lvA_lv q hq hq6]) h
  exact ⟨D', e, f⟩
