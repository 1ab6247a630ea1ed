/-! ===== all that is kept, told once for both ===== -/
/-- there, rate, stale, LANDS, men, sun, hay, told -/
abbrev Shp : Type := Bool × Int32 × Int32 × Nat × (Nat → Int32) × (Nat → Int32) × (Nat → Int32) × (Nat → Nat → Int32)
def shN (h : Shp) : Nat := h.2.2.2.1
def shTl (h : Shp) : Nat → Nat → Int32 := h.2.2.2.2.2.2.2
def begS (h : Shp) : St := fun q k => if q < 5 ∧ k < 5 then (if q = 0 then h.2.2.2.2.1 k else if q = 1 then h.2.2.2.2.2.1 k else if q = 2 then h.2.2.2.2.2.2.1 k else if q = 3 then 0 else -1) else if q = 5 ∧ k < 3 then (if k = 0 then h.2.1 else 0) else 0
def RCs (D : Dt) (x : Nat) (h : Shp) : Prop := D.1 (5, x, 0, 0) 0 = (if h.1 then 1 else 0) ∧ D.1 (5, x, 0, 0) 1 = h.2.1 ∧ D.1 (5, x, 0, 0) 2 = h.2.2.1 ∧ D.1 (5, x, 0, 0) 3 = nI (shN h) ∧ (∀ k, k < 5 → D.1 (5, x, 5, 0) k = h.2.2.2.2.1 k ∧ D.1 (5, x, 6, 0) k = h.2.2.2.2.2.1 k ∧ D.1 (5, x, 7, 0) k = h.2.2.2.2.2.2.1 k) ∧ (∀ k v, k < 5 → v < 61 → D.1 (5, x, 8, k + 1) v = shTl h k v) ∧ (h.1 = true → ∀ k v, k < 5 → v < 61 → D.1 (5, x, 9, k + 1) v = soP (shTl h k) v)
theorem RCs.sm {S : LA → Nat → Bool} {D D' : Dt} {x : Nat} {h : Shp} (r : RCs D x h) (hs : Sm S D D') (hz : ∀ a b k, S (5, x, a, b) k = false) : RCs D' x h := by
  obtain ⟨h1, h2, h3, h4, h5, h6, h7⟩ := r
  refine ⟨?_, ?_, ?_, ?_, ?_, ?_, ?_⟩
  · rw [hs.i (hz _ _ _), h1]
  · rw [hs.i (hz _ _ _), h2]
  · rw [hs.i (hz _ _ _), h3]
  · rw [hs.i (hz _ _ _), h4]
  · intro k hk
    rw [hs.i (hz _ _ _), hs.i (hz _ _ _), hs.i (hz _ _ _)]
    exact h5 k hk
  · intro k v hk hv
    rw [hs.i (hz _ _ _)]
    exact h6 k v hk hv
  · intro ht k v hk hv
    rw [hs.i (hz _ _ _)]
    exact h7 ht k v hk hv
/-- sheet, state, ACTS kept and what they kept, NOTES (week, land, from), force, drawn -/
abbrev Wo : Type := Shp × St × Nat × (Nat → St) × Nat × (Nat → Int32) × (Nat → Int32) × (Nat → Int32) × Int32 × Int32
def woH (W : Wo) : Shp := W.1
def woS (W : Wo) : St := W.2.1
def woP (W : Wo) : Nat := W.2.2.1
def woF (W : Wo) : Nat → St := W.2.2.2.1
def woN (W : Wo) : Nat := W.2.2.2.2.1
def woNw (W : Wo) : Nat → Int32 := W.2.2.2.2.2.1
def woNl (W : Wo) : Nat → Int32 := W.2.2.2.2.2.2.1
def woNf (W : Wo) : Nat → Int32 := W.2.2.2.2.2.2.2.1
def woC (W : Wo) : Int32 := W.2.2.2.2.2.2.2.2.1
def woD (W : Wo) : Int32 := W.2.2.2.2.2.2.2.2.2
def Pm (D : Dt) (w : Nat) (p : Nat → Nat) : Prop := (∀ j, j < 20 → p j < 20 ∧ D.2.2 (0, w, 1, 0) j = some (21 * w + 1 + p j)) ∧ ∀ i j, i < 20 → j < 20 → p i = p j → i = j
def RCw (D : Dt) (w : Nat) (W : Wo) : Prop := RCs D w (woH W) ∧ rdS D (21 * w) = woS W ∧ woP W ≤ 20 ∧ D.1 (0, w, 0, 0) 1 = nI (woP W) ∧ (∃ p, Pm D w p ∧ ∀ j, j < woP W → rdS D (21 * w + 1 + p j) = woF W j) ∧ woN W ≤ 10 ∧ D.1 (9, w, 0, 0) 6 = nI (woN W) ∧ (∀ j, j < woN W → D.1 (9, w, 4, 0) j = woNw W j ∧ D.1 (9, w, 5, 0) j = woNl W j ∧ D.1 (9, w, 6, 0) j = woNf W j) ∧ D.1 (9, w, 0, 0) 7 = woC W ∧ D.1 (9, w, 0, 0) 8 = woD W
def wcl (w : Nat) (la : LA) : Bool := (la.1 == 0 && la.2.1 == w) || (la.1 == 5 && la.2.1 == w) || (la.1 == 9 && la.2.1 == w) || (la.1 == 6 && decide (21 * w ≤ la.2.1 ∧ la.2.1 < 21 * w + 21))
theorem Pm.sm {S : LA → Nat → Bool} {D D' : Dt} {w : Nat} {p : Nat → Nat} (r : Pm D w p) (hs : Sm S D D') (hz : ∀ k, S (0, w, 1, 0) k = false) : Pm D' w p := ⟨fun j hj => by rw [hs.r (hz j)]; exact r.1 j hj, r.2⟩
theorem RCw.sm {S : LA → Nat → Bool} {D D' : Dt} {w : Nat} {W : Wo} (r : RCw D w W) (hs : Sm S D D') (hz : ∀ la k, wcl w la = true → S la k = false) : RCw D' w W := by
  obtain ⟨h1, h2, h3, h4, ⟨p, h5, h6⟩, h7, h8, h9, h10, h11⟩ := r
  have z0 : ∀ a b k, S (0, w, a, b) k = false := fun a b k => hz _ _ (by simp [wcl])
  have z5 : ∀ a b k, S (5, w, a, b) k = false := fun a b k => hz _ _ (by simp [wcl])
  have z9 : ∀ a b k, S (9, w, a, b) k = false := fun a b k => hz _ _ (by simp [wcl])
  have z6 : ∀ i a b k, 21 * w ≤ i → i < 21 * w + 21 → S (6, i, a, b) k = false := fun i a b k g1 g2 => hz _ _ (by simp [wcl, g1, g2])
  refine ⟨h1.sm hs z5, ?_, h3, ?_, ⟨p, h5.sm hs (fun k => z0 _ _ _), fun j hj => ?_⟩, h7, ?_, fun j hj => ?_, ?_, ?_⟩
  · rw [rdS_sm hs (fun q k => z6 _ _ _ _ (by omega) (by omega)), h2]
  · rw [hs.i (z0 _ _ _), h4]
  · have := (h5.1 j (by omega)).1
    rw [rdS_sm hs (fun q k => z6 _ _ _ _ (by omega) (by omega)), h6 j hj]
  · rw [hs.i (z9 _ _ _), h8]
  · rw [hs.i (z9 _ _ _), hs.i (z9 _ _ _), hs.i (z9 _ _ _)]
    exact h9 j hj
  · rw [hs.i (z9 _ _ _), h10]
  · rw [hs.i (z9 _ _ _), h11]
/-! the reference keeps it in rows -/
def roL (q : Nat) : Nat := if q = 0 then 9 else if q ≤ 5 then 5 else if q = 6 then 1 else if q = 7 then 305 else if q ≤ 10 then 10 else if q ≤ 13 then 5 else 560
def roO (q : Nat) : Nat := if q = 0 then 0 else if q ≤ 5 then 5 * q + 4 else if q = 6 then 34 else if q = 7 then 35 else if q ≤ 10 then 10 * q + 260 else if q ≤ 13 then 5 * q + 315 else 385
def lvR (D : Dt) : Nat → Nat → Int32 := fun q k => if q = 0 then D.1 (11, 0, 2, 0) k else if q ≤ 5 then D.1 (11, 0, q + 2, 0) k else if q = 6 then D.1 (11, 0, 0, 0) 46 else if q ≤ 13 then D.1 (11, 0, q + 1, 0) k else D.1 (11, 0, 45, 0) k
def imR (D : Dt) (i : Nat) : Nat → Nat → Int32 := fun q k => D.1 (11, 0, 55, 0) (1000 * i + (roO q + k))
def rdR (R : Nat → Nat → Int32) : St := fun q k => if q < 5 ∧ k < 5 then R (q + 1) k else if q = 5 ∧ k < 3 then R 0 (k + 3) else 0
def rdP (R : Nat → Nat → Int32) (j : Nat) : St := fun q k => if q < 5 ∧ k < 5 then R 14 (28 * j + (3 + 5 * q + k)) else if q = 5 ∧ k < 3 then R 14 (28 * j + k) else 0
def RW (R : Nat → Nat → Int32) (W : Wo) : Prop := R 0 0 = (woH W).2.1 ∧ R 0 1 = (woH W).2.2.1 ∧ R 0 2 = nI (shN (woH W)) ∧ rdR R = woS W ∧ R 0 6 = nI (woN W) ∧ R 0 7 = woD W ∧ R 0 8 = woC W ∧ woP W ≤ 20 ∧ R 6 0 = nI (woP W) ∧ (∀ j, j < woP W → rdP R j = woF W j) ∧ (∀ k v, k < 5 → v < 61 → R 7 (61 * k + v) = shTl (woH W) k v) ∧ woN W ≤ 10 ∧ (∀ j, j < woN W → R 8 j = woNw W j ∧ R 9 j = woNl W j ∧ R 10 j = woNf W j) ∧ (∀ k, k < 5 → R 11 k = (woH W).2.2.2.2.1 k ∧ R 12 k = (woH W).2.2.2.2.2.1 k ∧ R 13 k = (woH W).2.2.2.2.2.2.1 k)
theorem rdR_cong {R R' : Nat → Nat → Int32} (h : ∀ q k, q < 6 → k < roL q → R' q k = R q k) : rdR R' = rdR R := by
  funext x y
  simp only [rdR]
  by_cases c : x < 5 ∧ y < 5
  · rw [if_pos c, if_pos c]
    refine h _ _ (by omega) ?_
    have e1 : ¬ x + 1 = 0 := by omega
    have e2 : x + 1 ≤ 5 := by omega
    simp only [roL, e1, e2, if_true, if_false]
    exact c.2
  · rw [if_neg c, if_neg c]
    by_cases c2 : x = 5 ∧ y < 3
    · rw [if_pos c2, if_pos c2]
      refine h _ _ (by omega) ?_
      simp only [roL, if_true]
      omega
    · rw [if_neg c2, if_neg c2]
theorem rdP_cong {R R' : Nat → Nat → Int32} {j : Nat} (hj : j < 20) (h : ∀ k, k < 560 → R' 14 k = R 14 k) : rdP R' j = rdP R j := by
  funext x y
  simp only [rdP]
  by_cases c : x < 5 ∧ y < 5
  · rw [if_pos c, if_pos c]
    exact h _ (by omega)
  · rw [if_neg c, if_neg c]
    by_cases c2 : x = 5 ∧ y < 3
    · rw [if_pos c2, if_pos c2]
      exact h _ (by omega)
    · rw [if_neg c2, if_neg c2]
theorem RW.cong {R R' : Nat → Nat → Int32} {W : Wo} (r : RW R W) (h : ∀ q k, q < 15 → k < roL q → R' q k = R q k) : RW R' W := by
  obtain ⟨h1, h2, h3, h4, h5, h6, h7, h8, h9, h10, h11, h12, h13, h14⟩ := r
  have z : ∀ q k, q < 15 → k < roL q → R' q k = R q k := h
  have l0 : roL 0 = 9 := rfl
  have l6 : roL 6 = 1 := rfl
  have l7 : roL 7 = 305 := rfl
  have l8 : roL 8 = 10 := rfl
  have l9 : roL 9 = 10 := rfl
  have l10 : roL 10 = 10 := rfl
  have l11 : roL 11 = 5 := rfl
  have l12 : roL 12 = 5 := rfl
  have l13 : roL 13 = 5 := rfl
  have l14 : roL 14 = 560 := rfl
  refine ⟨?_, ?_, ?_, ?_, ?_, ?_, ?_, h8, ?_, fun j hj => ?_, fun k v hk hv => ?_, h12, fun j hj => ?_, fun k hk => ?_⟩
  · rw [z 0 0 (by omega) (by omega), h1]
  · rw [z 0 1 (by omega) (by omega), h2]
  · rw [z 0 2 (by omega) (by omega), h3]
  · rw [rdR_cong (fun q k hq hk => z q k (by omega) hk), h4]
  · rw [z 0 6 (by omega) (by omega), h5]
  · rw [z 0 7 (by omega) (by omega), h6]
  · rw [z 0 8 (by omega) (by omega), h7]
  · rw [z 6 0 (by omega) (by omega), h9]
  · rw [rdP_cong (by omega) (fun k hk => z 14 k (by omega) (by omega)), h10 j hj]
  · rw [z 7 _ (by omega) (by omega), h11 k v hk hv]
  · rw [z 8 j (by omega) (by omega), z 9 j (by omega) (by omega), z 10 j (by omega) (by omega)]
    exact h13 j hj
  · rw [z 11 k (by omega) (by omega), z 12 k (by omega) (by omega), z 13 k (by omega) (by omega)]
    exact h14 k hk
theorem lvR_rd {D : Dt} : rdR (lvR D) = rdM D := by
  funext x y
  simp only [rdR, rdM, rdX, lvR]
  by_cases c : x < 5 ∧ y < 5
  · have e1 : ¬ x + 1 = 0 := by omega
    have e2 : x + 1 ≤ 5 := by omega
    rw [if_pos c, if_pos c, if_neg e1, if_pos e2]
  · rw [if_neg c, if_neg c]
    rfl
/-! all: the WORLD, IMAGES, RULES, the TAPE -/
abbrev Al : Type := Wo × (Nat → Option Wo) × Nat × (Nat → Rl) × Nat × (Nat → Nat)
def alW (A : Al) : Wo := A.1
def alI (A : Al) : Nat → Option Wo := A.2.1
def alN (A : Al) : Nat := A.2.2.1
def alR (A : Al) : Nat → Rl := A.2.2.2.1
def alL (A : Al) : Nat := A.2.2.2.2.1
def alB (A : Al) : Nat → Nat := A.2.2.2.2.2
def okW (W : Wo) (nr : Nat) : Prop := shN (woH W) ≤ 5 ∧ bw (woH W).2.2.1 9 ∧ (∀ k v, bw (shTl (woH W) k v) 100) ∧ ((woH W).1 = true ↔ 0 < (woH W).2.1) ∧ ((woH W).1 = false → shN (woH W) = 0) ∧ Gd (shN (woH W)) (begS (woH W)) ∧ (Gd (shN (woH W)) (woS W) ∧ ∃ w, w ≤ 999 ∧ woS W 5 1 = nI w) ∧ (∀ j, j < woP W → Gd (shN (woH W)) (woF W j) ∧ ∃ w, w ≤ 999 ∧ woF W j 5 1 = nI w) ∧ (∀ j, j < woN W → (∃ x, x ≤ 60 ∧ woNw W j = nI x) ∧ ∃ x, x < shN (woH W) ∧ woNl W j = nI x) ∧ (woC W = -1 ∨ ∃ r, r < nr ∧ woC W = nI r) ∧ 0 ≤ woD W
def okA (A : Al) : Prop := okW (alW A) (alN A) ∧ (∀ k W, k < 4 → alI A k = some W → okW W (alN A)) ∧ alN A ≤ 6 ∧ (∀ r, r < alN A → RWf (alR A r)) ∧ alL A ≤ 400 ∧ ∀ k, alB A k < 256
def RC (D : Dt) (A : Al) : Prop := RCw D 0 (alW A) ∧ (∀ w, w < 5 → ∃ p, Pm D w p) ∧ (∀ k, k < 4 → D.1 (10, 0, 9, 0) k = (if (alI A k).isSome then 1 else 0)) ∧ (∀ k W, k < 4 → alI A k = some W → RCw D (k + 1) W) ∧ D.1 (10, 0, 0, 0) 5 = nI (alN A) ∧ (∀ r, r < alN A → CR D r (alR A r)) ∧ D.1 (2, 0, 0, 0) 1 = nI (alL A) ∧ (∀ k, k < alL A → D.1 (2, 0, 1, 0) k = nI (alB A k))
def sgb (n : Nat) : Int32 := if n < 128 then nI n else nI n - 256
def RM (D : Dt) (A : Al) : Prop := RW (lvR D) (alW A) ∧ (∀ k, k < 4 → D.1 (11, 0, 56, 0) k = (if (alI A k).isSome then 1 else 0)) ∧ (∀ k W, k < 4 → alI A k = some W → RW (imR D k) W) ∧ D.1 (11, 0, 0, 0) 23 = nI (alN A) ∧ (∀ r, r < alN A → MR D r (alR A r)) ∧ D.1 (11, 0, 0, 0) 19 = nI (alL A) ∧ (∀ k, k < alL A → D.1 (11, 0, 30, 0) k = sgb (alB A k)) ∧ D.1 (11, 0, 0, 0) 39 = 0 ∧ D.1 (11, 0, 0, 0) 40 = -1 ∧ D.1 (11, 0, 0, 0) 42 = 0 ∧ D.1 (11, 0, 0, 0) 28 = 12
def cS : LA → Nat → Bool := fun la _ => !(la.1 == 11)
def mS : LA → Nat → Bool := fun la _ => la.1 == 11
theorem RC.fr {D D' : Dt} {A : Al} (r : RC D A) (hs : Sm mS D D') : RC D' A := by
  obtain ⟨h1, h2, h3, h4, h5, h6, h7, h8⟩ := r
  have z : ∀ (la : LA) k, ¬ la.1 = 11 → mS la k = false := fun la k h => by simp [mS, h]
  have zw : ∀ w (la : LA) k, wcl w la = true → mS la k = false := by
    intro w la k h
    refine z la k (fun e => ?_)
    simp [wcl, e] at h
  refine ⟨h1.sm hs (zw 0), fun w hw => ?_, fun k hk => ?_, fun k W hk hW => (h4 k W hk hW).sm hs (zw _), ?_, fun r hr => (h6 r hr).sm hs (fun q k _ => z _ _ (by simp)), ?_, fun k hk => ?_⟩
  · obtain ⟨p, hp⟩ := h2 w hw
    exact ⟨p, hp.sm hs (fun k => z _ _ (by simp))⟩
  · rw [hs.i (z _ _ (by simp)), h3 k hk]
  · rw [hs.i (z _ _ (by simp)), h5]
  · rw [hs.i (z _ _ (by simp)), h7]
  · rw [hs.i (z _ _ (by simp)), h8 k hk]
theorem lvR_sm {D D' : Dt} (h : ∀ q k, D'.1 (11, 0, q, 0) k = D.1 (11, 0, q, 0) k) : lvR D' = lvR D := by
  funext q k
  simp only [lvR, h]
theorem RM.fr {D D' : Dt} {A : Al} (r : RM D A) (hs : Sm cS D D') : RM D' A := by
  obtain ⟨h1, h2, h3, h4, h5, h6, h7, h8, h9, h10, h11⟩ := r
  have z : ∀ q k, D'.1 (11, 0, q, 0) k = D.1 (11, 0, q, 0) k := fun q k => hs.i (by simp [cS])
  refine ⟨by rw [lvR_sm z]; exact h1, ?_, ?_, by rw [z]; exact h4, fun r hr => (h5 r hr).sm hs (fun q k _ _ => by simp [cS]), by rw [z]; exact h6, ?_, by rw [z]; exact h8, by rw [z]; exact h9, by rw [z]; exact h10, by rw [z]; exact h11⟩
  · intro k hk
    rw [z]
    exact h2 k hk
  · intro k W hk hW
    have : imR D' k = imR D k := by funext q j; simp only [imR, z]
    rw [this]
    exact h3 k W hk hW
  · intro k hk
    rw [z]
    exact h7 k hk
/-! one call -/
def Cal (fc : Dt → Option (Int32 × Dt)) (fm : Dt → Option (Int32 × Dt)) : Prop := ∀ (D : Dt) (A : Al), okA A → RC D A → RM D A → ∃ r D1 D2 A', fc D = some (r, D1) ∧ fm D1 = some (r, D2) ∧ okA A' ∧ RC D2 A' ∧ RM D2 A'
theorem cal_of {fc fm : Dt → Option (Int32 × Dt)} (h : ∀ A, okA A → ∃ r A', okA A' ∧ (∀ D, RC D A → ∃ D', fc D = some (r, D') ∧ RC D' A' ∧ Sm cS D D') ∧ (∀ D, RM D A → ∃ D', fm D = some (r, D') ∧ RM D' A' ∧ Sm mS D D')) : Cal fc fm := by
  intro D A hA hc hm
  obtain ⟨r, A', ok, h1, h2⟩ := h A hA
  obtain ⟨D1, e1, c1, s1⟩ := h1 D hc
  obtain ⟨D2, e2, m2, s2⟩ := h2 D1 (hm.fr s1)
  exact ⟨r, D1, D2, A', e1, e2, ok, c1.fr s2, m2⟩
