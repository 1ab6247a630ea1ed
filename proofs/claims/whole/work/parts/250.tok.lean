/-! ===== texts: where a run ends ===== -/
def spn (P : Nat → Bool) : Nat → Nat → Nat
  | 0, p => p
  | m + 1, p => if P p = true then spn P m (p + 1) else p
def spE (P : Nat → Bool) (L p : Nat) : Nat := spn P (L - p) p
theorem spn_b {P : Nat → Bool} : ∀ m p, p ≤ spn P m p ∧ spn P m p ≤ p + m
  | 0, p => ⟨Nat.le_refl _, Nat.le_refl _⟩
  | m + 1, p => by
    rw [spn]
    split
    · have := spn_b (P := P) m (p + 1)
      omega
    · omega
theorem spE_ge {P : Nat → Bool} {L p : Nat} : p ≤ spE P L p := (spn_b _ _).1
theorem spE_le {P : Nat → Bool} {L p : Nat} (h : p ≤ L) : spE P L p ≤ L := by
  have := (spn_b (P := P) (L - p) p).2
  unfold spE
  omega
theorem spE_o {P : Nat → Bool} {L p : Nat} (h : L ≤ p) : spE P L p = p := by
  unfold spE
  rw [show L - p = 0 by omega, spn]
theorem spE_s {P : Nat → Bool} {L p : Nat} (h : p < L) : spE P L p = if P p = true then spE P L (p + 1) else p := by
  unfold spE
  rw [show L - p = (L - (p + 1)) + 1 by omega, spn]
theorem spn_at {P : Nat → Bool} : ∀ m p, spn P m p < p + m → P (spn P m p) = false
  | 0, p, h => absurd h (by rw [spn]; omega)
  | m + 1, p, h => by
    rw [spn] at h ⊢
    by_cases c : P p = true
    · rw [if_pos c] at h ⊢
      exact spn_at m (p + 1) (by omega)
    · rw [if_neg c]
      simpa using c
theorem spE_at {P : Nat → Bool} {L p : Nat} (h : spE P L p < L) : P (spE P L p) = false := by
  by_cases c : p < L
  · exact spn_at (L - p) p (by unfold spE at h; omega)
  · rw [spE_o (by omega)] at h
    omega
theorem spn_in {P : Nat → Bool} : ∀ m p k, p ≤ k → k < spn P m p → P k = true
  | 0, p, k, h, h2 => absurd h2 (by rw [spn]; omega)
  | m + 1, p, k, h, h2 => by
    rw [spn] at h2
    by_cases c : P p = true
    · rw [if_pos c] at h2
      by_cases e : k = p
      · rw [e]; exact c
      · exact spn_in m (p + 1) k (by omega) h2
    · rw [if_neg c] at h2
      omega
theorem spE_in {P : Nat → Bool} {L p k : Nat} (h : p ≤ k) (h2 : k < spE P L p) : P k = true := spn_in _ _ _ h h2
theorem spE_idem {P : Nat → Bool} {L p : Nat} : spE P L (spE P L p) = spE P L p := by
  by_cases c : spE P L p < L
  · rw [spE_s c, spE_at c, if_neg (by decide)]
  · exact spE_o (by omega)
/-- a text: how long, its bytes -/
abbrev Tp : Type := Nat × (Nat → Nat)
def tpL (T : Tp) : Nat := T.1
def tpB (T : Tp) : Nat → Nat := T.2
def isDg (b : Nat) : Bool := decide (48 ≤ b ∧ b ≤ 57)
def isLr (b : Nat) : Bool := decide (97 ≤ b ∧ b ≤ 122)
def sbk (T : Tp) (p : Nat) : Nat := spE (fun k => tpB T k == 32) (tpL T) p
def eDg (T : Tp) (p : Nat) : Nat := spE (fun k => isDg (tpB T k)) (tpL T) p
def eLr (T : Tp) (p : Nat) : Nat := spE (fun k => isLr (tpB T k)) (tpL T) p
def dgv (B : Nat → Nat) (p : Nat) : Nat → Nat
  | 0 => 0
  | n + 1 => 10 * dgv B p n + (B (p + n) - 48)
/-! words -/
def sxL : List Nat := [3, 6, 7, 4, 8, 9, 10, 11, 12, 13, 14, 15, 2, 5, 16, 17, 18, 19]
def sx (k : Nat) : Nat := sxL.getD k 0
def lnS (i : Nat) : Nat := lenS.getD i 0
def chS (i k : Nat) : Nat := ((bytS.getD i []).getD k 0).toNatClampNeg
theorem chS_e : ∀ i, i < 20 → ∀ k, k < lnS i → sChr i (nI k) = nI (chS i k) ∧ chS i k < 128 := by decide +kernel
/-- the String constant i stands from p on, as far as letters go on -/
def mt (T : Tp) (i p : Nat) : Bool := decide (eLr T p - p = lnS i ∧ ∀ k, k < lnS i → tpB T (p + k) = chS i k)
def wcF (T : Tp) (p : Nat) : Nat → Nat → Nat
  | 0, _ => 3
  | m + 1, k => if mt T (sx k) p = true then 20 + k else wcF T p m (k + 1)
def wc (T : Tp) (p : Nat) : Nat := wcF T p 18 0
theorem sx_dif : ∀ k, k < 18 → ∀ j, j < 18 → k ≠ j → lnS (sx k) ≠ lnS (sx j) ∨ ∃ i, i < lnS (sx k) ∧ chS (sx k) i ≠ chS (sx j) i := by decide +kernel
theorem mt_un {T : Tp} {p k j : Nat} (hk : k < 18) (hj : j < 18) (h1 : mt T (sx k) p = true) (h2 : mt T (sx j) p = true) : k = j := by
  by_cases c : k = j
  · exact c
  · unfold mt at h1 h2
    rw [decide_eq_true_eq] at h1 h2
    rcases sx_dif k hk j hj c with h | ⟨i, hi, h⟩
    · exact absurd (h1.1.symm.trans h2.1) h
    · have e : lnS (sx k) = lnS (sx j) := h1.1.symm.trans h2.1
      exact absurd ((h1.2 i hi).symm.trans (h2.2 i (by omega))) h
theorem wcF_hit {T : Tp} {p : Nat} : ∀ m k j, k ≤ j → j < k + m → k + m ≤ 18 → mt T (sx j) p = true → wcF T p m k = 20 + j
  | 0, k, j, h1, h2, _, _ => absurd h2 (by omega)
  | m + 1, k, j, h1, h2, h3, h => by
    rw [wcF]
    by_cases c : mt T (sx k) p = true
    · rw [if_pos c, mt_un (by omega) (by omega) c h]
    · rw [if_neg c]
      have : k ≠ j := fun e => c (by rw [e]; exact h)
      exact wcF_hit m (k + 1) j (by omega) (by omega) (by omega) h
theorem wcF_no {T : Tp} {p : Nat} : ∀ m k, wcF T p m k = 3 ∨ ∃ j, k ≤ j ∧ j < k + m ∧ wcF T p m k = 20 + j ∧ mt T (sx j) p = true
  | 0, k => Or.inl rfl
  | m + 1, k => by
    rw [wcF]
    by_cases c : mt T (sx k) p = true
    · rw [if_pos c]
      exact Or.inr ⟨k, by omega, by omega, rfl, c⟩
    · rw [if_neg c]
      rcases wcF_no (T := T) (p := p) m (k + 1) with h | ⟨j, h1, h2, h3, h4⟩
      · exact Or.inl h
      · exact Or.inr ⟨j, by omega, by omega, h3, h4⟩
theorem wc_b {T : Tp} {p : Nat} : wc T p = 3 ∨ (20 ≤ wc T p ∧ wc T p < 38) := by
  rcases wcF_no (T := T) (p := p) 18 0 with h | ⟨j, h1, h2, h3, _⟩
  · exact Or.inl h
  · unfold wc
    exact Or.inr (by omega)
theorem mt_wc {T : Tp} {p k : Nat} (hk : k < 18) : mt T (sx k) p = true ↔ wc T p = 20 + k := by
  constructor
  · intro h
    exact wcF_hit 18 0 k (by omega) (by omega) (by omega) h
  · intro h
    rcases wcF_no (T := T) (p := p) 18 0 with e | ⟨j, h1, h2, h3, h4⟩
    · unfold wc at h
      omega
    · unfold wc at h
      have : j = k := by omega
      rw [← this]
      exact h4
/-! signs -/
def sgK (b : Nat) : Nat := if b = 59 then 4 else if b = 91 then 5 else if b = 93 then 6 else if b = 43 then 7 else if b = 45 then 8 else if b = 42 then 9 else if b = 47 then 10 else if b = 37 then 11 else if b = 60 then 12 else if b = 61 then 13 else if b = 62 then 14 else 3
theorem sgK_e : ∀ b, b < 256 → (if 0 ≤ sIdx 1 (nI b) then (4 : Int32) + sIdx 1 (nI b) else 3) = nI (sgK b) := by decide +kernel
theorem sgK_b (b : Nat) : 3 ≤ sgK b ∧ sgK b ≤ 14 := by
  unfold sgK
  repeat' split
  all_goals omega
/-- two signs that are one -/
def dbl (T : Tp) (p : Nat) : Bool := decide (p + 1 < tpL T ∧ tpB T (p + 1) = 61 ∧ (sgK (tpB T p) = 12 ∨ sgK (tpB T p) = 14))
/-- what stands at p (not a blank) -/
def kd (T : Tp) (p : Nat) : Nat := if tpL T ≤ p then 0 else if isDg (tpB T p) = true then (if eDg T p - p ≤ 5 then 1 else 2) else if isLr (tpB T p) = true then wc T p else if dbl T p = true then (if sgK (tpB T p) = 12 then 15 else 16) else sgK (tpB T p)
/-- and what is behind it -/
def nx (T : Tp) (p : Nat) : Nat := if tpL T ≤ p then p else if isDg (tpB T p) = true then eDg T p else if isLr (tpB T p) = true then eLr T p else if dbl T p = true then p + 2 else p + 1
def nq (T : Tp) (p : Nat) : Nat := sbk T (nx T p)
theorem kd_0 {T : Tp} {p : Nat} : kd T p = 0 ↔ tpL T ≤ p := by
  unfold kd
  constructor
  · intro h
    by_cases c : tpL T ≤ p
    · exact c
    · rw [if_neg c] at h
      have h1 := sgK_b (tpB T p)
      have h2 := wc_b (T := T) (p := p)
      split at h
      · split at h <;> omega
      · split at h
        · omega
        · split at h
          · split at h <;> omega
          · omega
  · intro h
    rw [if_pos h]
theorem kd_b {T : Tp} {p : Nat} : kd T p ≤ 37 := by
  unfold kd
  have h1 := sgK_b (tpB T p)
  have h2 := wc_b (T := T) (p := p)
  repeat' split
  all_goals omega
theorem nx_gt {T : Tp} {p : Nat} (h : p < tpL T) : p < nx T p ∧ nx T p ≤ tpL T := by
  unfold nx
  rw [if_neg (by omega)]
  split
  · rename_i c
    unfold eDg
    rw [spE_s h, if_pos c]
    exact ⟨by have := spE_ge (P := fun k => isDg (tpB T k)) (L := tpL T) (p := p + 1); omega, spE_le (by omega)⟩
  · split
    · rename_i c
      unfold eLr
      rw [spE_s h, if_pos c]
      exact ⟨by have := spE_ge (P := fun k => isLr (tpB T k)) (L := tpL T) (p := p + 1); omega, spE_le (by omega)⟩
    · split
      · rename_i c
        unfold dbl at c
        rw [decide_eq_true_eq] at c
        omega
      · omega
theorem sbk_ge {T : Tp} {p : Nat} : p ≤ sbk T p := spE_ge
theorem sbk_le {T : Tp} {p : Nat} (h : p ≤ tpL T) : sbk T p ≤ tpL T := spE_le h
theorem nq_gt {T : Tp} {p : Nat} (h : p < tpL T) : p < nq T p ∧ nq T p ≤ tpL T := by
  obtain ⟨h1, h2⟩ := nx_gt h
  have := sbk_ge (T := T) (p := nx T p)
  exact ⟨by unfold nq; omega, sbk_le h2⟩
theorem nq_sb {T : Tp} {p : Nat} : sbk T (nq T p) = nq T p := spE_idem
/-- no blank stands there -/
theorem sb_nb {T : Tp} {q : Nat} (h : sbk T q = q) (hq : q < tpL T) : tpB T q ≠ 32 := by
  have : (tpB T q == 32) = false := by
    have := spE_at (P := fun k => tpB T k == 32) (L := tpL T) (p := q) (by rw [show spE (fun k => tpB T k == 32) (tpL T) q = q from h]; exact hq)
    rw [show spE (fun k => tpB T k == 32) (tpL T) q = q from h] at this
    exact this
  simpa using this
theorem dgv_b {B : Nat → Nat} {p : Nat} : ∀ n, (∀ k, k < n → isDg (B (p + k)) = true) → dgv B p n < 10 ^ n
  | 0, _ => by rw [dgv]; decide
  | n + 1, h => by
    have ih := dgv_b n (fun k hk => h k (by omega))
    have h1 := h n (by omega)
    unfold isDg at h1
    rw [decide_eq_true_eq] at h1
    rw [dgv, Nat.pow_succ]
    omega
/-- a number's value -/
def nm (T : Tp) (p : Nat) : Nat := dgv (tpB T) p (eDg T p - p)
theorem nm_b {T : Tp} {p : Nat} (h : eDg T p - p ≤ 5) : nm T p < 100000 := by
  have h1 := dgv_b (B := tpB T) (p := p) (eDg T p - p) (fun k hk => spE_in (P := fun k => isDg (tpB T k)) (L := tpL T) (p := p) (k := p + k) (by omega) (by unfold eDg at hk; omega))
  have h2 : 10 ^ (eDg T p - p) ≤ 10 ^ 5 := Nat.pow_le_pow_right (by decide) h
  have h3 : (10 : Nat) ^ 5 = 100000 := by decide
  unfold nm
  omega
