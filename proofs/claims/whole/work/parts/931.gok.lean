def eqA (a b : LA) : Bool := Nat.beq a.1 b.1 && (Nat.beq a.2.1 b.2.1 && (Nat.beq a.2.2.1 b.2.2.1 && Nat.beq a.2.2.2 b.2.2.2))
/-- the place of a cell -/
def ixA (la : LA) : List LA → Nat
  | [] => 0
  | a :: l => if eqA a la then 0 else ixA la l + 1
def soA : Nat → Nat → Nat
  | 0, _ => 0 | 5, _ => 1 | 6, _ => 2 | 7, _ => 3 | 8, 0 => 4 | 8, j + 1 => 5 + j | _, 0 => 10 | _, j + 1 => 11 + j
def roA : Nat → Nat
  | 0 => 0 | 1 => 1 | 2 => 2 | 4 => 3 | 5 => 4 | 6 => 5 | _ => 6
def nmA (la : LA) : Nat := match la with
  | (0, w, q, _) => lyT w + 22 + q
  | (1, _, q, j) => match q, j with
    | 0, _ => 811 | 5, _ => 820 | 6, _ => 821 | 7, _ => 822 | 8, _ => 823 | 9, 0 => 824 | 9, j + 1 => 825 + j | _, _ => 832
  | (2, _, q, _) => match q with
    | 0 => 1 | 1 => 2 | q => q
  | (3, r, q, _) => 25 + 7 * r + roA q
  | (4, _, _, _) => 7
  | (5, w, q, j) => if w = 5 then 8 + soA q j else lyT w + soA q j
  | (6, n, q, _) => if n < 105 then (if n % 21 = 0 then lyT (n / 21) + 16 + q else lyT (n / 21) + 24 + 6 * (n % 21 - 1) + q) else if n = 105 then 814 + q else 833 + 6 * (n - 106) + q
  | (7, _, _, _) => 6
  | (8, k, q, _) => if k = 0 then (if q = 0 then 809 else 810) else (if q = 0 then 812 else 813)
  | (9, w, q, _) => if q = 0 then (if w = 0 then 67 else 216 + 148 * (w - 1)) else lyT w + 144 + (q - 4)
  | (10, _, q, _) => match q with
    | 0 => 0 | 5 => 24 | 8 => 215 | _ => 808
  | (11, _, q, _) => if q = 0 then 863 else 864 + ixA la ctS11
  | _ => 0
def nmP (i : Nat) : Bool := match LAY[i]? with
  | some la => Nat.beq (nmA la) i
  | none => true
theorem nmc0 : (List.range 100).all (fun i => nmP (0 + i)) = true := by decide +kernel
theorem nmc1 : (List.range 100).all (fun i => nmP (100 + i)) = true := by decide +kernel
theorem nmc2 : (List.range 100).all (fun i => nmP (200 + i)) = true := by decide +kernel
theorem nmc3 : (List.range 100).all (fun i => nmP (300 + i)) = true := by decide +kernel
theorem nmc4 : (List.range 100).all (fun i => nmP (400 + i)) = true := by decide +kernel
theorem nmc5 : (List.range 100).all (fun i => nmP (500 + i)) = true := by decide +kernel
theorem nmc6 : (List.range 100).all (fun i => nmP (600 + i)) = true := by decide +kernel
theorem nmc7 : (List.range 100).all (fun i => nmP (700 + i)) = true := by decide +kernel
theorem nmc8 : (List.range 100).all (fun i => nmP (800 + i)) = true := by decide +kernel
theorem nmc9 : (List.range 100).all (fun i => nmP (900 + i)) = true := by decide +kernel
theorem nm_all (k : Nat) (hk : k < 1000) : nmP k = true := by
  have key : ∀ c, c < 10 → (List.range 100).all (fun i => nmP (100 * c + i)) = true := by
    intro c hc
    match c, hc with
    | 0, _ => exact nmc0
    | 1, _ => exact nmc1
    | 2, _ => exact nmc2
    | 3, _ => exact nmc3
    | 4, _ => exact nmc4
    | 5, _ => exact nmc5
    | 6, _ => exact nmc6
    | 7, _ => exact nmc7
    | 8, _ => exact nmc8
    | 9, _ => exact nmc9
  have h := all1 (key (k / 100) (by omega)) (k % 100) (by omega)
  rw [show 100 * (k / 100) + k % 100 = k by omega] at h
  exact h
theorem nm_at {k : Nat} {la : LA} (h : LAY[k]? = some la) : nmA la = k := by
  have hk : k < LAY.length := (List.getElem?_eq_some_iff.mp h).1
  have hl : LAY.length ≤ 1000 := by rw [ly_len]; decide +kernel
  have h2 := nm_all k (by omega)
  simp only [nmP, h] at h2
  exact Nat.eq_of_beq_eq_true h2
theorem ly_nd : LAY.Nodup := by
  rw [List.Nodup, List.pairwise_iff_getElem]
  intro i j hi hj hij e
  have h1 := nm_at (List.getElem?_eq_getElem hi)
  have h2 := nm_at (List.getElem?_eq_getElem hj)
  rw [e] at h1
  omega
theorem arT_lt {ci k : Nat} (h : (arT ci k).isSome = true) : k < 58 := by
  unfold arT at h
  split at h <;> first | omega | (simp at h; done)
theorem arT_7 {ci k len : Nat} (h : arT ci k = some (7, len)) : len ≤ 7 := by
  unfold arT at h
  split at h <;> simp at h <;> omega
theorem nO_lt {ci n : Nat} (h : n < nO ci) : ci < 12 := by
  unfold nO at h
  split at h <;> first | omega | (simp at h; done)
theorem arT_6 {k : Nat} (h : (arT 6 k).isSome = true) : k < 5 := by
  have h2 := arT_lt h
  have h3 : ∀ k, k < 58 → (arT 6 k).isSome = true → k < 5 := by decide +kernel
  exact h3 k h2 h
theorem V_bd {ci n q j : Nat} (h : V (ci, n, q, j) = true) : n < nO ci ∧ q < 60 ∧ j < 8 := by
  match q, j, h with
  | 0, j, h =>
    simp only [V, Bool.and_eq_true, decide_eq_true_eq] at h
    exact ⟨h.1, by omega, by omega⟩
  | q + 1, 0, h =>
    simp only [V, Bool.and_eq_true, decide_eq_true_eq] at h
    have := arT_lt h.2
    exact ⟨h.1, by omega, by omega⟩
  | q + 1, j + 1, h =>
    simp only [V, Bool.and_eq_true, decide_eq_true_eq] at h
    obtain ⟨h1, h2⟩ := h
    split at h2
    · rename_i len he
      have h3 := arT_7 he
      have h4 := arT_lt (ci := ci) (k := q) (by rw [he]; rfl)
      simp only [decide_eq_true_eq] at h2
      exact ⟨h1, by omega, by omega⟩
    · cases h2
def okLA (la : LA) : Bool := !(V la) || eqO (LAY[nmA la]?) (some la)
theorem okLA_6 : (List.range 666).all (fun k => okLA (6, k / 6, k % 6, 0)) = true := by decide +kernel
theorem okLA_all : ∀ ci, ci < 12 → ¬ ci = 6 → (List.range (nO ci * 480)).all (fun k => okLA (ci, k / 480, k / 8 % 60, k % 8)) = true := by
  intro ci hci h6
  match ci, hci with
  | 0, _ => decide +kernel
  | 1, _ => decide +kernel
  | 2, _ => decide +kernel
  | 3, _ => decide +kernel
  | 4, _ => decide +kernel
  | 5, _ => decide +kernel
  | 6, _ => exact absurd rfl h6
  | 7, _ => decide +kernel
  | 8, _ => decide +kernel
  | 9, _ => decide +kernel
  | 10, _ => decide +kernel
  | 11, _ => decide +kernel
theorem ly_V (la : LA) (h : V la = true) : la ∈ LAY := by
  obtain ⟨ci, n, q, j⟩ := la
  obtain ⟨h1, h2, h3⟩ := V_bd h
  by_cases h6 : ci = 6
  · subst h6
    have h7 : q < 6 ∧ j = 0 := by
      match q, j, h with
      | 0, j, h =>
        simp only [V, Bool.and_eq_true, decide_eq_true_eq] at h
        exact ⟨by omega, h.2⟩
      | q + 1, 0, h =>
        simp only [V, Bool.and_eq_true, decide_eq_true_eq] at h
        have := arT_6 h.2
        exact ⟨by omega, rfl⟩
      | q + 1, j + 1, h =>
        exfalso
        simp only [V, Bool.and_eq_true, decide_eq_true_eq] at h
        obtain ⟨-, h⟩ := h
        split at h
        · rename_i len he
          have hq := arT_6 (k := q) (by rw [he]; rfl)
          clear h2 h3
          match q, hq, he with
          | 0, _, he => simp [arT] at he
          | 1, _, he => simp [arT] at he
          | 2, _, he => simp [arT] at he
          | 3, _, he => simp [arT] at he
          | 4, _, he => simp [arT] at he
        · cases h
    obtain ⟨h7, rfl⟩ := h7
    have h1' : n < 111 := h1
    have h4 := all1 okLA_6 (6 * n + q) (by omega)
    rw [show (6 * n + q) / 6 = n by omega, show (6 * n + q) % 6 = q by omega] at h4
    simp only [okLA, h, Bool.not_true, Bool.false_or] at h4
    exact List.mem_of_getElem? (eqO_eq h4)
  have h4 := all1 (okLA_all ci (nO_lt h1) h6) (480 * n + 8 * q + j) (by
    have : n + 1 ≤ nO ci := h1
    have : (n + 1) * 480 ≤ nO ci * 480 := Nat.mul_le_mul_right 480 this
    omega)
  rw [show (480 * n + 8 * q + j) / 480 = n by omega, show (480 * n + 8 * q + j) / 8 % 60 = q by omega, show (480 * n + 8 * q + j) % 8 = j by omega] at h4
  simp only [okLA, h, Bool.not_true, Bool.false_or] at h4
  exact List.mem_of_getElem? (eqO_eq h4)
