/-! ===== the initial picture ===== -/
def D0I : LA → Nat → Int32
  | (9, _, 0, _), 7 => -1
  | (11, _, 0, _), 28 => 12
  | (11, _, 0, _), 40 => -1
  | (11, _, 2, _), 8 => -1
  | _, _ => 0
def D0R : LA → Nat → Option Nat
  | (0, w, _, _), k => if k < 20 then some (21 * w + 1 + k) else none
  | _, _ => none
def D0 : Dt := (D0I, fun _ _ => 0, D0R)
def W0 : Wo := (h0, (fun _ _ => 0), 0, (fun _ _ _ => 0), 0, (fun _ => 0), (fun _ => 0), (fun _ => 0), -1, 0)
def A0 : Al := (W0, (fun _ => none), 0, (fun _ => (0, (fun _ => 0), (fun _ => 0), (fun _ => 0), (fun _ => 0), (fun _ => 0))), 0, (fun _ => 0))
theorem z_gd {n : Nat} : Gd n (fun _ _ => 0) := ⟨fun _ => ⟨bw0 (by decide), bw0 (by decide), bw0 (by decide), bw0 (by decide)⟩, fun _ _ => ⟨rfl, rfl, rfl, rfl⟩, bw0 (by decide)⟩
theorem ok0 : okA A0 := by
  refine ⟨⟨by decide, bw0 (by decide), fun _ _ => bw0 (by decide), ⟨fun x => (by cases x), fun x => absurd x (show ¬ (0 : Int32) < 0 by decide)⟩, fun _ => rfl, beg_gd h0_ok, ⟨z_gd, 0, by decide, rfl⟩, fun j hj => absurd hj (Nat.not_lt_zero j), fun j hj => absurd hj (Nat.not_lt_zero j), Or.inl rfl, by decide⟩, fun k W _ hW => (by cases hW), by decide, fun r hr => absurd hr (Nat.not_lt_zero r), by decide, fun _ => (show (0 : Nat) < 256 by decide)⟩
theorem pm0 {w : Nat} : Pm D0 w id := ⟨fun j hj => ⟨hj, if_pos hj⟩, fun i j _ _ e => e⟩
theorem rM0 : RM D0 A0 := by
  refine ⟨⟨rfl, rfl, rfl, ?_, rfl, rfl, rfl, by decide, rfl, fun j hj => absurd hj (Nat.not_lt_zero j), fun k v _ _ => rfl, by decide, fun j hj => absurd hj (Nat.not_lt_zero j), fun k _ => ⟨rfl, rfl, rfl⟩⟩, fun k _ => rfl, fun k W _ hW => (by cases hW), rfl, fun r hr => absurd hr (Nat.not_lt_zero r), rfl, fun k hk => absurd hk (Nat.not_lt_zero k), rfl, rfl, rfl, rfl⟩
  funext q k
  show (if q < 5 ∧ k < 5 then lvR D0 (q + 1) k else if q = 5 ∧ k < 3 then lvR D0 0 (k + 3) else 0) = 0
  by_cases c : q < 5 ∧ k < 5
  · rw [if_pos c]
    have h1 : q = 0 ∨ q = 1 ∨ q = 2 ∨ q = 3 ∨ q = 4 := by omega
    rcases h1 with rfl | rfl | rfl | rfl | rfl <;> rfl
  · rw [if_neg c]
    by_cases c2 : q = 5 ∧ k < 3
    · rw [if_pos c2]
      have h2 : k = 0 ∨ k = 1 ∨ k = 2 := by omega
      rcases h2 with rfl | rfl | rfl <;> rfl
    · rw [if_neg c2]
theorem rC0 : RC D0 A0 := by
  refine ⟨⟨?_, ?_, by decide, rfl, ⟨id, pm0, fun j hj => absurd hj (Nat.not_lt_zero j)⟩, by decide, rfl, fun j hj => absurd hj (Nat.not_lt_zero j), rfl, rfl⟩, fun w _ => ⟨id, pm0⟩, fun k _ => rfl, fun k W _ hW => (by cases hW), rfl, fun r hr => absurd hr (Nat.not_lt_zero r), rfl, fun k hk => absurd hk (Nat.not_lt_zero k)⟩
  · exact ⟨rfl, rfl, rfl, rfl, fun k _ => ⟨rfl, rfl, rfl⟩, fun k v _ _ => rfl, fun x => (by cases x)⟩
  · funext q k
    show rdX _ _ _ _ q k = 0
    unfold rdX
    split
    · rfl
    · split
      · rfl
      · rfl
theorem inv0 : Inv D0 := ⟨A0, ok0, rC0, rM0⟩
