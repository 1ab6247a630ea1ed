/-! ===== the class reads thing by thing ===== -/
def CP (D : Dt) (T : Tp) (q : Nat) : Prop := (∃ N i, Tok D T N ∧ i ≤ N ∧ D.1 (2, 0, 0, 0) 6 = nI i ∧ itT T i = q) ∧ D.1 (2, 0, 0, 0) 7 = 0
def prS : LA → Nat → Bool := fun la k => la == (2, 0, 0, 0) && decide (6 ≤ k ∧ k ≤ 8)
theorem Tok.sm {S : LA → Nat → Bool} {D D' : Dt} {T : Tp} {N : Nat} (h : Tok D T N) (s : Sm S D D') (z : ∀ q k, 3 ≤ q → q ≤ 5 → S (2, 0, q, 0) k = false) (z5 : S (2, 0, 0, 0) 5 = false) : Tok D' T N := by
  obtain ⟨h1, h2, h3, h4, h5⟩ := h
  refine ⟨h1, by rw [s.i z5]; exact h2, fun i hi => ?_, h4, h5⟩
  obtain ⟨t1, t2, t3⟩ := h3 i hi
  exact ⟨by rw [s.i (z 3 _ (by decide) (by decide))]; exact t1, by rw [s.i (z 4 _ (by decide) (by decide))]; exact t2, fun hk => by rw [s.i (z 5 _ (by decide) (by decide))]; exact t3 hk⟩
theorem CP.sm {S : LA → Nat → Bool} {D D' : Dt} {T : Tp} {q : Nat} (h : CP D T q) (s : Sm S D D') (z : ∀ q k, 3 ≤ q → q ≤ 5 → S (2, 0, q, 0) k = false) (z5 : ∀ k, 5 ≤ k → k ≤ 7 → S (2, 0, 0, 0) k = false) : CP D' T q := by
  obtain ⟨⟨N, i, h1, h2, h3, h4⟩, h5⟩ := h
  exact ⟨⟨N, i, h1.sm s z (z5 5 (by decide) (by decide)), h2, by rw [s.i (z5 6 (by decide) (by decide))]; exact h3, h4⟩, by rw [s.i (z5 7 (by decide) (by decide))]; exact h5⟩
theorem CP.le {D : Dt} {T : Tp} {q : Nat} (h : CP D T q) : q ≤ tpL T ∧ sbk T q = q := by
  obtain ⟨⟨N, i, h1, h2, h3, h4⟩, h5⟩ := h
  rw [← h4]
  exact ⟨itT_le i, itT_sb i⟩
theorem c_sgn {D : Dt} {T : Tp} {q : Nat} (h : CP D T q) : F_X2_sign D = some (nI (kd T q), D) := by
  obtain ⟨⟨N, i, ⟨h1, h2, h3, h4, h5⟩, h6, h7, rfl⟩, h8⟩ := h
  rw [F_X2_sign, h2, h7, if_neg (nI_ge (by omega) (by omega)), grd_t (inBe (by omega) (by decide)), nIc (by omega), (h3 i h6).1]
theorem c_num {D : Dt} {T : Tp} {q : Nat} (h : CP D T q) (hk : kd T q = 1) : F_X2_number D = some (nI (nm T q), D) := by
  obtain ⟨⟨N, i, ⟨h1, h2, h3, h4, h5⟩, h6, h7, rfl⟩, h8⟩ := h
  rw [F_X2_number, h2, h7, if_neg (nI_ge (by omega) (by omega)), grd_t (inBe (by omega) (by decide)), nIc (by omega), (h3 i h6).2.2 hk]
theorem c_stp {D : Dt} {T : Tp} {q : Nat} (h : CP D T q) (hk : kd T q ≠ 0) : ∃ D', F_X2_step D = some D' ∧ CP D' T (nq T q) ∧ Sm (fun la k => la == (2, 0, 0, 0) && k == 6) D D' := by
  obtain ⟨⟨N, i, ht, h6, h7, h9⟩, h8⟩ := h
  obtain ⟨h1, h2, h3, h4, h5⟩ := ht
  have hiN : i < N := by
    by_cases c : i = N
    · exfalso
      apply hk
      rw [kd_0, ← h9, c, h5]
      exact Nat.le_refl _
    · omega
  rw [F_X2_step, h2, h7, nI_pred, if_neg (nI_ge hiN (by omega)), nI_1, bnd_e]
  have m : Sm (fun la k => la == (2, 0, 0, 0) && k == 6) D (setI D (2, 0, 0, 0) 6 (nI (i + 1))) := Sm.sI (by simp)
  refine ⟨_, rfl, ⟨⟨N, i + 1, Tok.sm ⟨h1, h2, h3, h4, h5⟩ m (fun q k _ _ => by simp; omega) (by simp), by omega, gI_s, by rw [itT, h9]⟩, ?_⟩, m⟩
  rw [m.i (by simp)]; exact h8
theorem c_fl {D : Dt} {T : Tp} {q k : Nat} (h : CP D T q) : ∃ D', F_X2_fail (nI k) D = some (0, D') ∧ D'.1 (2, 0, 0, 0) 7 = nI (1 + 8 * q + k) ∧ Sm (fun la k => la == (2, 0, 0, 0) && k == 7) D D' := by
  obtain ⟨⟨N, i, ⟨h1, h2, h3, h4, h5⟩, h6, h7, h9⟩, h8⟩ := h
  rw [F_X2_fail, h8, if_pos rfl, h2, h7, if_neg (nI_ge (by omega) (by omega)), grd_t (inBe (by omega) (by decide)), nIc (by omega), (h3 i h6).2.1, h9, show (8 : Int32) = nI 8 from rfl, pk_mul, show (1 : Int32) = nI 1 from rfl, nI_add, nI_add, bnd_e]
  exact ⟨_, rfl, gI_s, Sm.sI (by simp)⟩
theorem pr6 {D D' : Dt} (m : Sm (fun la k => la == (2, 0, 0, 0) && k == 6) D D') : Sm prS D D' := m.mono (fun la k e => by
  unfold prS at e
  by_cases c : la = (2, 0, 0, 0)
  · rw [c] at e ⊢
    simp at e ⊢
    omega
  · simp [c])
theorem pr7 {D D' : Dt} (m : Sm (fun la k => la == (2, 0, 0, 0) && k == 7) D D') : Sm prS D D' := m.mono (fun la k e => by
  unfold prS at e
  by_cases c : la = (2, 0, 0, 0)
  · rw [c] at e ⊢
    simp at e ⊢
    omega
  · simp [c])
theorem nI_k {T : Tp} {q s : Nat} (hs : s < 1000) : (nI (kd T q) = nI s) = (kd T q = s) := by
  have := kd_b (T := T) (p := q)
  exact propext (nI_eq (by omega) (by omega))
theorem c_take {D : Dt} {T : Tp} {q s : Nat} (h : CP D T q) (hs : s < 1000) (hs0 : s ≠ 0) : (kd T q = s → ∃ D', F_X2_take (nI s) D = some (1, D') ∧ CP D' T (nq T q) ∧ Sm prS D D') ∧ (kd T q ≠ s → F_X2_take (nI s) D = some (0, D)) := by
  refine ⟨fun hk => ?_, fun hk => ?_⟩
  · obtain ⟨D', e, c, m⟩ := c_stp h (by omega)
    rw [F_X2_take, c_sgn h, cbd_s]
    simp only [nI_k hs]
    rw [if_pos hk, e, vbd_s]
    exact ⟨D', rfl, c, pr6 m⟩
  · rw [F_X2_take, c_sgn h, cbd_s]
    simp only [nI_k hs]
    rw [if_neg hk]
theorem c_demand {D : Dt} {T : Tp} {q s : Nat} (h : CP D T q) (hs : s < 1000) (hs0 : s ≠ 0) : (kd T q = s → ∃ D', F_X2_demand (nI s) D = some (1, D') ∧ CP D' T (nq T q) ∧ Sm prS D D') ∧ (kd T q ≠ s → ∃ D', F_X2_demand (nI s) D = some (0, D') ∧ D'.1 (2, 0, 0, 0) 7 = nI (1 + 8 * q) ∧ Sm prS D D') := by
  refine ⟨fun hk => ?_, fun hk => ?_⟩
  · obtain ⟨D', e, c, m⟩ := (c_take h hs hs0).1 hk
    rw [F_X2_demand, e, cbd_s, if_neg (by decide)]
    exact ⟨D', rfl, c, m⟩
  · obtain ⟨D', e, c, m⟩ := c_fl (k := 0) h
    rw [F_X2_demand, (c_take h hs hs0).2 hk, cbd_s, if_pos rfl, show F_X2_fail 0 D = _ from e, cbd_s, if_pos rfl]
    exact ⟨D', rfl, c, pr7 m⟩
/-- a number from lo on, below h1 -/
def pNum (T : Tp) (q lo h1 : Nat) : Nat ⊕ (Nat × Nat) := if kd T q = 1 then (if lo ≤ nm T q ∧ nm T q < h1 then .inr (nq T q, nm T q) else .inl (1 + 8 * q + 1)) else if kd T q = 2 then .inl (1 + 8 * q + 1) else .inl (1 + 8 * q)
theorem kd_nm {T : Tp} {q : Nat} (h : kd T q = 1) : nm T q < 100000 := by
  unfold kd at h
  have h1 := sgK_b (tpB T q)
  have h2 := wc_b (T := T) (p := q)
  split at h
  · cases h
  · split at h
    · split at h
      · rename_i c
        exact nm_b c
      · cases h
    · split at h
      · omega
      · split at h
        · split at h <;> omega
        · omega
theorem c_takeNumber {D : Dt} {T : Tp} {q lo h1 : Nat} (h : CP D T q) (hlo : lo < 1000) (hh : h1 < 1000) : match pNum T q lo h1 with
    | .inl f => ∃ D', F_X2_takeNumber (nI lo) (nI h1 - 1) D = some (0, D') ∧ D'.1 (2, 0, 0, 0) 7 = nI f ∧ Sm prS D D'
    | .inr (q', v) => ∃ D', F_X2_takeNumber (nI lo) (nI h1 - 1) D = some (1, D') ∧ CP D' T q' ∧ D'.1 (2, 0, 0, 0) 8 = nI v ∧ Sm prS D D' := by
  unfold pNum
  have k1 : (nI (kd T q) = (1 : Int32)) = (kd T q = 1) := nI_k (s := 1) (by decide)
  have k2 : (nI (kd T q) = (2 : Int32)) = (kd T q = 2) := nI_k (s := 2) (by decide)
  have hf1 : ∃ D', F_X2_takeNumber_b38 (nI lo) (nI h1 - 1) D = some (0, D') ∧ D'.1 (2, 0, 0, 0) 7 = nI (1 + 8 * q + 1) ∧ Sm prS D D' := by
    obtain ⟨D', e, c, m⟩ := c_fl (k := 1) h
    rw [F_X2_takeNumber_b38, show F_X2_fail 1 D = _ from e, cbd_s, grd_t (Or.inl rfl)]
    exact ⟨D', rfl, c, pr7 m⟩
  rw [F_X2_takeNumber, c_sgn h, cbd_s]
  simp only [k1, k2]
  by_cases c1 : kd T q = 1
  · have hb := kd_nm c1
    have hin : (nI lo ≤ nI (nm T q) ∧ nI (nm T q) ≤ nI h1 - 1) ↔ (lo ≤ nm T q ∧ nm T q < h1) := by
      rw [fa_le, fa_le, nI_toInt (by omega), nI_toInt (by omega), show (nI h1 - 1).toInt = (h1 : Int) - 1 from pk_sub_toInt (a := h1) (b := 1) (by omega) (by decide)]
      omega
    rw [if_pos c1, if_pos c1, F_X2_takeNumber_b21]
    simp only [k2]
    rw [if_neg (show ¬ kd T q = 2 by omega), c_num h c1, cbd_s, c_within, cbd_s]
    simp only [hin]
    by_cases c2 : lo ≤ nm T q ∧ nm T q < h1
    · rw [i1t c2, if_pos c2, c_num h c1, cbd_s, bnd_e]
      have m1 : Sm (fun la k => la == (2, 0, 0, 0) && k == 8) D (setI D (2, 0, 0, 0) 8 (nI (nm T q))) := Sm.sI (by simp)
      have hc : CP (setI D (2, 0, 0, 0) 8 (nI (nm T q))) T q := h.sm m1 (fun q k _ _ => by simp; omega) (fun k _ _ => by simp; omega)
      obtain ⟨D', e, c, m⟩ := c_stp hc (by omega)
      rw [e, vbd_s]
      refine ⟨D', rfl, c, ?_, Sm.trans (Sm.sI (by simp [prS])) (pr6 m)⟩
      rw [m.i (by simp), gI_s]
    · rw [i1f c2, if_neg c2]
      exact hf1
  · rw [if_neg c1, if_neg c1]
    by_cases c2 : kd T q = 2
    · rw [if_pos c2, if_pos c2, F_X2_takeNumber_b21]
      simp only [k2]
      rw [if_pos c2]
      exact hf1
    · rw [if_neg c2, if_neg c2]
      obtain ⟨D', e, c, m⟩ := c_fl (k := 0) h
      rw [show F_X2_fail 0 D = _ from e, cbd_s, grd_t (Or.inl rfl)]
      exact ⟨D', rfl, c, pr7 m⟩
/-! ===== the TABLE's text ===== -/
def hRates (h : Shp) (r s : Nat) : Shp := (h.1, nI r, nI s, h.2.2.2)
def hLand (h : Shp) (a b c : Nat) : Shp := (h.1, h.2.1, h.2.2.1, shN h + 1, (fun k => if k = shN h then nI a else h.2.2.2.2.1 k), (fun k => if k = shN h then nI b else h.2.2.2.2.2.1 k), (fun k => if k = shN h then nI c else h.2.2.2.2.2.2.1 k), shTl h)
def hSun (h : Shp) (a b : Nat) : Shp := (h.1, h.2.1, h.2.2.1, shN h, h.2.2.2.2.1, h.2.2.2.2.2.1, h.2.2.2.2.2.2.1, (fun k v => if k = a ∧ v = b then shTl h k v + 1 else shTl h k v))
def pTC (T : Tp) (h : Shp) (cl q : Nat) : Nat ⊕ (Shp × Nat) := if ¬ (kd T q = 32 ∨ kd T q = 20 ∨ kd T q = 23) then .inl (1 + 8 * q) else if 40 ≤ cl ∨ ¬ (kd T q = 32 ↔ cl = 0) ∨ (kd T q = 20 ∧ 5 ≤ shN h) then .inl (1 + 8 * q + 4) else if kd T q = 32 then (match pNum T (nq T q) 1 10 with
    | .inl f => .inl f
    | .inr (q1, r) => match pNum T q1 0 10 with
      | .inl f => .inl f
      | .inr (q2, s) => .inr (hRates h r s, q2)) else if kd T q = 20 then (match pNum T (nq T q) 0 100 with
    | .inl f => .inl f
    | .inr (q1, a) => match pNum T q1 0 10 with
      | .inl f => .inl f
      | .inr (q2, b) => match pNum T q2 0 100 with
        | .inl f => .inl f
        | .inr (q3, c) => .inr (hLand h a b c, q3)) else (match pNum T (nq T q) 0 (shN h) with
    | .inl f => .inl f
    | .inr (q1, a) => match pNum T q1 0 61 with
      | .inl f => .inl f
      | .inr (q2, b) => .inr (hSun h a b, q2))
def pTb (T : Tp) : Nat → Nat → Shp → Nat → Nat ⊕ Shp
  | 0, _, _, _ => .inl 1
  | m + 1, cl, h, q => match pTC T h cl q with
    | .inl f => .inl f
    | .inr (h1, q1) => if kd T q1 = 0 then .inr h1 else if kd T q1 = 4 then pTb T m (cl + 1) h1 (nq T q1) else .inl (1 + 8 * q1)
/-- the sheet holds it -/
def ShC (D : Dt) (x : Nat) (h : Shp) : Prop := D.1 (5, x, 0, 0) 1 = h.2.1 ∧ D.1 (5, x, 0, 0) 2 = h.2.2.1 ∧ (shN h ≤ 5 ∧ D.1 (5, x, 0, 0) 3 = nI (shN h)) ∧ (∀ k, k < 5 → D.1 (5, x, 5, 0) k = h.2.2.2.2.1 k ∧ D.1 (5, x, 6, 0) k = h.2.2.2.2.2.1 k ∧ D.1 (5, x, 7, 0) k = h.2.2.2.2.2.2.1 k) ∧ ∀ k v, k < 5 → v < 61 → D.1 (5, x, 8, k + 1) v = shTl h k v
theorem ShC.pr {D D' : Dt} {x : Nat} {h : Shp} (r : ShC D x h) (s : Sm prS D D') : ShC D' x h := by
  obtain ⟨a1, a2, a3, a4, a5⟩ := r
  refine ⟨?_, ?_, ⟨a3.1, ?_⟩, fun k hk => ?_, fun k v hk hv => ?_⟩
  · rw [s.i (by simp [prS])]; exact a1
  · rw [s.i (by simp [prS])]; exact a2
  · rw [s.i (by simp [prS])]; exact a3.2
  · rw [s.i (by simp [prS]), s.i (by simp [prS]), s.i (by simp [prS])]; exact a4 k hk
  · rw [s.i (by simp [prS])]; exact a5 k v hk hv
/-- what reading a TABLE writes -/
def rtS : LA → Nat → Bool := fun la k => prS la k || (la.1 == 5 && la.2.1 == 5)
theorem pr_rt {D D' : Dt} (s : Sm prS D D') : Sm rtS D D' := s.mono (fun la k e => by
  unfold rtS at e
  exact (Bool.or_eq_false_iff.mp e).1)
theorem CP.s5 {D : Dt} {T : Tp} {q j a k : Nat} {v : Int32} (h : CP D T q) : CP (setI D (5, 5, a, j) k v) T q := h.sm (S := fun la _ => la.1 == 5) (Sm.sI (by simp)) (fun _ _ _ _ => by simp) (fun _ _ _ => by simp)
theorem c_readRates {D : Dt} {T : Tp} {q : Nat} {h : Shp} (hc : CP D T q) (hs : ShC D 5 h) : match (match pNum T q 1 10 with
    | .inl f => (.inl f : Nat ⊕ (Shp × Nat))
    | .inr (q1, r) => match pNum T q1 0 10 with
      | .inl f => .inl f
      | .inr (q2, s) => .inr (hRates h r s, q2)) with
    | .inl f => ∃ D', F_X7_readRates 5 D = some (0, D') ∧ D'.1 (2, 0, 0, 0) 7 = nI f ∧ Sm rtS D D'
    | .inr (h1, q1) => ∃ D', F_X7_readRates 5 D = some (1, D') ∧ CP D' T q1 ∧ ShC D' 5 h1 ∧ Sm rtS D D' := by
  rw [F_X7_readRates, grd_t (V5 (by decide))]
  have n1 := c_takeNumber (lo := 1) (h1 := 10) hc (by decide) (by decide)
  cases e1 : pNum T q 1 10 with
  | inl f =>
    rw [e1] at n1
    obtain ⟨D1, e, f1, m1⟩ := n1
    simp only
    rw [show F_X2_takeNumber 1 9 D = _ from e, cbd_s, if_pos rfl]
    exact ⟨D1, rfl, f1, pr_rt m1⟩
  | inr w =>
    obtain ⟨q1, r⟩ := w
    rw [e1] at n1
    obtain ⟨D1, e, c1, v1, m1⟩ := n1
    simp only
    rw [show F_X2_takeNumber 1 9 D = _ from e, cbd_s, if_neg (by decide), v1, bnd_e]
    have n2 := c_takeNumber (D := setI D1 (5, 5, 0, 0) 1 (nI r)) (lo := 0) (h1 := 10) c1.s5 (by decide) (by decide)
    cases e2 : pNum T q1 0 10 with
    | inl f =>
      rw [e2] at n2
      obtain ⟨D2, e', f2, m2⟩ := n2
      simp only
      rw [show F_X2_takeNumber 0 9 _ = _ from e', cbd_s, if_pos rfl]
      exact ⟨D2, rfl, f2, (pr_rt m1).trans (Sm.trans (Sm.sI (by simp [rtS])) (pr_rt m2))⟩
    | inr w2 =>
      obtain ⟨q2, s⟩ := w2
      rw [e2] at n2
      obtain ⟨D2, e', c2, v2, m2⟩ := n2
      simp only
      rw [show F_X2_takeNumber 0 9 _ = _ from e', cbd_s, if_neg (by decide), v2, bnd_e]
      refine ⟨_, rfl, c2.s5, ?_, ((pr_rt m1).trans (Sm.trans (Sm.sI (by simp [rtS])) (pr_rt m2))).trans (Sm.sI (by simp [rtS]))⟩
      obtain ⟨a1, a2, a3, a4, a5⟩ := hs.pr m1
      have t : ∀ (la : LA) k, la.1 = 5 → D2.1 la k = (setI D1 (5, 5, 0, 0) 1 (nI r)).1 la k := fun la k hla => m2.i (by
        unfold prS
        rw [Bool.and_eq_false_iff, beq_eq_false_iff_ne]
        left
        rintro rfl
        cases hla)
      refine ⟨?_, gI_s, ⟨a3.1, ?_⟩, fun k hk => ?_, fun k v hk hv => ?_⟩
      · rw [gI, if_neg (by simp), t _ _ rfl, gI_s]; rfl
      · rw [gI, if_neg (by simp), t _ _ rfl, gI, if_neg (by simp)]; exact a3.2
      · rw [gI, if_neg (by simp), gI, if_neg (by simp), gI, if_neg (by simp), t _ _ rfl, t _ _ rfl, t _ _ rfl, gI, if_neg (by simp), gI, if_neg (by simp), gI, if_neg (by simp)]; exact a4 k hk
      · rw [gI, if_neg (by simp), t _ _ rfl, gI, if_neg (by simp)]; exact a5 k v hk hv
theorem pr_5 {D D' : Dt} (m : Sm prS D D') (la : LA) (k : Nat) (hla : la.1 = 5) : D'.1 la k = D.1 la k := m.i (by
  unfold prS
  rw [Bool.and_eq_false_iff, beq_eq_false_iff_ne]
  left
  rintro rfl
  cases hla)
theorem c_readLand {D : Dt} {T : Tp} {q : Nat} {h : Shp} (hc : CP D T q) (hs : ShC D 5 h) (h5 : shN h < 5) : match (match pNum T q 0 100 with
    | .inl f => (.inl f : Nat ⊕ (Shp × Nat))
    | .inr (q1, a) => match pNum T q1 0 10 with
      | .inl f => .inl f
      | .inr (q2, b) => match pNum T q2 0 100 with
        | .inl f => .inl f
        | .inr (q3, c) => .inr (hLand h a b c, q3)) with
    | .inl f => ∃ D', F_X7_readLand 5 D = some (0, D') ∧ D'.1 (2, 0, 0, 0) 7 = nI f ∧ Sm rtS D D'
    | .inr (h1, q1) => ∃ D', F_X7_readLand 5 D = some (1, D') ∧ CP D' T q1 ∧ ShC D' 5 h1 ∧ Sm rtS D D' := by
  rw [F_X7_readLand, grd_t (V5 (by decide)), hs.2.2.1.2, bnd_e]
  have n1 := c_takeNumber (lo := 0) (h1 := 100) hc (by decide) (by decide)
  cases e1 : pNum T q 0 100 with
  | inl f =>
    rw [e1] at n1
    obtain ⟨D1, e, f1, m1⟩ := n1
    simp only
    rw [show F_X2_takeNumber 0 99 D = _ from e, cbd_s, if_pos rfl]
    exact ⟨D1, rfl, f1, pr_rt m1⟩
  | inr w =>
    obtain ⟨q1, a⟩ := w
    rw [e1] at n1
    obtain ⟨D1, e, c1, v1, m1⟩ := n1
    simp only
    rw [show F_X2_takeNumber 0 99 D = _ from e, cbd_s, if_neg (by decide), grd_t (inBe h5 (by decide)), nIc (by omega), v1, bnd_e]
    have n2 := c_takeNumber (D := setI D1 (5, 5, 5, 0) (shN h) (nI a)) (lo := 0) (h1 := 10) c1.s5 (by decide) (by decide)
    cases e2 : pNum T q1 0 10 with
    | inl f =>
      rw [e2] at n2
      obtain ⟨D2, e', f2, m2⟩ := n2
      simp only
      rw [show F_X2_takeNumber 0 9 _ = _ from e', cbd_s, if_pos rfl]
      exact ⟨D2, rfl, f2, (pr_rt m1).trans (Sm.trans (Sm.sI (by simp [rtS])) (pr_rt m2))⟩
    | inr w2 =>
      obtain ⟨q2, b⟩ := w2
      rw [e2] at n2
      obtain ⟨D2, e', c2, v2, m2⟩ := n2
      simp only
      rw [show F_X2_takeNumber 0 9 _ = _ from e', cbd_s, if_neg (by decide), v2, bnd_e]
      have n3 := c_takeNumber (D := setI D2 (5, 5, 6, 0) (shN h) (nI b)) (lo := 0) (h1 := 100) c2.s5 (by decide) (by decide)
      cases e3 : pNum T q2 0 100 with
      | inl f =>
        rw [e3] at n3
        obtain ⟨D3, e'', f3, m3⟩ := n3
        simp only
        rw [show F_X2_takeNumber 0 99 _ = _ from e'', cbd_s, if_pos rfl]
        exact ⟨D3, rfl, f3, ((pr_rt m1).trans (Sm.trans (Sm.sI (by simp [rtS])) (pr_rt m2))).trans (Sm.trans (Sm.sI (by simp [rtS])) (pr_rt m3))⟩
      | inr w3 =>
        obtain ⟨q3, c⟩ := w3
        rw [e3] at n3
        obtain ⟨D3, e'', c3, v3, m3⟩ := n3
        simp only
        rw [show F_X2_takeNumber 0 99 _ = _ from e'', cbd_s, if_neg (by decide), v3, bnd_e, nI_1, bnd_e]
        refine ⟨_, rfl, c3.s5.s5, ?_, (((pr_rt m1).trans (Sm.trans (Sm.sI (by simp [rtS])) (pr_rt m2))).trans (Sm.trans (Sm.sI (by simp [rtS])) (pr_rt m3))).trans ((Sm.sI (by simp [rtS])).trans (Sm.sI (by simp [rtS])))⟩
        obtain ⟨a1, a2, a3, a4, a5⟩ := hs.pr m1
        have t2 := pr_5 m2
        have t3 := pr_5 m3
        refine ⟨?_, ?_, ⟨by show shN h + 1 ≤ 5; omega, gI_s⟩, fun k hk => ⟨?_, ?_, ?_⟩, fun k v hk hv => ?_⟩
        · rw [gI, if_neg (by simp), gI, if_neg (by simp), t3 _ _ rfl, gI, if_neg (by simp), t2 _ _ rfl, gI, if_neg (by simp)]; exact a1
        · rw [gI, if_neg (by simp), gI, if_neg (by simp), t3 _ _ rfl, gI, if_neg (by simp), t2 _ _ rfl, gI, if_neg (by simp)]; exact a2
        · rw [gI, if_neg (by simp), gI, if_neg (by simp), t3 _ _ rfl, gI, if_neg (by simp), t2 _ _ rfl, gI]
          show _ = (if k = shN h then nI a else h.2.2.2.2.1 k)
          by_cases ck : k = shN h
          · rw [if_pos ⟨rfl, ck⟩, if_pos ck]
          · rw [if_neg (fun x => ck x.2), if_neg ck]; exact (a4 k hk).1
        · rw [gI, if_neg (by simp), gI, if_neg (by simp), t3 _ _ rfl, gI]
          show _ = (if k = shN h then nI b else h.2.2.2.2.2.1 k)
          by_cases ck : k = shN h
          · rw [if_pos ⟨rfl, ck⟩, if_pos ck]
          · rw [if_neg (fun x => ck x.2), if_neg ck, t2 _ _ rfl, gI, if_neg (by simp)]; exact (a4 k hk).2.1
        · rw [gI, if_neg (by simp), gI]
          show _ = (if k = shN h then nI c else h.2.2.2.2.2.2.1 k)
          by_cases ck : k = shN h
          · rw [if_pos ⟨rfl, ck⟩, if_pos ck]
          · rw [if_neg (fun x => ck x.2), if_neg ck, t3 _ _ rfl, gI, if_neg (by simp), t2 _ _ rfl, gI, if_neg (by simp)]; exact (a4 k hk).2.2
        · rw [gI, if_neg (by simp), gI, if_neg (by simp), t3 _ _ rfl, gI, if_neg (by simp), t2 _ _ rfl, gI, if_neg (by simp)]; exact a5 k v hk hv
theorem pNum_v {T : Tp} {q lo h1 q1 v : Nat} (h : pNum T q lo h1 = .inr (q1, v)) : lo ≤ v ∧ v < h1 ∧ q1 = nq T q ∧ kd T q = 1 := by
  unfold pNum at h
  split at h
  · rename_i c
    split at h
    · rename_i c2
      simp only [Sum.inr.injEq, Prod.mk.injEq] at h
      exact ⟨by omega, by omega, h.1.symm, c⟩
    · cases h
  · split at h <;> cases h
theorem c_readSun {D : Dt} {T : Tp} {q : Nat} {h : Shp} (hc : CP D T q) (hs : ShC D 5 h) : match (match pNum T q 0 (shN h) with
    | .inl f => (.inl f : Nat ⊕ (Shp × Nat))
    | .inr (q1, a) => match pNum T q1 0 61 with
      | .inl f => .inl f
      | .inr (q2, b) => .inr (hSun h a b, q2)) with
    | .inl f => ∃ D', F_X7_readSun 5 D = some (0, D') ∧ D'.1 (2, 0, 0, 0) 7 = nI f ∧ Sm rtS D D'
    | .inr (h1, q1) => ∃ D', F_X7_readSun 5 D = some (1, D') ∧ CP D' T q1 ∧ ShC D' 5 h1 ∧ Sm rtS D D' := by
  have hn := hs.2.2.1.1
  rw [F_X7_readSun, grd_t (V5 (by decide)), hs.2.2.1.2]
  have n1 := c_takeNumber (lo := 0) (h1 := shN h) hc (by decide) (by omega)
  cases e1 : pNum T q 0 (shN h) with
  | inl f =>
    rw [e1] at n1
    obtain ⟨D1, e, f1, m1⟩ := n1
    simp only
    rw [show F_X2_takeNumber 0 (nI (shN h) - 1) D = _ from e, cbd_s, if_pos rfl]
    exact ⟨D1, rfl, f1, pr_rt m1⟩
  | inr w =>
    obtain ⟨q1, a⟩ := w
    obtain ⟨x1, x2, _⟩ := pNum_v e1
    rw [e1] at n1
    obtain ⟨D1, e, c1, v1, m1⟩ := n1
    simp only
    rw [show F_X2_takeNumber 0 (nI (shN h) - 1) D = _ from e, cbd_s, if_neg (by decide), v1, bnd_e]
    have n2 := c_takeNumber (D := D1) (lo := 0) (h1 := 61) c1 (by decide) (by decide)
    cases e2 : pNum T q1 0 61 with
    | inl f =>
      rw [e2] at n2
      obtain ⟨D2, e', f2, m2⟩ := n2
      simp only
      rw [show F_X2_takeNumber 0 60 _ = _ from e', cbd_s, if_pos rfl]
      exact ⟨D2, rfl, f2, (pr_rt m1).trans (pr_rt m2)⟩
    | inr w2 =>
      obtain ⟨q2, b⟩ := w2
      obtain ⟨y1, y2, _⟩ := pNum_v e2
      rw [e2] at n2
      obtain ⟨D2, e', c2, v2, m2⟩ := n2
      obtain ⟨a1, a2, a3, a4, a5⟩ := (hs.pr m1).pr m2
      simp only
      rw [show F_X2_takeNumber 0 60 _ = _ from e', cbd_s, if_neg (by decide), grd_t (inBe (show a < 5 by omega) (by decide)), v2, grd_t (inBe y2 (by decide)), nIc (k := a) (by omega), nIc (k := b) (by omega), bnd_e, a5 a b (by omega) y2]
      refine ⟨_, rfl, c2.s5, ⟨?_, ?_, ⟨a3.1, ?_⟩, fun k hk => ?_, fun k v hk hv => ?_⟩, ((pr_rt m1).trans (pr_rt m2)).trans (Sm.sI (by simp [rtS]))⟩
      · rw [gI, if_neg (by simp)]; exact a1
      · rw [gI, if_neg (by simp)]; exact a2
      · rw [gI, if_neg (by simp)]; exact a3.2
      · rw [gI, if_neg (by simp), gI, if_neg (by simp), gI, if_neg (by simp)]; exact a4 k hk
      · rw [gI]
        show _ = (if k = a ∧ v = b then shTl h k v + 1 else shTl h k v)
        by_cases ck : k = a ∧ v = b
        · rw [if_pos ⟨by rw [ck.1], ck.2⟩, if_pos ck, ck.1, ck.2]
        · rw [if_neg (fun x => ck ⟨by have := x.1; simp at this; exact this, x.2⟩), if_neg ck]; exact a5 k v hk hv
theorem c_tClause {D : Dt} {T : Tp} {q cl : Nat} {h : Shp} (hc : CP D T q) (hs : ShC D 5 h) (hcl : cl ≤ 40) : match pTC T h cl q with
    | .inl f => ∃ D', F_X7_readClause 5 (nI cl) D = some (0, D') ∧ D'.1 (2, 0, 0, 0) 7 = nI f ∧ Sm rtS D D'
    | .inr (h1, q1) => ∃ D', F_X7_readClause 5 (nI cl) D = some (1, D') ∧ CP D' T q1 ∧ ShC D' 5 h1 ∧ Sm rtS D D' := by
  have hn := hs.2.2.1.1
  have k32 : (nI (kd T q) = (32 : Int32)) = (kd T q = 32) := nI_k (s := 32) (by decide)
  have k20 : (nI (kd T q) = (20 : Int32)) = (kd T q = 20) := nI_k (s := 20) (by decide)
  have k23 : (nI (kd T q) = (23 : Int32)) = (kd T q = 23) := nI_k (s := 23) (by decide)
  have f4 : ∃ D', F_X7_readClause_b90 5 (nI cl) D = some (0, D') ∧ D'.1 (2, 0, 0, 0) 7 = nI (1 + 8 * q + 4) ∧ Sm rtS D D' := by
    obtain ⟨D', e, c, m⟩ := c_fl (k := 4) hc
    rw [F_X7_readClause_b90, show F_X2_fail 4 D = _ from e, cbd_s, grd_t (Or.inl rfl)]
    exact ⟨D', rfl, c, pr_rt (pr7 m)⟩
  rw [F_X7_readClause, grd_t (V5 (by decide)), c_sgn hc, cbd_s]
  simp only [k32, k20, k23]
  unfold pTC
  by_cases c0 : kd T q = 32 ∨ kd T q = 20 ∨ kd T q = 23
  · rw [if_neg (fun x => x c0)]
    have b35 : (if kd T q = 32 then F_X7_readClause_b35 5 (nI cl) (nI cl) (nI (kd T q)) D else if kd T q = 20 then F_X7_readClause_b35 5 (nI cl) (nI cl) (nI (kd T q)) D else if kd T q = 23 then F_X7_readClause_b35 5 (nI cl) (nI cl) (nI (kd T q)) D else cbd (F_X2_fail 0 D) (fun r35 D36 => (grd (r35 = 0 ∨ r35 = 1) (some (r35, D36))))) = F_X7_readClause_b35 5 (nI cl) (nI cl) (nI (kd T q)) D := by
      rcases c0 with c | c | c
      · rw [if_pos c]
      · rw [if_neg (by omega), if_pos c]
      · rw [if_neg (by omega), if_neg (by omega), if_pos c]
    rw [b35]
    have h54 : F_X7_readClause_b35 5 (nI cl) (nI cl) (nI (kd T q)) D = F_X7_readClause_b54 5 (nI cl) (nI cl) (nI (kd T q)) (if kd T q = 20 ∧ 5 ≤ shN h then 1 else 0) D := by
      rw [F_X7_readClause_b35]
      simp only [k20, F_X7_readClause_b53, hs.2.2.1.2]
      by_cases c : kd T q = 20
      · rw [if_pos c]
        by_cases c5 : shN h < 5
        · rw [if_pos (show nI (shN h) < (5 : Int32) from nI_lt (b := 5) c5 (by decide)), if_neg (show ¬ (kd T q = 20 ∧ 5 ≤ shN h) by omega)]
        · rw [if_neg (show ¬ nI (shN h) < (5 : Int32) from nI_nlt (b := 5) (by omega) (by omega)), if_pos ⟨c, by omega⟩]
      · rw [if_neg c, if_neg (fun x => c x.1)]
    rw [h54, F_X7_readClause_b54]
    by_cases c40 : 40 ≤ cl
    · rw [if_pos (show (40 : Int32) ≤ nI cl from nI_le (a := 40) c40 (by omega)), if_pos (Or.inl c40)]
      exact f4
    · rw [if_neg (show ¬ (40 : Int32) ≤ nI cl from nI_ge (b := 40) (by omega) (by decide))]
      simp only [k32, F_X7_readClause_b73]
      have h82 : (if kd T q = 32 then (if nI cl = 0 then F_X7_readClause_b82 5 (nI cl) (nI (kd T q)) (if kd T q = 20 ∧ 5 ≤ shN h then 1 else 0) 1 1 D else F_X7_readClause_b82 5 (nI cl) (nI (kd T q)) (if kd T q = 20 ∧ 5 ≤ shN h then 1 else 0) 1 0 D) else (if nI cl = 0 then F_X7_readClause_b82 5 (nI cl) (nI (kd T q)) (if kd T q = 20 ∧ 5 ≤ shN h then 1 else 0) 0 1 D else F_X7_readClause_b82 5 (nI cl) (nI (kd T q)) (if kd T q = 20 ∧ 5 ≤ shN h then 1 else 0) 0 0 D)) = F_X7_readClause_b82 5 (nI cl) (nI (kd T q)) (if kd T q = 20 ∧ 5 ≤ shN h then 1 else 0) (if kd T q = 32 then 1 else 0) (if cl = 0 then 1 else 0) D := by
        by_cases c1 : kd T q = 32
        · rw [if_pos c1, if_pos c1]
          by_cases c2 : cl = 0
          · rw [if_pos (by rw [c2]; rfl), if_pos c2]
          · rw [if_neg (nI_ne0 (by omega) (by omega)), if_neg c2]
        · rw [if_neg c1, if_neg c1]
          by_cases c2 : cl = 0
          · rw [if_pos (by rw [c2]; rfl), if_pos c2]
          · rw [if_neg (nI_ne0 (by omega) (by omega)), if_neg c2]
      rw [h82, F_X7_readClause_b82]
      by_cases c1 : kd T q = 32 ↔ cl = 0
      · have e1 : (if kd T q = 32 then (1 : Int32) else 0) = (if cl = 0 then 1 else 0) := by
          by_cases c2 : cl = 0
          · rw [if_pos (c1.mpr c2), if_pos c2]
          · rw [if_neg (fun x => c2 (c1.mp x)), if_neg c2]
        rw [if_pos e1]
        by_cases c5 : kd T q = 20 ∧ 5 ≤ shN h
        · rw [i1t c5, if_pos (Or.inr (Or.inr c5))]
          exact f4
        · rw [i1f c5, if_neg (by rintro (x | x | x); exact c40 x; exact x c1; exact c5 x)]
          obtain ⟨D1, es, cs, ms⟩ := c_stp hc (by omega)
          have hs1 := hs.pr (pr6 ms)
          rw [es, vbd_s]
          simp only [k32, k20]
          have tr : ∀ (R : Nat ⊕ (Shp × Nat)) (F : Dt → Option (Int32 × Dt)), (match R with
              | .inl f => ∃ D', F D1 = some (0, D') ∧ D'.1 (2, 0, 0, 0) 7 = nI f ∧ Sm rtS D1 D'
              | .inr (h1, q1) => ∃ D', F D1 = some (1, D') ∧ CP D' T q1 ∧ ShC D' 5 h1 ∧ Sm rtS D1 D') → (match R with
              | .inl f => ∃ D', (cbd (F D1) (fun r28 D29 => (grd (r28 = 0 ∨ r28 = 1) (some (r28, D29))))) = some (0, D') ∧ D'.1 (2, 0, 0, 0) 7 = nI f ∧ Sm rtS D D'
              | .inr (h1, q1) => ∃ D', (cbd (F D1) (fun r28 D29 => (grd (r28 = 0 ∨ r28 = 1) (some (r28, D29))))) = some (1, D') ∧ CP D' T q1 ∧ ShC D' 5 h1 ∧ Sm rtS D D') := by
            intro R F hR
            cases R with
            | inl f =>
              obtain ⟨D', e, a, m⟩ := hR
              simp only
              rw [e, cbd_s, grd_t (Or.inl rfl)]
              exact ⟨D', rfl, a, (pr_rt (pr6 ms)).trans m⟩
            | inr w =>
              obtain ⟨D', e, a, b, m⟩ := hR
              simp only
              rw [e, cbd_s, grd_t (Or.inr rfl)]
              exact ⟨D', rfl, a, b, (pr_rt (pr6 ms)).trans m⟩
          by_cases d1 : kd T q = 32
          · rw [if_pos d1, if_pos d1]
            exact tr _ _ (c_readRates cs hs1)
          · rw [if_neg d1, if_neg d1]
            by_cases d2 : kd T q = 20
            · rw [if_pos d2, if_pos d2]
              exact tr _ _ (c_readLand cs hs1 (by omega))
            · rw [if_neg d2, if_neg d2]
              exact tr _ _ (c_readSun cs hs1)
      · have e1 : ¬ (if kd T q = 32 then (1 : Int32) else 0) = (if cl = 0 then 1 else 0) := by
          intro e
          apply c1
          by_cases c2 : cl = 0
          · by_cases c3 : kd T q = 32
            · exact ⟨fun _ => c2, fun _ => c3⟩
            · rw [if_pos c2, if_neg c3] at e
              exact absurd e (by decide)
          · by_cases c3 : kd T q = 32
            · rw [if_neg c2, if_pos c3] at e
              exact absurd e (by decide)
            · exact ⟨fun x => absurd x c3, fun x => absurd x c2⟩
        rw [if_neg e1, if_pos (Or.inr (Or.inl c1))]
        exact f4
  · rw [if_pos c0, if_neg (fun x => c0 (Or.inl x)), if_neg (fun x => c0 (Or.inr (Or.inl x))), if_neg (fun x => c0 (Or.inr (Or.inr x)))]
    obtain ⟨D', e, c, m⟩ := c_fl (k := 0) hc
    simp only
    rw [show F_X2_fail 0 D = _ from e, cbd_s, grd_t (Or.inl rfl)]
    exact ⟨D', rfl, c, pr_rt (pr7 m)⟩
theorem c_tLoop {T : Tp} {kk : Dt → Option (Int32 × Dt)} : ∀ m fu cl D h q, cl + m = 41 → m < fu → CP D T q → ShC D 5 h → match pTb T m cl h q with
    | .inl f => m ≠ 0 → ∃ D', F_X7_read_b6 5 kk fu (nI cl) D = some (nI f, D') ∧ Sm rtS D D'
    | .inr h1 => ∃ D', F_X7_read_b6 5 kk fu (nI cl) D = kk D' ∧ ShC D' 5 h1 ∧ Sm rtS D D' := by
  intro m
  induction m with
  | zero =>
    intro fu cl D h q hcl hf hc hs
    rw [pTb]
    exact fun x => absurd rfl x
  | succ m ih =>
    intro fu cl D h q hcl hf hc hs
    obtain ⟨fu, rfl⟩ : ∃ g, fu = g + 1 := ⟨fu - 1, by omega⟩
    have hcx := c_tClause (cl := cl) hc hs (by omega)
    rw [pTb, F_X7_read_b6, if_neg (show ¬ (40 : Int32) < nI cl from nI_nlt (a := 40) (by omega) (by decide))]
    cases e : pTC T h cl q with
    | inl f =>
      rw [e] at hcx
      obtain ⟨D1, e1, f1, m1⟩ := hcx
      simp only
      intro _
      rw [e1, cbd_s, if_pos rfl, f1]
      exact ⟨D1, rfl, m1⟩
    | inr w =>
      obtain ⟨h1, q1⟩ := w
      rw [e] at hcx
      obtain ⟨D1, e1, c1, s1, m1⟩ := hcx
      simp only
      rw [e1, cbd_s, if_neg (show ¬ (1 : Int32) = 0 by decide), c_sgn c1, cbd_s]
      have hkb := kd_b (T := T) (p := q1)
      by_cases d1 : kd T q1 = 0
      · rw [if_pos d1]
        simp only
        rw [if_pos (by rw [d1]; rfl)]
        exact ⟨D1, rfl, s1, m1⟩
      · rw [if_neg d1, if_neg (nI_ne0 (by omega) (by omega))]
        by_cases d2 : kd T q1 = 4
        · rw [if_pos d2]
          obtain ⟨D2, e2, c2, m2⟩ := (c_demand (s := 4) c1 (by decide) (by decide)).1 d2
          rw [show F_X2_demand 4 D1 = _ from e2, cbd_s, if_neg (by decide), bnd_e, nI_1]
          have ih' := ih fu (cl + 1) D2 h1 (nq T q1) (by omega) (by omega) c2 (s1.pr m2)
          cases m with
          | zero =>
            exfalso
            have hcl40 : cl = 40 := by omega
            unfold pTC at e
            rw [hcl40] at e
            split at e
            · cases e
            · rw [if_pos (Or.inl (Nat.le_refl _))] at e
              cases e
          | succ m =>
            cases e3 : pTb T (m + 1) (cl + 1) h1 (nq T q1) with
            | inl f =>
              rw [e3] at ih'
              obtain ⟨D3, e4, m3⟩ := ih' (by omega)
              simp only
              intro _
              exact ⟨D3, e4, (m1.trans (pr_rt m2)).trans m3⟩
            | inr h2 =>
              rw [e3] at ih'
              obtain ⟨D3, e4, s3, m3⟩ := ih'
              simp only
              exact ⟨D3, e4, s3, (m1.trans (pr_rt m2)).trans m3⟩
        · rw [if_neg d2]
          obtain ⟨D2, e2, f2, m2⟩ := (c_demand (s := 4) c1 (by decide) (by decide)).2 d2
          simp only
          intro _
          rw [show F_X2_demand 4 D1 = _ from e2, cbd_s, if_pos rfl, f2]
          exact ⟨D2, rfl, m1.trans (pr_rt m2)⟩
