/-! ===== the class reads a RULE ===== -/
def ruS (j : Nat) : LA → Nat → Bool := fun la k => prS la k || (la == (4, 0, 0, 0) && k == 1) || la == (3, j, 1, 0) || la == (3, j, 2, 0) || (la == (3, j, 0, 0) && k == 2)
theorem pr_ru {j : Nat} {D D' : Dt} (s : Sm prS D D') : Sm (ruS j) D D' := s.mono (fun la k e => by
  unfold ruS at e
  simp only [Bool.or_eq_false_iff] at e
  exact e.1.1.1.1)
def SgC (D : Dt) (j n : Nat) (l : List En) : Prop := ∀ i, i < l.length → D.1 (3, j, 1, 0) (n + i) = (l.getD i (0, 0)).1 ∧ D.1 (3, j, 2, 0) (n + i) = (l.getD i (0, 0)).2
def CSt (D : Dt) (T : Tp) (j q c n : Nat) : Prop := CP D T q ∧ D.1 (4, 0, 0, 0) 1 = nI c ∧ D.1 (3, j, 0, 0) 2 = nI n
def RuO (T : Tp) (j n : Nat) (D : Dt) (q c : Nat) (l : List En) (D' : Dt) : Prop := CSt D' T j q c (n + l.length) ∧ SgC D' j n l ∧ (∀ k, k < n → D'.1 (3, j, 1, 0) k = D.1 (3, j, 1, 0) k ∧ D'.1 (3, j, 2, 0) k = D.1 (3, j, 2, 0) k) ∧ Sm (ruS j) D D'
theorem RuO.seq {T : Tp} {j n q1 c1 q2 c2 : Nat} {D D1 D2 : Dt} {l1 l2 : List En} (h : RuO T j n D q1 c1 l1 D1) (g : RuO T j (n + l1.length) D1 q2 c2 l2 D2) : RuO T j n D q2 c2 (l1 ++ l2) D2 := by
  obtain ⟨a1, a2, a3, a4⟩ := h
  obtain ⟨b1, b2, b3, b4⟩ := g
  refine ⟨by rw [List.length_append, ← Nat.add_assoc]; exact b1, fun i hi => ?_, fun k hk => ?_, a4.trans b4⟩
  · rw [List.length_append] at hi
    by_cases c : i < l1.length
    · obtain ⟨x1, x2⟩ := b3 (n + i) (by omega)
      rw [x1, x2, show (l1 ++ l2).getD i (0, 0) = l1.getD i (0, 0) by simp [List.getD, List.getElem?_append_left c]]
      exact a2 i c
    · have := b2 (i - l1.length) (by omega)
      rw [show n + l1.length + (i - l1.length) = n + i by omega] at this
      rw [show (l1 ++ l2).getD i (0, 0) = l2.getD (i - l1.length) (0, 0) by simp [List.getD, List.getElem?_append_right (show l1.length ≤ i by omega)]]
      exact this
  · obtain ⟨x1, x2⟩ := b3 k (by omega)
    obtain ⟨y1, y2⟩ := a3 k hk
    exact ⟨x1.trans y1, x2.trans y2⟩
theorem RuO.nil {T : Tp} {j n q c : Nat} {D D' : Dt} (h : CSt D' T j q c n) (s : Sm prS D D') : RuO T j n D q c [] D' := by
  refine ⟨h, fun i hi => absurd hi (Nat.not_lt_zero i), fun k _ => ?_, pr_ru s⟩
  have : ∀ a, D'.1 (3, j, a, 0) k = D.1 (3, j, a, 0) k := fun a => s.i (by simp [prS])
  exact ⟨this 1, this 2⟩
def RuC (T : Tp) (j n : Nat) (D : Dt) (x : PR) (res : Option (Int32 × Dt)) : Prop := match x with
  | .inl f => ∃ D', res = some (0, D') ∧ D'.1 (2, 0, 0, 0) 7 = nI f ∧ Sm (ruS j) D D'
  | .inr (q, c, l) => ∃ D', res = some (1, D') ∧ RuO T j n D q c l D'
/-- behind a part that went well -/
theorem RuC.seq {T : Tp} {j n q1 c1 : Nat} {D D1 : Dt} {l1 : List En} {f : Nat → Nat → PR} {res : Option (Int32 × Dt)} (h : RuO T j n D q1 c1 l1 D1) (g : RuC T j (n + l1.length) D1 (f q1 c1) res) : RuC T j n D (pB (.inr (q1, c1, l1)) f) res := by
  unfold pB
  simp only
  unfold RuC at g ⊢
  cases e : f q1 c1 with
  | inl e' =>
    rw [e] at g
    obtain ⟨D', a, b, c⟩ := g
    exact ⟨D', a, b, h.2.2.2.trans c⟩
  | inr y =>
    obtain ⟨q2, c2, l2⟩ := y
    rw [e] at g
    obtain ⟨D', a, b⟩ := g
    exact ⟨D', a, h.seq b⟩
theorem RuC.to {T : Tp} {j n : Nat} {D : Dt} {x y : PR} {res : Option (Int32 × Dt)} (h : RuC T j n D x res) (e : x = y) : RuC T j n D y res := by rw [← e]; exact h
/-- the place where it stands fails -/
theorem RuC.fail {T : Tp} {j n q c k m : Nat} {D : Dt} (h : CSt D T j q c m) : ∃ D', F_X2_fail (nI k) D = some (0, D') ∧ RuC T j n D (.inl (1 + 8 * q + k)) (some (0, D')) := by
  obtain ⟨D', e, f, s⟩ := c_fl (k := k) h.1
  exact ⟨D', e, D', rfl, f, pr_ru (pr7 s)⟩
theorem V3 {j : Nat} (h : j < 6) : V (3, j, 0, 0) = true := by simp [V, nO, h]
theorem c_radd {T : Tp} {j n q c : Nat} {D : Dt} {a b : Int32} (hj : j < 6) (hn : n < 400) (h : CSt D T j q c n) : ∃ D', F_X3_add j a b D = some D' ∧ RuO T j n D q c [(a, b)] D' := by
  obtain ⟨h1, h2, h3⟩ := h
  have e1 : (setI D (3, j, 1, 0) n a).1 (3, j, 0, 0) 2 = nI n := by rw [gI, if_neg (by simp)]; exact h3
  have e2 : (setI (setI D (3, j, 1, 0) n a) (3, j, 2, 0) n b).1 (3, j, 0, 0) 2 = nI n := by rw [gI, if_neg (by simp)]; exact e1
  have hb := inBe hn (by decide)
  have hc : (nI n).toNatClampNeg = n := nIc (by omega)
  rw [F_X3_add, grd_t (V3 hj), h3, if_neg (show ¬ (400 : Int32) ≤ nI n from nI_ge (b := 400) hn (by decide)), grd_t hb, hc, bnd_e, e1, grd_t hb, hc, bnd_e, e2, nI_1, bnd_e]
  generalize hD' : setI (setI (setI D (3, j, 1, 0) n a) (3, j, 2, 0) n b) (3, j, 0, 0) 2 (nI (n + 1)) = D'
  have m : Sm (ruS j) D D' := by
    rw [← hD']
    exact ((Sm.sI (by simp [ruS])).trans (Sm.sI (by simp [ruS]))).trans (Sm.sI (by simp [ruS]))
  have m3 : Sm (fun la _ => la.1 == 3) D D' := by
    rw [← hD']
    exact ((Sm.sI (by simp)).trans (Sm.sI (by simp))).trans (Sm.sI (by simp))
  refine ⟨D', rfl, ⟨h1.sm m3 (fun _ _ _ _ => by simp) (fun _ _ _ => by simp), by rw [m3.i (by simp)]; exact h2, by rw [← hD', gI_s]; rfl⟩, fun i hi => ?_, fun k hk => ?_, m⟩
  · have : i = 0 := by simp only [List.length_cons, List.length_nil] at hi; omega
    subst this
    rw [← hD']
    simp [gI]
  · rw [← hD']
    have : ¬ k = n := by omega
    simp [gI, this]
theorem CSt.stp {T : Tp} {j q c n : Nat} {D : Dt} (h : CSt D T j q c n) (hk : kd T q ≠ 0) : ∃ D', F_X2_step D = some D' ∧ CSt D' T j (nq T q) c n ∧ Sm prS D D' := by
  obtain ⟨D', e, cp, m⟩ := c_stp h.1 hk
  exact ⟨D', e, ⟨cp, by rw [m.i (by simp)]; exact h.2.1, by rw [m.i (by simp)]; exact h.2.2⟩, pr6 m⟩
theorem CSt.cnt {T : Tp} {j q c n : Nat} {D : Dt} (h : CSt D T j q c n) : CSt (setI D (4, 0, 0, 0) 1 (nI (c + 1))) T j q (c + 1) n ∧ Sm (ruS j) D (setI D (4, 0, 0, 0) 1 (nI (c + 1))) ∧ ∀ a k, (setI D (4, 0, 0, 0) 1 (nI (c + 1))).1 (3, j, a, 0) k = D.1 (3, j, a, 0) k := by
  have m : Sm (fun la k => la == (4, 0, 0, 0)) D (setI D (4, 0, 0, 0) 1 (nI (c + 1))) := Sm.sI (by simp)
  exact ⟨⟨h.1.sm m (fun _ _ _ _ => by simp) (fun _ _ _ => by simp), gI_s, by rw [m.i (by simp)]; exact h.2.2⟩, Sm.sI (by simp [ruS]), fun a k => m.i (by simp)⟩
theorem RuO.pre {T : Tp} {j n q c : Nat} {D D0 D' : Dt} {l : List En} (h : RuO T j n D0 q c l D') (s : Sm (ruS j) D D0) (u : ∀ a k, D0.1 (3, j, a, 0) k = D.1 (3, j, a, 0) k) : RuO T j n D q c l D' := ⟨h.1, h.2.1, fun k hk => ⟨(h.2.2.1 k hk).1.trans (u 1 k), (h.2.2.1 k hk).2.trans (u 2 k)⟩, s.trans h.2.2.2⟩
theorem c_rVal {T : Tp} {j n q c : Nat} {D : Dt} (hj : j < 6) (hc : c ≤ 60) (hn : n < 400) (h : CSt D T j q c n) : RuC T j n D (pVal T q c) (F_X4_readValue j D) := by
  have hkb := kd_b (T := T) (p := q)
  have k1 : (nI (kd T q) = (1 : Int32)) = (kd T q = 1) := nI_k (s := 1) (by decide)
  have k2 : (nI (kd T q) = (2 : Int32)) = (kd T q = 2) := nI_k (s := 2) (by decide)
  rw [F_X4_readValue, grd_t (V3 hj), c_sgn h.1, cbd_s]
  simp only [k2]
  unfold pVal
  generalize hv : (if kd T q = 1 then ((1 : Int32), nI (nm T q)) else (20, nI (kd T q - 20))) = ve
  have fl : ∀ k : Nat, RuC T j n D (.inl (1 + 8 * q + k)) (cbd (F_X2_fail (nI k) D) (fun r D' => (grd (r = 0 ∨ r = 1) (some (r, D'))))) := fun k => by
    obtain ⟨D', e, r⟩ := RuC.fail (n := n) (k := k) h
    rw [e, cbd_s, grd_t (Or.inl rfl)]
    exact r
  -- a value that may stand here
  have good : ∀ (word : Bool), (word = true ↔ (20 ≤ kd T q ∧ kd T q < 32)) → (word = false → kd T q = 1) → RuC T j n D (if 60 ≤ c then .inl (1 + 8 * q + 3) else .inr (nq T q, c + 1, [ve])) (F_X4_readValue_b58 j (nI (kd T q)) (if word = true then 1 else 0) D) := by
    intro word hw hw1
    rw [F_X4_readValue_b58, h.2.1]
    by_cases c60 : 60 ≤ c
    · rw [if_pos c60, if_neg (show ¬ nI c < (60 : Int32) from nI_nlt (b := 60) c60 (by omega))]
      exact fl 3
    · rw [if_neg c60, if_pos (show nI c < (60 : Int32) from nI_lt (b := 60) (by omega) (by decide)), nI_1, bnd_e]
      obtain ⟨h1, m1, u1⟩ := h.cnt
      generalize setI D (4, 0, 0, 0) 1 (nI (c + 1)) = D1 at h1 m1 u1 ⊢
      have fin : ∀ a b : Int32, (a, b) = ve → RuC T j n D (.inr (nq T q, c + 1, [ve])) (F_X4_readValue_b115 j a b D1) := by
        intro a b hab
        obtain ⟨D2, e2, r2⟩ := c_radd (a := a) (b := b) hj hn h1
        have hcs := r2.1
        obtain ⟨D3, e3, cs3, m3⟩ := hcs.stp (by
          cases word with
          | true => have := hw.mp rfl; omega
          | false => have := hw1 rfl; omega)
        rw [F_X4_readValue_b115, e2, vbd_s, e3, vbd_s, ← hab]
        exact ⟨D3, rfl, (RuO.seq (RuO.pre r2 m1 u1) (RuO.nil cs3 m3)).1, (RuO.seq (RuO.pre r2 m1 u1) (RuO.nil cs3 m3)).2⟩
      cases word with
      | true =>
        have hr := hw.mp rfl
        rw [if_pos rfl, if_neg (show ¬ (1 : Int32) = 0 by decide), F_X4_readValue_b97, if_neg (show ¬ (1 : Int32) = 0 by decide), show nI (kd T q) - 20 = nI (kd T q - 20) from pk_sub (b := 20) hr.1]
        exact fin _ _ (by rw [← hv, if_neg (by omega)])
      | false =>
        have hr := hw1 rfl
        rw [if_neg (show ¬ false = true by decide), if_pos rfl, F_X4_readValue_b97, if_pos rfl, c_num h1.1 hr, cbd_s]
        exact fin _ _ (by rw [← hv, if_pos hr])
  by_cases c2 : kd T q = 2
  · rw [if_pos c2, if_pos c2]
    exact fl 1
  · rw [if_neg c2, if_neg c2]
    by_cases cw : 20 ≤ kd T q ∧ kd T q < 32
    · rw [if_pos (Or.inr cw), if_neg (show ¬ nI (kd T q) < (20 : Int32) from nI_nlt (b := 20) (by omega) (by omega)), if_neg (show ¬ (32 : Int32) ≤ nI (kd T q) from nI_ge (b := 32) (by omega) (by decide)), F_X4_readValue_b39]
      simp only [k1]
      rw [if_neg (show ¬ kd T q = 1 by omega), if_neg (show ¬ (1 : Int32) = 0 by decide)]
      exact good true ⟨fun _ => cw, fun _ => rfl⟩ (fun x => by cases x)
    · have e38 : (if nI (kd T q) < (20 : Int32) then F_X4_readValue_b38 j (nI (kd T q)) D else if (32 : Int32) ≤ nI (kd T q) then F_X4_readValue_b38 j (nI (kd T q)) D else F_X4_readValue_b39 j (nI (kd T q)) 1 D) = F_X4_readValue_b38 j (nI (kd T q)) D := by
        by_cases c : kd T q < 20
        · rw [if_pos (show nI (kd T q) < (20 : Int32) from nI_lt (b := 20) c (by decide))]
        · rw [if_neg (show ¬ nI (kd T q) < (20 : Int32) from nI_nlt (b := 20) (by omega) (by omega)), if_pos (show (32 : Int32) ≤ nI (kd T q) from nI_le (a := 32) (by omega) (by omega))]
      rw [e38, F_X4_readValue_b38, F_X4_readValue_b39]
      simp only [k1]
      by_cases c1 : kd T q = 1
      · rw [if_pos c1, if_pos (Or.inl c1)]
        exact good false ⟨fun x => (by cases x), fun x => absurd x cw⟩ (fun _ => c1)
      · rw [if_neg c1, if_neg (by rintro (x | x); exact c1 x; exact cw x)]
        simp only [if_true]
        exact fl 0
