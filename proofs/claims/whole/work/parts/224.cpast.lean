theorem V6 {n : Nat} (h : n < 111) : V (6, n, 0, 0) = true := by simp [V, nO, h]
theorem V0 {n : Nat} (h : n < 5) : V (0, n, 0, 0) = true := by simp [V, nO, h]
theorem V9 {n : Nat} (h : n < 5) : V (9, n, 0, 0) = true := by simp [V, nO, h]
theorem V5 {n : Nat} (h : n < 6) : V (5, n, 0, 0) = true := by simp [V, nO, h]
def pcS (w : Nat) : LA → Nat → Bool := fun la _ => (la.1 == 0 && la.2.1 == w) || (la.1 == 6 && decide (21 * w < la.2.1 ∧ la.2.1 ≤ 21 * w + 20))
theorem pcS_5 {w x a b k : Nat} : pcS w (5, x, a, b) k = false := by simp [pcS]
theorem pcS_9 {w x a b k : Nat} : pcS w (9, x, a, b) k = false := by simp [pcS]
theorem pcS_6 {w x a b k : Nat} (h : ¬ (21 * w < x ∧ x ≤ 21 * w + 20)) : pcS w (6, x, a, b) k = false := by simp [pcS]; omega
theorem pcS_st {w i : Nat} (h : 21 * w < i ∧ i ≤ 21 * w + 20) {D D' : Dt} (s : Sm (stS i) D D') : Sm (pcS w) D D' := s.mono (fun la k e => by
  simp only [pcS, stS, Bool.or_eq_false_iff, Bool.and_eq_false_iff, decide_eq_false_iff_not, beq_eq_false_iff_ne] at e ⊢
  rcases e.2 with g | g
  · exact Or.inl g
  · exact Or.inr (fun x => g (by omega)))
theorem RCw.past {D D' : Dt} {w n : Nat} {f : Nat → St} {W : Wo} (r : RCw D w W) (hs : Sm (pcS w) D D') (hn : n ≤ 20) (h4 : D'.1 (0, w, 0, 0) 1 = nI n) (h5 : ∃ p, Pm D' w p ∧ ∀ j, j < n → rdS D' (21 * w + 1 + p j) = f j) : RCw D' w (W.1, W.2.1, n, f, W.2.2.2.2) := by
  obtain ⟨g1, g2, _, _, _, g7, g8, g9, g10, g11⟩ := r
  refine ⟨g1.sm hs (fun _ _ _ => pcS_5), ?_, hn, h4, h5, g7, ?_, fun j hj => ?_, ?_, ?_⟩
  · rw [rdS_sm hs (fun q k => pcS_6 (by omega))]; exact g2
  · rw [hs.i pcS_9]; exact g8
  · rw [hs.i pcS_9, hs.i pcS_9, hs.i pcS_9]; exact g9 j hj
  · rw [hs.i pcS_9]; exact g10
  · rw [hs.i pcS_9]; exact g11
theorem RCw.st {D D' : Dt} {w : Nat} {s : St} {W : Wo} (r : RCw D w W) (hs : Sm (stS (21 * w)) D D') (h : rdS D' (21 * w) = s) : RCw D' w (W.1, s, W.2.2) := by
  obtain ⟨g1, g2, g3, g4, ⟨p, g5, g6⟩, g7, g8, g9, g10, g11⟩ := r
  have z0 : ∀ a b k, stS (21 * w) (0, w, a, b) k = false := fun a b k => by simp [stS]
  have z9 : ∀ a b k, stS (21 * w) (9, w, a, b) k = false := fun a b k => by simp [stS]
  refine ⟨g1.sm hs (fun _ _ _ => by simp [stS]), h, g3, ?_, ⟨p, g5.sm hs (fun k => z0 _ _ _), fun j hj => ?_⟩, g7, ?_, fun j hj => ?_, ?_, ?_⟩
  · rw [hs.i (z0 _ _ _)]; exact g4
  · rw [rdS_sm hs (fun q k => by simp [stS]; omega)]; exact g6 j hj
  · rw [hs.i (z9 _ _ _)]; exact g8
  · rw [hs.i (z9 _ _ _), hs.i (z9 _ _ _), hs.i (z9 _ _ _)]; exact g9 j hj
  · rw [hs.i (z9 _ _ _)]; exact g10
  · rw [hs.i (z9 _ _ _)]; exact g11
theorem gI_s {D : Dt} {la : LA} {k : Nat} {v : Int32} : (setI D la k v).1 la k = v := by rw [gI, if_pos ⟨rfl, rfl⟩]
theorem rdS_sI {D : Dt} {la : LA} {k i : Nat} {v : Int32} (h : ¬ la.1 = 6) : rdS (setI D la k v) i = rdS D i := rdX_cong (fun q k _ _ => by
  rw [gI, if_neg (fun x => h (by rw [← x.1]))]) (fun k _ => by rw [gI, if_neg (fun x => h (by rw [← x.1]))])
theorem c_keep13 {D : Dt} {w P : Nat} {p : Nat → Nat} (hw : w < 5) (hP : P < 20) (h4 : D.1 (0, w, 0, 0) 1 = nI P) (hp : Pm D w p) : ∃ D', F_X0_keep_b13 w (21 * w) D = some D' ∧ D'.1 (0, w, 0, 0) 1 = nI (P + 1) ∧ Pm D' w p ∧ rdS D' (21 * w + 1 + p P) = rdS D (21 * w) ∧ (∀ j, j < 20 → j ≠ P → rdS D' (21 * w + 1 + p j) = rdS D (21 * w + 1 + p j)) ∧ Sm (pcS w) D D' := by
  obtain ⟨q1, q2⟩ := hp.1 P hP
  have v1 : V (6, 21 * w + 1 + p P, 0, 0) = true := V6 (by omega)
  have v2 : V (6, 21 * w, 0, 0) = true := V6 (by omega)
  obtain ⟨D1, e1, r1, m1⟩ := c_copyFrom (D := D) v1 v2
  rw [F_X0_keep_b13, h4, grd_t (inBe hP (by decide)), nIc (by omega), q2, obd_s, grd_t v1, e1, vbd_s, bnd_ei]
  have s1 : Sm (pcS w) D D1 := pcS_st (by omega) m1
  have s2 : Sm (pcS w) D1 (setI D1 (0, w, 0, 0) 1 (D1.1 (0, w, 0, 0) 1 + 1)) := Sm.sI (by simp [pcS])
  refine ⟨_, rfl, ?_, ?_, ?_, ?_, s1.trans s2⟩
  · rw [gI_s, m1.i (by simp [stS]), h4, nI_1]
  · have := hp.sm m1 (fun k => by simp [stS])
    exact ⟨this.1, this.2⟩
  · rw [rdS_sI (by simp), r1]
  · intro j hj hne
    rw [rdS_sI (by simp), rdS_sm m1]
    intro q k
    have := (hp.1 j hj).1
    have : p j ≠ p P := fun e => hne (hp.2 j P hj hP e)
    simp [stS]
    omega
theorem gR_s {D : Dt} {la : LA} {k : Nat} {v : Option Nat} : (setR D la k v).2.2 la k = v := by rw [gR, if_pos ⟨rfl, rfl⟩]
theorem rdS_sR {D : Dt} {la : LA} {k i : Nat} {v : Option Nat} : rdS (setR D la k v) i = rdS D i := rfl
theorem c_forget {D : Dt} {w : Nat} {p : Nat → Nat} (hw : w < 5) (hp : Pm D w p) : ∃ D', F_X0_forgetFirst w D = some D' ∧ D'.1 (0, w, 0, 0) 1 = nI 19 ∧ Pm D' w (fun j => if j = 19 then p 0 else p (j + 1)) ∧ (∀ i, rdS D' i = rdS D i) ∧ Sm (pcS w) D D' := by
  obtain ⟨q1, q2⟩ := hp.1 0 (by decide)
  have v1 : V (6, 21 * w + 1 + p 0, 0, 0) = true := V6 (by omega)
  rw [F_X0_forgetFirst, grd_t (V0 hw), q2, obd_s, grd_t v1]
  obtain ⟨D1, f1, e1⟩ := lpC (fun fu j E => F_X0_forgetFirst_b9 w (fun l1_10 D11 => (grd (V (6, l1_10, 0, 0) = true) (bnd (setR D11 (0, w, 1, 0) 19 (some l1_10)) (fun D12 => (bnd (setI D12 (0, w, 0, 0) 1 (19 : Int32)) (fun D13 => (some D13))))))) fu (21 * w + 1 + p 0) (nI (j + 1)) E) (fun j E => E.1 = D.1 ∧ E.2.1 = D.2.1 ∧ (∀ la k, la ≠ (0, w, 1, 0) → E.2.2 la k = D.2.2 la k) ∧ (∀ k, k < j → E.2.2 (0, w, 1, 0) k = D.2.2 (0, w, 1, 0) (k + 1)) ∧ (∀ k, j ≤ k → E.2.2 (0, w, 1, 0) k = D.2.2 (0, w, 1, 0) k)) 19 _ (by
    intro fu j E hj ⟨a1, a2, a3, a4, a5⟩
    obtain ⟨r1, r2⟩ := hp.1 (j + 1) (by omega)
    have vj : V (6, 21 * w + 1 + p (j + 1), 0, 0) = true := V6 (by omega)
    have hE : E.2.2 (0, w, 1, 0) (j + 1) = some (21 * w + 1 + p (j + 1)) := by rw [a5 _ (by omega), r2]
    refine ⟨setR E (0, w, 1, 0) j (some (21 * w + 1 + p (j + 1))), ⟨a1, a2, ?_, ?_, ?_⟩, ?_⟩
    · intro la k c
      rw [gR, if_neg (fun x => c x.1), a3 la k c]
    · intro k hk
      rw [gR]
      by_cases c : k = j
      · rw [if_pos ⟨rfl, c⟩, c, r2]
      · rw [if_neg (fun x => c x.2), a4 k (by omega)]
    · intro k hk
      rw [gR, if_neg (by omega), a5 k (by omega)]
    · show F_X0_forgetFirst_b9 w _ (fu + 1) _ (nI (j + 1)) E = F_X0_forgetFirst_b9 w _ fu _ (nI (j + 1 + 1)) _
      rw [F_X0_forgetFirst_b9, grd_t v1, if_neg (show ¬ (20 : Int32) ≤ nI (j + 1) from nI_ge (b := 20) (by omega) (by decide)), grd_t (inBe (show j + 1 < 20 by omega) (by decide)), nIc (by omega), hE, obd_s, grd_t vj]
      simp only [nI_pred, bnd_e, nI_1]
      rw [grd_t (inBe (show j < 20 by omega) (by decide)), nIc (by omega)]) (by
    intro fu E _
    show F_X0_forgetFirst_b9 w _ (fu + 1) _ (nI (19 + 1)) E = _
    rw [F_X0_forgetFirst_b9, grd_t v1, if_pos (show (20 : Int32) ≤ nI (19 + 1) from nI_le (a := 20) (by omega) (by omega))]) 19 2000 0 D (by omega) (by omega) ⟨rfl, rfl, fun _ _ _ => rfl, fun k hk => absurd hk (by omega), fun _ _ => rfl⟩
  obtain ⟨a1, a2, a3, a4, a5⟩ := f1
  rw [show F_X0_forgetFirst_b9 w _ 2000 _ 1 D = _ from e1]
  simp only [bnd_e]
  rw [grd_t v1]
  refine ⟨_, rfl, ?_, ⟨fun j hj => ?_, fun i j hi hj e => ?_⟩, fun i => ?_, ?_⟩
  · rw [gI_s]; rfl
  · show _ ∧ (setR D1 (0, w, 1, 0) 19 (some (21 * w + 1 + p 0))).2.2 (0, w, 1, 0) j = _
    simp only
    by_cases c : j = 19
    · rw [if_pos c, c, gR_s]
      exact ⟨q1, rfl⟩
    · rw [if_neg c, gR, if_neg (fun x => c x.2), a4 j (by omega)]
      exact hp.1 (j + 1) (by omega)
  · by_cases ci : i = 19
    · by_cases cj : j = 19
      · omega
      · simp only [ci, if_true, if_neg cj] at e
        have := hp.2 0 (j + 1) (by decide) (by omega) e
        omega
    · by_cases cj : j = 19
      · simp only [cj, if_true, if_neg ci] at e
        have := hp.2 (i + 1) 0 (by omega) (by decide) e
        omega
      · simp only [if_neg ci, if_neg cj] at e
        have := hp.2 (i + 1) (j + 1) (by omega) (by omega) e
        omega
  · rw [rdS_sI (by simp), rdS_sR, rdS_eq a1]
  · intro la k e
    have n0 : ¬ (la.1 = 0 ∧ la.2.1 = w) := by
      rintro ⟨x, y⟩
      simp [pcS, x, y] at e
    refine ⟨?_, ?_, ?_⟩
    · rw [gI, if_neg (fun x => n0 (by rw [x.1]; exact ⟨rfl, rfl⟩)), gR1, a1]
    · show D1.2.1 la k = _
      rw [a2]
    · show (setR D1 (0, w, 1, 0) 19 (some (21 * w + 1 + p 0))).2.2 la k = _
      rw [gR, if_neg (fun x => n0 (by rw [x.1]; exact ⟨rfl, rfl⟩)), a3 la k (fun x => n0 (by rw [x]; exact ⟨rfl, rfl⟩))]
theorem c_keep {D : Dt} {w : Nat} {W : Wo} (hw : w < 5) (r : RCw D w W) : ∃ D', F_X0_keep w (21 * w) D = some D' ∧ RCw D' w (pushW W) ∧ Sm (pcS w) D D' := by
  have r' := r
  obtain ⟨g1, g2, g3, g4, ⟨p, g5, g6⟩, -⟩ := r
  rw [F_X0_keep, grd_t (V0 hw), grd_t (V6 (by omega)), g4]
  by_cases c : woP W < 20
  · rw [if_pos (show nI (woP W) < (20 : Int32) from nI_lt (b := 20) c (by decide))]
    obtain ⟨D', e, a1, a2, a3, a4, a5⟩ := c_keep13 hw c g4 g5
    refine ⟨D', e, ?_, a5⟩
    have hp : pushW W = (W.1, W.2.1, woP W + 1, (fun j => if j = woP W then woS W else woF W j), W.2.2.2.2) := by unfold pushW; rw [if_pos c, if_pos c]
    rw [hp]
    refine r'.past a5 (by omega) a1 ⟨p, a2, fun j hj => ?_⟩
    by_cases cj : j = woP W
    · rw [if_pos cj, cj, a3, g2]
    · rw [if_neg cj, a4 j (by omega) cj, g6 j (by omega)]
  · have hP : woP W = 20 := by omega
    rw [hP, if_neg (show ¬ nI 20 < (20 : Int32) from nI_nlt (a := 20) (b := 20) (by omega) (by decide))]
    obtain ⟨D1, e1, b1, b2, b3, b4⟩ := c_forget hw g5
    rw [e1, vbd_s]
    obtain ⟨D', e, a1, a2, a3, a4, a5⟩ := c_keep13 hw (show 19 < 20 by decide) b1 b2
    refine ⟨D', e, ?_, b4.trans a5⟩
    have hp : pushW W = (W.1, W.2.1, 20, (fun j => if j = 19 then woS W else woF W (j + 1)), W.2.2.2.2) := by unfold pushW; rw [if_neg c, if_neg c]
    rw [hp]
    refine r'.past (b4.trans a5) (by omega) a1 ⟨_, a2, fun j hj => ?_⟩
    by_cases cj : j = 19
    · subst cj
      simp only [if_true] at a3 ⊢
      rw [a3, b3, g2]
    · have := a4 j (by omega) cj
      simp only [if_neg cj] at this ⊢
      rw [this, b3, g6 (j + 1) (by omega)]
def popW (W : Wo) : Wo := (W.1, woF W (woP W - 1), woP W - 1, woF W, W.2.2.2.2)
theorem c_takeBack {D : Dt} {w : Nat} {W : Wo} (hw : w < 5) (r : RCw D w W) (h1 : 1 ≤ woP W) : ∃ D', F_X0_takeBack w (21 * w) D = some (1, D') ∧ RCw D' w (popW W) ∧ Sm (fun la k => wcl w la) D D' := by
  have r' := r
  obtain ⟨g1, g2, g3, g4, ⟨p, g5, g6⟩, -⟩ := r
  obtain ⟨P, hP⟩ : ∃ P, woP W = P + 1 := ⟨woP W - 1, by omega⟩
  obtain ⟨q1, q2⟩ := g5.1 P (by omega)
  have v1 : V (6, 21 * w + 1 + p P, 0, 0) = true := V6 (by omega)
  have v2 : V (6, 21 * w, 0, 0) = true := V6 (by omega)
  rw [F_X0_takeBack, grd_t (V0 hw), grd_t v2, g4, if_pos (show (1 : Int32) ≤ nI (woP W) from nI_le (a := 1) h1 (by omega)), hP, nI_pred, bnd_e, gI_s, grd_t (inBe (show P < 20 by omega) (by decide)), nIc (by omega)]
  rw [show (setI D (0, w, 0, 0) 1 (nI P)).2.2 (0, w, 1, 0) P = some (21 * w + 1 + p P) from q2, obd_s, grd_t v1]
  obtain ⟨D1, e1, r1, m1⟩ := c_copyFrom (D := setI D (0, w, 0, 0) 1 (nI P)) v2 v1
  rw [e1, vbd_s]
  have s0 : Sm (pcS w) D (setI D (0, w, 0, 0) 1 (nI P)) := Sm.sI (by simp [pcS])
  have R1 : RCw (setI D (0, w, 0, 0) 1 (nI P)) w (W.1, W.2.1, P, woF W, W.2.2.2.2) := by
    refine r'.past s0 (by omega) gI_s ⟨p, ⟨g5.1, g5.2⟩, fun j hj => ?_⟩
    rw [rdS_sI (by simp), g6 j (by omega)]
  have hpop : popW W = (W.1, woF W P, P, woF W, W.2.2.2.2) := by unfold popW; rw [hP]; rfl
  refine ⟨D1, rfl, ?_, (s0.mono ?_).trans (m1.mono ?_)⟩
  · rw [hpop]
    refine R1.st m1 ?_
    rw [r1, rdS_sI (by simp), g6 P (by omega)]
  · intro la k e
    simp only [wcl, pcS, Bool.or_eq_false_iff, Bool.and_eq_false_iff, decide_eq_false_iff_not, beq_eq_false_iff_ne] at e ⊢
    omega
  · intro la k e
    simp only [wcl, stS, Bool.or_eq_false_iff, Bool.and_eq_false_iff, decide_eq_false_iff_not, beq_eq_false_iff_ne] at e ⊢
    omega
