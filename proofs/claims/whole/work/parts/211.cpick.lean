theorem c_tellLand {D : Dt} {q i a b w : Nat} {c : Cf} (hi : V (6, i, 0, 0) = true) (hq : V (8, q, 0, 0) = true) (hc : CfC D q c) (ha : a < 5) (hw : rdS D i 5 1 = nI w) (hw2 : w < 2147483648) : ∃ D', F_X8_tellLand q i (nI a) D = some D' ∧ SmL (8, q, 9, 0) D D' ∧ ∀ k, k < 12 → k ≠ 1 → k ≠ 6 → k ≠ 7 → k ≠ 8 → D'.2.1 (8, q, 9, 0) k = wd c (rdS D i) a b k := by
  obtain ⟨x, h1, h2, h3, h4, h5, h6, -⟩ := hc
  have hw3 : D.1 (6, i, 0, 0) 6 = nI w := by rw [s_week, hw]
  have hz : ∀ (E : Dt), E.1 = D.1 → F_X5_soonOf x (nI a) (nI w) E = some (soP (cfT c a) w, E) := fun E hE => c_soonOf h2 ha hw2 (fun k v hk hv => by rw [hE]; exact (h6 k v hk hv).2)
  simp (disch := omega) only [F_X8_tellLand, F_X8_tellLand_b102, grd, hi, hq, h2, inBe, nIc, bnd_e, eq_self, if_true, gL1, gL2, h1, obd_s, reduceCtorEq, if_false, hw3]
  rw [hz, cbd_s]
  rotate_left
  · rfl
  have i10 : inB 10 12 = true := by decide
  have n10 : (10 : Int32).toNatClampNeg = 10 := by decide
  simp only [i10, n10, if_true, gL1]
  refine ⟨_, rfl, ((((((((SmL.set).trans SmL.set).trans SmL.set).trans SmL.set).trans SmL.set).trans SmL.set).trans SmL.set).trans SmL.set), ?_⟩
  intro k hk n1 n6 n7 n8
  have hkN : wkN (rdS D i) = w := by rw [wkN, hw, nIc hw2]
  have : k = 0 ∨ k = 2 ∨ k = 3 ∨ k = 4 ∨ k = 5 ∨ k = 9 ∨ k = 10 ∨ k = 11 := by omega
  rcases this with rfl | rfl | rfl | rfl | rfl | rfl | rfl | rfl <;> simp (disch := omega) [gL, wd, s_men, s_sun, s_hay, s_barn, s_rate, hkN, hw3, hw]
theorem c_tellOther {D : Dt} {q i b : Nat} (hi : V (6, i, 0, 0) = true) (hq : V (8, q, 0, 0) = true) (hb : b < 5) : ∃ D', F_X8_tellOther q i (nI b) D = some D' ∧ SmL (8, q, 9, 0) D D' ∧ (∀ k, k < 12 → k ≠ 1 → k ≠ 6 → k ≠ 7 → k ≠ 8 → D'.2.1 (8, q, 9, 0) k = D.2.1 (8, q, 9, 0) k) ∧ ∀ (c : Cf) (a k : Nat), (k = 1 ∨ k = 6 ∨ k = 7 ∨ k = 8) → D'.2.1 (8, q, 9, 0) k = wd c (rdS D i) a b k := by
  simp (disch := omega) only [F_X8_tellOther, grd, hi, hq, inBe, nIc, bnd_e, eq_self, if_true, gL1, gL2]
  refine ⟨_, rfl, (((SmL.set).trans SmL.set).trans SmL.set).trans SmL.set, ?_, ?_⟩
  · intro k hk n1 n6 n7 n8
    simp [gL, n1, n6, n7, n8]
  · intro c a k hk
    rcases hk with rfl | rfl | rfl | rfl <;> simp (disch := omega) [gL, wd, s_men, s_sun, s_hay]
def SmW (q : Nat) (D D' : Dt) : Prop := D'.1 = D.1 ∧ D'.2.2 = D.2.2 ∧ ∀ l : LA, ¬ (l.1 = 3 ∧ l.2.2.1 = 8) → l ≠ (8, q, 9, 0) → D'.2.1 l = D.2.1 l
theorem SmW.refl {q : Nat} {D : Dt} : SmW q D D := ⟨rfl, rfl, fun _ _ _ => rfl⟩
theorem SmW.trans {q : Nat} {D D1 D2 : Dt} (h : SmW q D D1) (g : SmW q D1 D2) : SmW q D D2 := ⟨g.1.trans h.1, g.2.1.trans h.2.1, fun l a b => (g.2.2 l a b).trans (h.2.2 l a b)⟩
theorem SmL.sw {q : Nat} {D D' : Dt} (h : SmL (8, q, 9, 0) D D') : SmW q D D' := ⟨h.1, h.2.1, fun l _ e => h.2.2 l e⟩
theorem SmL.sw3 {q j : Nat} {D D' : Dt} (h : SmL (3, j, 8, 0) D D') : SmW q D D' := ⟨h.1, h.2.1, fun l e _ => h.2.2 l (fun e2 => e (by rw [e2]; exact ⟨rfl, rfl⟩))⟩
theorem SmW.we {q i : Nat} {D D' : Dt} (h : SmW q D D') : Sm (weS q i) D D' := by
  intro l k e
  refine ⟨by rw [h.1], ?_, by rw [h.2.1]⟩
  rw [h.2.2 l]
  · rintro ⟨e1, e2⟩
    simp [weS, e1, e2] at e
  · rintro rfl
    simp [weS] at e
theorem CfC.sw {D D' : Dt} {q : Nat} {c : Cf} (h : CfC D q c) (hs : SmW q D D') : CfC D' q c := h.sm (i := 0) hs.we
theorem rdS_eq {D D' : Dt} {i : Nat} (h : D'.1 = D.1) : rdS D' i = rdS D i := by unfold rdS rdX; rw [h]
theorem bool01 {b : Bool} : ((if b = true then (1 : Int32) else 0) = 0) = (b = false) := by cases b <;> simp
set_option maxHeartbeats 4000000 in
theorem c_pickStep {D0 D : Dt} {q i a b fu : Nat} {a2 a3 : Int32} {c : Cf} (hi : V (6, i, 0, 0) = true) (hq : V (8, q, 0, 0) = true) (hc : CfC D0 q c) (hs : SmW q D0 D) (ha : a < 5) (hb : b < cfN c) (hwl : cfR c = none → 1 ≤ rdS D0 i 2 a ∧ rdS D0 i 1 a ≤ 0) (hwd : ∀ k, k < 12 → k ≠ 1 → k ≠ 6 → k ≠ 7 → k ≠ 8 → D.2.1 (8, q, 9, 0) k = wd c (rdS D0 i) a b k) : ∃ D', F_X8_pick_b94 q i a2 a3 (fu + 1) (nI a) (nI (cfN c)) (pk1 c (rdS D0 i) a b).2 (pk1 c (rdS D0 i) a b).1 (nI b) D = F_X8_pick_b94 q i a2 a3 fu (nI a) (nI (cfN c)) (pk1 c (rdS D0 i) a (b + 1)).2 (pk1 c (rdS D0 i) a (b + 1)).1 (nI (b + 1)) D' ∧ SmW q D0 D' ∧ (∀ k, k < 12 → k ≠ 1 → k ≠ 6 → k ≠ 7 → k ≠ 8 → D'.2.1 (8, q, 9, 0) k = wd c (rdS D0 i) a b k) := by
  have hcD := hc.sw hs
  have hrd : rdS D i = rdS D0 i := rdS_eq hs.1
  obtain ⟨x, h1, h2, h3, h4, h5, h6, h7, h8, h9, h10, h11⟩ := hcD
  have hb5 : b < 5 := by omega
  rw [F_X8_pick_b94, if_neg (nI_ge hb (by omega)), h8, c_has, cbd_s]
  simp only [bool01]
  by_cases g1 : hasB (cfH c) b = false
  · rw [if_pos g1, c_mayBuy hi ha hb5, cbd_s, hrd]
    simp only [bool01]
    by_cases g2 : pMay (rdS D0 i) a b = false
    · rw [if_pos g2]
      simp only [F_X8_pick_b179, bnd_e, nI_1]
      refine ⟨D, ?_, hs, hwd⟩
      rw [show pk1 c (rdS D0 i) a (b + 1) = pk1 c (rdS D0 i) a b by rw [pk1, if_neg (by simp [g2])]]
    · rw [if_neg g2]
      have g2' : pMay (rdS D0 i) a b = true := by simpa using g2
      obtain ⟨D1, e1, m1, w1, w2⟩ := c_tellOther (D := D) hi hq hb5
      rw [e1, vbd_s]
      have hs1 : SmW q D0 D1 := hs.trans m1.sw
      have hrd1 : rdS D1 i = rdS D0 i := rdS_eq hs1.1
      have wds : ∀ k, k < 12 → D1.2.1 (8, q, 9, 0) k = wd c (rdS D0 i) a b k := by
        intro k hk
        by_cases hk2 : k = 1 ∨ k = 6 ∨ k = 7 ∨ k = 8
        · rw [w2 c a k hk2, hrd]
        · rw [w1 k hk (by omega) (by omega) (by omega) (by omega), hwd k hk (by omega) (by omega) (by omega) (by omega)]
      have hfin : ∀ (D2 : Dt) (v : Int64), SmW q D0 D2 → v = lkP c (rdS D0 i) a b → (∀ k, k < 12 → D2.2.1 (8, q, 9, 0) k = wd c (rdS D0 i) a b k) → ∃ D', F_X8_pick_b161 q i a2 a3 (fun l2 l3 l5 l7 l8 D => (F_X8_pick_b94 q i a2 a3 fu l2 l3 l5 l7 l8 D)) (nI a) (nI (cfN c)) (pk1 c (rdS D0 i) a b).2 (pk1 c (rdS D0 i) a b).1 (nI b) v D2 = F_X8_pick_b94 q i a2 a3 fu (nI a) (nI (cfN c)) (pk1 c (rdS D0 i) a (b + 1)).2 (pk1 c (rdS D0 i) a (b + 1)).1 (nI (b + 1)) D' ∧ SmW q D0 D' ∧ (∀ k, k < 12 → k ≠ 1 → k ≠ 6 → k ≠ 7 → k ≠ 8 → D'.2.1 (8, q, 9, 0) k = wd c (rdS D0 i) a b k) := by
        intro D2 v hs2 hv hwk
        refine ⟨D2, ?_, hs2, fun k hk _ _ _ _ => hwk k hk⟩
        simp only [F_X8_pick_b161, F_X8_pick_b179, bnd_e, nI_1, lg_cmp_le]
        subst hv
        by_cases g3 : lkP c (rdS D0 i) a b ≤ (pk1 c (rdS D0 i) a b).2
        · rw [if_pos g3, show pk1 c (rdS D0 i) a (b + 1) = pk1 c (rdS D0 i) a b by rw [pk1, if_neg (by simp [g3])]]
        · rw [if_neg g3, show pk1 c (rdS D0 i) a (b + 1) = (nI b, lkP c (rdS D0 i) a b) by rw [pk1, if_pos ⟨⟨g2', g1⟩, g3⟩]]
      rcases h7 with ⟨r1, r2⟩ | ⟨j, R, r1, r2, r3, r4, r5⟩
      · rw [m1.2.1, r2, if_pos rfl, grd_t (inBe hb5 (by decide)), nIc (by omega)]
        refine hfin D1 _ hs1 ?_ wds
        rw [s_sun hb5, hrd1]
        simp only [lkP, r1]
        rw [if_pos (hwl r1)]
      · rw [m1.2.1, r2, if_neg (by simp), obd_s, grd_t r3]
        have hC1 : CR D1 j R := r5.ints m1.1
        obtain ⟨D2, e2, m2⟩ := c_sumFor (D := D1) (w := wd c (rdS D0 i) a b) r3 (V_f 8 hq (by decide)) rfl (by simp) r4 hC1 wds
        rw [e2, cbd_s]
        refine hfin D2 _ (hs1.trans m2.sw3) ?_ (fun k hk => ?_)
        · simp only [lkP, r1]
        · rw [m2.2.2 _ (by simp)]
          exact wds k hk
  · rw [if_neg g1]
    simp only [F_X8_pick_b179, bnd_e, nI_1]
    refine ⟨D, ?_, hs, hwd⟩
    rw [show pk1 c (rdS D0 i) a (b + 1) = pk1 c (rdS D0 i) a b by rw [pk1, if_neg (fun h => g1 h.1.2)]]
theorem wd_land {c : Cf} {s : St} {a b b' k : Nat} (n1 : k ≠ 1) (n6 : k ≠ 6) (n7 : k ≠ 7) (n8 : k ≠ 8) : wd c s a b k = wd c s a b' k := by
  simp only [wd, n1, n6, n7, n8, if_false]
theorem c_pickLoop {D0 : Dt} {q i a : Nat} {a2 a3 : Int32} {c : Cf} (hi : V (6, i, 0, 0) = true) (hq : V (8, q, 0, 0) = true) (hc : CfC D0 q c) (ha : a < 5) (hwl : cfR c = none → 1 ≤ rdS D0 i 2 a ∧ rdS D0 i 1 a ≤ 0) : ∀ (m fu b : Nat) (D : Dt), b + m = cfN c → m < fu → SmW q D0 D → (∀ k, k < 12 → k ≠ 1 → k ≠ 6 → k ≠ 7 → k ≠ 8 → D.2.1 (8, q, 9, 0) k = wd c (rdS D0 i) a b k) → ∃ D', F_X8_pick_b94 q i a2 a3 fu (nI a) (nI (cfN c)) (pk1 c (rdS D0 i) a b).2 (pk1 c (rdS D0 i) a b).1 (nI b) D = some ((pk1 c (rdS D0 i) a (cfN c)).1, D') ∧ SmW q D0 D' := by
  intro m
  induction m with
  | zero =>
    intro fu b D hb hf hs hw
    obtain ⟨fu, rfl⟩ : ∃ g, fu = g + 1 := ⟨fu - 1, by omega⟩
    have : b = cfN c := by omega
    subst this
    have h5 : cfN c ≤ 5 := by obtain ⟨x, _, _, h, _⟩ := hc; exact h
    refine ⟨D, ?_, hs⟩
    rw [F_X8_pick_b94, if_pos (nI_le (Nat.le_refl _) (by omega))]
  | succ m ih =>
    intro fu b D hb hf hs hw
    obtain ⟨fu, rfl⟩ : ∃ g, fu = g + 1 := ⟨fu - 1, by omega⟩
    obtain ⟨D1, e1, s1, w1⟩ := c_pickStep (a2 := a2) (a3 := a3) (fu := fu) hi hq hc hs ha (by omega) hwl hw
    obtain ⟨D2, e2, s2⟩ := ih fu (b + 1) D1 (by omega) (by omega) s1 (fun k hk n1 n6 n7 n8 => by rw [w1 k hk n1 n6 n7 n8]; exact wd_land n1 n6 n7 n8)
    exact ⟨D2, by rw [e1, e2], s2⟩
theorem c_pick46 {D : Dt} {q i a w : Nat} {a2 a3 z : Int32} {c : Cf} (hi : V (6, i, 0, 0) = true) (hq : V (8, q, 0, 0) = true) (hc : CfC D q c) (ha : a < 5) (hw : rdS D i 5 1 = nI w) (hw2 : w < 2147483648) (hz : z = 0 → cfR c = none → 1 ≤ rdS D i 2 a ∧ rdS D i 1 a ≤ 0) (hz1 : ¬ z = 0 → cfR c = none ∧ ¬ (1 ≤ rdS D i 2 a ∧ rdS D i 1 a ≤ 0)) : ∃ D', F_X8_pick_b46 q i a2 a3 (nI a) (nI (cfN c)) z D = some ((if hasB (cfI c) a = true then -1 else (pk1 c (rdS D i) a (cfN c)).1), D') ∧ SmW q D D' := by
  have hc' := hc
  obtain ⟨x, h1, h2, h3, h4, h5, h6, h7, h8, h9, h10, h11⟩ := hc
  rw [F_X8_pick_b46, h9, c_has, cbd_s]
  simp only [bool01]
  by_cases g1 : hasB (cfI c) a = false
  · rw [if_pos g1, if_neg (show ¬ hasB (cfI c) a = true by simp [g1])]
    by_cases g2 : z = 0
    · rw [if_pos g2, grd_t (inBe ha (by decide)), nIc (by omega), s_rate, s_men ha]
      by_cases g3 : rdS D i 5 0 ≤ rdS D i 0 a
      · rw [if_pos g3]
        obtain ⟨D1, e1, m1, w1⟩ := c_tellLand (b := 0) hi hq hc' ha hw hw2
        rw [e1, vbd_s]
        have := c_pickLoop (a2 := a2) (a3 := a3) hi hq hc' ha (hz g2) (cfN c) 2000 0 D1 (by omega) (by omega) m1.sw w1
        exact this
      · rw [if_neg g3]
        refine ⟨D, ?_, SmW.refl⟩
        rw [pk1_no]
        intro b hb h
        have hm := h.1.1
        simp only [pMay, Bool.and_eq_true, decide_eq_true_eq] at hm
        exact g3 (fa_of_nlt hm.2.1)
    · rw [if_neg g2]
      refine ⟨D, ?_, SmW.refl⟩
      rw [pk1_no]
      intro b hb h
      apply h.2
      simp only [lkP, (hz1 g2).1]
      rw [if_neg (hz1 g2).2]
      exact Int64.le_refl _
  · have g1' : hasB (cfI c) a = true := by simpa using g1
    rw [if_neg g1, if_pos g1']
    exact ⟨D, rfl, SmW.refl⟩
theorem c_pickChosen {D : Dt} {q i a : Nat} {c : Cf} (hi : V (6, i, 0, 0) = true) (hq : V (8, q, 0, 0) = true) (hc : CfC D q c) (ha : a < 5) (hch : cfC c = nI a) (hm : D.1 (8, q, 0, 0) 6 = 0) : ∃ D', F_X8_pickChosen q i (nI (cfN c)) D = some (pkP c false (rdS D i) a, D') ∧ rdS D' i = rdS D i ∧ D'.1 (8, q, 0, 0) 6 = (if pkM c false (rdS D i) a then 1 else 0) ∧ Sm (weS q i) D D' ∧ D'.1 (8, q, 0, 0) 7 = D.1 (8, q, 0, 0) 7 := by
  obtain ⟨x, h1, h2, h3, h4, h5, h6, h7, h8, h9, h10, h11⟩ := hc
  have hin : ((0 : Int32) ≤ cfO c ∧ cfO c ≤ nI (cfN c) - 1) ↔ inB (cfO c) (cfN c) = true := by
    simp only [inB, Bool.and_eq_true, decide_eq_true_eq, fa_le]
    have e0 : (0 : Int32).toInt = 0 := rfl
    have e1 : (nI (cfN c) - 1).toInt = (cfN c : Int) - 1 := pk_sub_toInt (a := cfN c) (b := 1) (by omega) (by decide)
    omega
  rw [F_X8_pickChosen, grd_t hq, grd_t hi, h11, c_within, cbd_s]
  by_cases g1 : inB (cfO c) (cfN c) = true
  · rw [if_pos (hin.mpr g1), if_neg (by decide), h10, h11]
    obtain ⟨j, hj, ej⟩ := inB_ex g1 (by omega)
    have hj5 : j < 5 := by omega
    rw [hch, ej, c_mayBuy hi ha hj5, cbd_s]
    simp only [bool01]
    have key : ∀ z : Int32, z = 0 ∨ z = 1 → F_X8_pickChosen_b37 q i (nI (cfN c)) z D = some (if z = 0 then nI j else -1, setI D (8, q, 0, 0) 6 z) := by
      intro z hz
      have e5 : (setI D (8, q, 0, 0) 6 z).1 (8, q, 0, 0) 5 = nI j := by rw [gI, if_neg (by simp), h11, ej]
      have e6 : (setI D (8, q, 0, 0) 6 z).1 (8, q, 0, 0) 6 = z := by rw [gI, if_pos ⟨rfl, rfl⟩]
      simp only [F_X8_pickChosen_b37, bnd_e]
      rw [grd_t hz, e6, e5]
      by_cases hz0 : z = 0
      · rw [if_pos hz0, if_pos hz0]
      · rw [if_neg hz0, if_neg hz0]
    have fr : ∀ z : Int32, rdS (setI D (8, q, 0, 0) 6 z) i = rdS D i ∧ Sm (weS q i) D (setI D (8, q, 0, 0) 6 z) ∧ (setI D (8, q, 0, 0) 6 z).1 (8, q, 0, 0) 7 = D.1 (8, q, 0, 0) 7 := by
      intro z
      refine ⟨?_, Sm.sI (by simp [weS]), by rw [gI, if_neg (by simp)]⟩
      exact rdX_cong (fun q' k _ _ => by rw [gI, if_neg (by simp)]) (fun k _ => by rw [gI, if_neg (by simp)])
    have hp1 : pkP c false (rdS D i) a = if pMay (rdS D i) a j then nI j else -1 := by
      unfold pkP
      rw [if_pos hch.symm, ej, nIc (by omega)]
      rw [ej] at g1
      simp [g1]
    have hp2 : pkM c false (rdS D i) a = !pMay (rdS D i) a j := by
      unfold pkM
      rw [ej, nIc (by omega)]
      rw [ej] at g1
      simp only [hch, g1, true_and]
      cases pMay (rdS D i) a j <;> simp
    rw [hp1, hp2]
    by_cases g2 : pMay (rdS D i) a j = false
    · rw [if_pos g2, key 1 (Or.inr rfl), g2]
      exact ⟨_, rfl, (fr 1).1, by rw [gI, if_pos ⟨rfl, rfl⟩]; rfl, (fr 1).2.1, (fr 1).2.2⟩
    · have g2' : pMay (rdS D i) a j = true := by simpa using g2
      rw [if_neg g2, key 0 (Or.inl rfl)]
      simp only [g2', if_true]
      exact ⟨_, rfl, (fr 0).1, by rw [gI, if_pos ⟨rfl, rfl⟩]; rfl, (fr 0).2.1, (fr 0).2.2⟩
  · rw [if_neg (fun h => g1 (hin.mp h)), if_pos rfl]
    refine ⟨D, ?_, rfl, ?_, Sm.refl, rfl⟩
    · unfold pkP
      rw [if_pos hch.symm, if_neg (fun h => g1 h.1.2)]
    · have : pkM c false (rdS D i) a = false := by rw [pkM, if_neg (fun h => g1 h.2.1)]
      rw [this, hm]
      rfl
theorem c_pick {D : Dt} {q i a w : Nat} {m : Bool} {c : Cf} (hi : V (6, i, 0, 0) = true) (hq : V (8, q, 0, 0) = true) (hc : CfC D q c) (ha : a < 5) (hw : rdS D i 5 1 = nI w) (hw2 : w < 2147483648) (hm : D.1 (8, q, 0, 0) 6 = if m then 1 else 0) (hm0 : nI a = cfC c → m = false) : ∃ D', F_X8_pick q i (nI a) (nI (cfN c)) D = some (pkP c m (rdS D i) a, D') ∧ rdS D' i = rdS D i ∧ D'.1 (8, q, 0, 0) 6 = (if pkM c m (rdS D i) a then 1 else 0) ∧ Sm (weS q i) D D' ∧ D'.1 (8, q, 0, 0) 7 = D.1 (8, q, 0, 0) 7 := by
  have hc' := hc
  obtain ⟨x, h1, h2, h3, h4, h5, h6, h7, h8, h9, h10, h11⟩ := hc
  rw [F_X8_pick, grd_t hq, grd_t hi, h10]
  by_cases g1 : nI a = cfC c
  · rw [if_pos g1]
    have hmf := hm0 g1
    subst hmf
    obtain ⟨D', e, r⟩ := c_pickChosen hi hq hc' ha g1.symm hm
    rw [e, cbd_s]
    exact ⟨D', rfl, r⟩
  · rw [if_neg g1]
    have hpm : pkM c m (rdS D i) a = m := by rw [pkM, if_neg (fun h => g1 h.1)]
    have hpp : pkP c m (rdS D i) a = if hasB (cfI c) a = true then -1 else (pk1 c (rdS D i) a (cfN c)).1 := by rw [pkP, if_neg g1]
    have fin : ∀ z : Int32, (z = 0 → cfR c = none → 1 ≤ rdS D i 2 a ∧ rdS D i 1 a ≤ 0) → (¬ z = 0 → cfR c = none ∧ ¬ (1 ≤ rdS D i 2 a ∧ rdS D i 1 a ≤ 0)) → ∃ D', F_X8_pick_b46 q i (nI a) (nI (cfN c)) (nI a) (nI (cfN c)) z D = some (pkP c m (rdS D i) a, D') ∧ rdS D' i = rdS D i ∧ D'.1 (8, q, 0, 0) 6 = (if pkM c m (rdS D i) a then 1 else 0) ∧ Sm (weS q i) D D' ∧ D'.1 (8, q, 0, 0) 7 = D.1 (8, q, 0, 0) 7 := by
      intro z z0 z1
      obtain ⟨D', e, s⟩ := c_pick46 (a2 := nI a) (a3 := nI (cfN c)) hi hq hc' ha hw hw2 z0 z1
      refine ⟨D', by rw [e, hpp], rdS_eq s.1, by rw [s.1, hpm, hm], s.we, by rw [s.1]⟩
    rcases h7 with ⟨r1, r2⟩ | ⟨j, R, r1, r2, r3, r4, r5⟩
    · rw [r2, if_pos rfl, grd_t (inBe ha (by decide)), nIc (by omega), s_hay ha, s_sun ha]
      by_cases g2 : rdS D i 2 a < 1
      · rw [if_pos g2, F_X8_pick_b41]
        exact fin 1 (fun h => absurd h (by decide)) (fun _ => ⟨r1, fun h => (fa_of_lt g2).2.1 h.1⟩)
      · rw [if_neg g2]
        by_cases g3 : rdS D i 1 a ≤ 0
        · rw [if_pos g3, F_X8_pick_b45]
          exact fin 0 (fun _ _ => ⟨fa_of_nlt g2, g3⟩) (fun h => absurd rfl h)
        · rw [if_neg g3, F_X8_pick_b41]
          exact fin 1 (fun h => absurd h (by decide)) (fun _ => ⟨r1, fun h => g3 h.2⟩)
    · rw [r2, if_neg (by simp), F_X8_pick_b45]
      exact fin 0 (fun _ h => by rw [r1] at h; cases h) (fun h => absurd rfl h)
