/-! ===== the reference's WEEK ===== -/
def moS : LA → Nat → Bool := fun la k => la.1 == 11 && (decide (3 ≤ la.2.2.1 ∧ la.2.2.1 ≤ 7) || (la.2.2.1 == 2 && decide (3 ≤ k ∧ k ≤ 5)) || (la.2.2.1 == 38 || la.2.2.1 == 39) || (la.2.2.1 == 0 && k == 43))
theorem moS_st (la : LA) (k : Nat) (h : moS la k = false) : stM la k = false := by
  simp only [moS, stM, Bool.and_eq_false_iff, Bool.or_eq_false_iff] at h ⊢
  rcases h with h | h
  · exact Or.inl h
  · exact Or.inr h.1.1
theorem stM_mo {D D' : Dt} (h : Sm stM D D') : Sm moS D D' := h.mono moS_st
def CfM (D : Dt) (c : Cf) : Prop := cfN c ≤ 5 ∧ D.1 (11, 0, 2, 0) 2 = nI (cfN c) ∧ D.1 (11, 0, 2, 0) 1 = cfS c ∧ (∀ k v, k < 5 → v < 61 → D.1 (11, 0, 8, 0) (61 * k + v) = cfT c k v) ∧ ((cfR c = none ∧ D.1 (11, 0, 2, 0) 8 = -1) ∨ ∃ r R, r < 6 ∧ cfR c = some R ∧ D.1 (11, 0, 2, 0) 8 = nI r ∧ RWf R ∧ MR D r R) ∧ D.1 (11, 0, 0, 0) 39 = cfH c ∧ D.1 (11, 0, 0, 0) 42 = cfI c ∧ D.1 (11, 0, 0, 0) 40 = cfC c ∧ (cfC c = -1 ∨ (cfI c = 0 ∧ cfH c = 0 ∧ D.1 (11, 0, 0, 0) 41 = cfO c ∧ (cfO c = -1 ∨ inB (cfO c) (cfN c) = true)))
def Rm43 (D : Dt) (c : Cf) (m : Bool) : Prop := cfC c = -1 ∨ D.1 (11, 0, 0, 0) 43 = if m then 0 else 1
theorem MR.sm {S : LA → Nat → Bool} {D D' : Dt} {r : Nat} {R : Rl} (h : MR D r R) (hs : Sm S D D') (hz : ∀ q k, 31 ≤ q → q ≤ 36 → S (11, 0, q, 0) k = false) : MR D' r R := by
  obtain ⟨h1, h2⟩ := h
  refine ⟨?_, fun c hc => ?_⟩
  · rw [hs.i (hz 33 _ (by decide) (by decide)), h1]
  · obtain ⟨a1, a2, a3, a4⟩ := h2 c hc
    refine ⟨?_, ?_, ?_, fun k hk => ?_⟩
    · rw [hs.i (hz 34 _ (by decide) (by decide)), a1]
    · rw [hs.i (hz 35 _ (by decide) (by decide)), a2]
    · rw [hs.i (hz 36 _ (by decide) (by decide)), a3]
    · rw [hs.i (hz 31 _ (by decide) (by decide)), hs.i (hz 32 _ (by decide) (by decide))]
      exact a4 k hk
theorem moS_x {q j k : Nat} (h : 8 ≤ q) (h2 : q ≤ 37) : moS (11, 0, q, j) k = false := by
  have a1 : ¬ q ≤ 7 := by omega
  have a2 : ¬ q = 2 := by omega
  have a3 : ¬ q = 38 := by omega
  have a4 : ¬ q = 39 := by omega
  have a5 : ¬ q = 0 := by omega
  simp [moS, a1, a2, a3, a4, a5]
theorem moS_0 {k : Nat} (h : k ≠ 43) : moS (11, 0, 0, 0) k = false := by simp [moS, h]
theorem moS_2 {k : Nat} (h : k < 3 ∨ 5 < k) : moS (11, 0, 2, 0) k = false := by
  have : ¬ (3 ≤ k ∧ k ≤ 5) := by omega
  simp [moS]
  omega
theorem CfM.sm {D D' : Dt} {c : Cf} (h : CfM D c) (hs : Sm moS D D') : CfM D' c := by
  obtain ⟨h1, h2, h3, h4, h5, h6, h7, h8, h9⟩ := h
  refine ⟨h1, ?_, ?_, ?_, ?_, ?_, ?_, ?_, ?_⟩
  · rw [hs.i (moS_2 (by decide)), h2]
  · rw [hs.i (moS_2 (by decide)), h3]
  · intro k v hk hv
    rw [hs.i (moS_x (by decide) (by decide)), h4 k v hk hv]
  · rcases h5 with ⟨a, b⟩ | ⟨r, R, a, b, d, e, f⟩
    · exact Or.inl ⟨a, by rw [hs.i (moS_2 (by decide)), b]⟩
    · exact Or.inr ⟨r, R, a, b, by rw [hs.i (moS_2 (by decide)), d], e, f.sm hs (fun q k h1 h2 => moS_x (by omega) (by omega))⟩
  · rw [hs.i (moS_0 (by decide)), h6]
  · rw [hs.i (moS_0 (by decide)), h7]
  · rw [hs.i (moS_0 (by decide)), h8]
  · rcases h9 with a | ⟨a, b, d, e⟩
    · exact Or.inl a
    · exact Or.inr ⟨a, b, by rw [hs.i (moS_0 (by decide)), d], e⟩
theorem SmL.mo {la : LA} {D D' : Dt} (h : SmL la D D') (hl : ∀ k, moS la k = true) : Sm moS D D' := by
  intro l k e
  refine ⟨by rw [h.1], ?_, by rw [h.2.1]⟩
  by_cases hl2 : l = la
  · subst hl2
    rw [hl k] at e
    cases e
  · rw [h.2.2 l hl2]
theorem r_soonLoop {D : Dt} {a w : Nat} {a1 : Int32} {t : Nat → Int32} {kk : Int32 → Dt → Option (Int32 × Dt)} (ha : a < 5) (ht : ∀ v, v < 61 → D.1 (11, 0, 8, 0) (61 * a + v) = t v) (hk : ∀ v, w ≤ v → v < 61 → kk (nI v) D = some (nI (v - w), D)) : ∀ (m fu v : Nat), v + m = 61 → m < fu → w ≤ v → F_X11_soonOf_b9 a1 kk fu (nI a) (nI v) D = some (soo t w m v, D) := by
  intro m
  induction m with
  | zero =>
    intro fu v hv hf hw
    obtain ⟨fu, rfl⟩ : ∃ g, fu = g + 1 := ⟨fu - 1, by omega⟩
    rw [F_X11_soonOf_b9, if_pos (show (61 : Int32) ≤ nI v from nI_le (a := 61) (by omega) (by omega)), soo]
  | succ m ih =>
    intro fu v hv hf hw
    obtain ⟨fu, rfl⟩ : ∃ g, fu = g + 1 := ⟨fu - 1, by omega⟩
    have hx : (61 : Int32) * nI a + nI v = nI (61 * a + v) := by rw [show (61 : Int32) = nI 61 from rfl, pk_mul, nI_add]
    rw [F_X11_soonOf_b9, if_neg (show ¬ (61 : Int32) ≤ nI v from nI_ge (b := 61) (by omega) (by decide))]
    simp only [hx]
    rw [grd_t (inBe (by omega) (by decide)), nIc (by omega), ht v (by omega), soo]
    by_cases g : t v ≤ 0
    · rw [if_pos g, if_pos g]
      simp only [bnd_e, nI_1]
      exact ih fu (v + 1) (by omega) (by omega) (by omega)
    · rw [if_neg g, if_neg g]
      exact hk v hw (by omega)
theorem r_soonOf {D : Dt} {a w : Nat} {t : Nat → Int32} (ha : a < 5) (ht : ∀ v, v < 61 → D.1 (11, 0, 8, 0) (61 * a + v) = t v) (hw : D.1 (11, 0, 2, 0) 4 = nI w) (hw2 : w < 100000) : F_X11_soonOf (nI a) D = some (soP t w, D) := by
  rw [F_X11_soonOf, hw]
  simp only [bnd_e, nI_1]
  by_cases g : w < 60
  · rw [soP, show w + 1 = w + 1 from rfl]
    refine r_soonLoop ha ht ?_ (60 - w) 2000 (w + 1) (by omega) (by omega) (by omega)
    intro v h1 h2
    rw [hw, pk_sub h1]
  · rw [soP, show 60 - w = 0 by omega, soo, F_X11_soonOf_b9, if_pos (show (61 : Int32) ≤ nI (w + 1) from nI_le (a := 61) (by omega) (by omega))]
theorem rdM_eq {D D' : Dt} (h : D'.1 = D.1) : rdM D' = rdM D := by unfold rdM rdX; rw [h]
theorem SmL.rm {la : LA} {D D' : Dt} (h : SmL la D D') : rdM D' = rdM D := rdM_eq h.1
theorem CfM.ints {D D' : Dt} {c : Cf} (h : CfM D c) (e : D'.1 = D.1) : CfM D' c := by
  unfold CfM MR at *
  rw [e]
  exact h
theorem r_sumOf {D : Dt} {a b r w : Nat} {R : Rl} {c : Cf} (hc : CfM D c) (ha : a < 5) (hb : b < 5) (hw : rdM D 5 1 = nI w) (hw2 : w < 100000) (hr : r < 6) (hR : RWf R) (hm : MR D r R) (hf : D.1 (11, 0, 2, 0) 8 = nI r) : ∃ D', F_X11_sumOf (nI a) (nI b) D = some (rlv R (wd c (rdM D) a b), D') ∧ D'.1 = D.1 ∧ Sm moS D D' := by
  have hwk : D.1 (11, 0, 2, 0) 4 = nI w := by rw [m_week, hw]
  have hz : ∀ E : Dt, E.1 = D.1 → F_X11_soonOf (nI a) E = some (soP (cfT c a) w, E) := fun E hE => r_soonOf ha (fun v hv => by rw [hE]; exact hc.2.2.2.1 a v ha hv) (by rw [hE]; exact hwk) hw2
  simp (disch := omega) only [F_X11_sumOf, grd, inBe, nIc, bnd_e, eq_self, if_true, gL1]
  rw [hz, cbd_s]
  rotate_left
  · rfl
  simp only [gL1]
  generalize hE : (setL (setL _ (11, 0, 38, 0) 10 (soP (cfT c a) w).toInt64) (11, 0, 38, 0) 11 (D.1 (11, 0, 2, 0) 4).toInt64) = E
  have hE1 : SmL (11, 0, 38, 0) D E := by
    rw [← hE]
    exact (((((((((((SmL.set).trans SmL.set).trans SmL.set).trans SmL.set).trans SmL.set).trans SmL.set).trans SmL.set).trans SmL.set).trans SmL.set).trans SmL.set).trans SmL.set).trans SmL.set
  have hwd : ∀ k, k < 12 → E.2.1 (11, 0, 38, 0) k = wd c (rdM D) a b k := by
    intro k hk
    have hkN : wkN (rdM D) = w := by rw [wkN, hw, nIc (by omega)]
    rw [← hE]
    have : k = 0 ∨ k = 1 ∨ k = 2 ∨ k = 3 ∨ k = 4 ∨ k = 5 ∨ k = 6 ∨ k = 7 ∨ k = 8 ∨ k = 9 ∨ k = 10 ∨ k = 11 := by omega
    rcases this with rfl | rfl | rfl | rfl | rfl | rfl | rfl | rfl | rfl | rfl | rfl | rfl <;> simp (disch := omega) [gL, wd, m_men, m_sun, m_hay, m_barn, m_rate, hkN, hwk, hw]
  have hm2 : MR E r R := by unfold MR; rw [hE1.1]; exact hm
  obtain ⟨D', e, s⟩ := r_wanted (D := E) (w := wd c (rdM D) a b) hr hR hm2 (by rw [hE1.1]; exact hf) hwd
  rw [e, cbd_s]
  exact ⟨D', rfl, s.1.trans hE1.1, (hE1.mo (fun k => by simp [moS])).trans (s.mo (fun k => by simp [moS]))⟩
theorem r_wants {D : Dt} {a b w : Nat} {c : Cf} (hc : CfM D c) (ha : a < 5) (hb : b < 5) (hw : rdM D 5 1 = nI w) (hw2 : w < 100000) (hg : bw (rdM D 1 a) 99) : ∃ D', F_X11_wants (nI a) (nI b) D = some (lkP c (rdM D) a b, D') ∧ D'.1 = D.1 ∧ Sm moS D D' := by
  rw [F_X11_wants]
  rcases hc.2.2.2.2.1 with ⟨r1, r2⟩ | ⟨r, R, r0, r1, r2, r3, r4⟩
  · rw [r2, if_pos rfl, grd_t (inBe ha (by decide)), nIc (by omega), m_hay ha, m_sun ha]
    simp only [lkP, r1]
    have z1 : rdM D 1 a = 0 ↔ rdM D 1 a ≤ 0 := by
      rw [fa_eq, fa_le]
      have : (0 : Int32).toInt = 0 := rfl
      have := hg.1
      omega
    have z2 : rdM D 2 a ≤ 0 ↔ ¬ 1 ≤ rdM D 2 a := by
      rw [fa_le, fa_le]
      have : (0 : Int32).toInt = 0 := rfl
      have : (1 : Int32).toInt = 1 := rfl
      omega
    by_cases g1 : rdM D 2 a ≤ 0
    · rw [if_pos g1, if_neg (fun h => z2.mp g1 h.1)]
      exact ⟨D, rfl, rfl, Sm.refl⟩
    · rw [if_neg g1]
      by_cases g2 : rdM D 1 a = 0
      · rw [if_pos g2, grd_t (inBe hb (by decide)), nIc (by omega), m_sun hb, if_pos ⟨Classical.byContradiction (fun h => g1 (z2.mpr h)), z1.mp g2⟩]
        exact ⟨D, rfl, rfl, Sm.refl⟩
      · rw [if_neg g2, if_neg (fun h => g2 (z1.mpr h.2))]
        exact ⟨D, rfl, rfl, Sm.refl⟩
  · have : ¬ nI r = (-1 : Int32) := by
      intro h
      have := congrArg Int32.toInt h
      rw [nI_toInt (by omega)] at this
      have e : (-1 : Int32).toInt = -1 := rfl
      omega
    rw [r2, if_neg this]
    obtain ⟨D', e, s⟩ := r_sumOf hc ha hb hw hw2 r0 r3 r4 r2
    rw [e, cbd_s]
    simp only [lkP, r1]
    exact ⟨D', rfl, s⟩
theorem nI_nem1 {a : Nat} (h : a < 2147483648) : ¬ nI a = (-1 : Int32) := by
  intro e
  have := congrArg Int32.toInt e
  rw [nI_toInt (by omega)] at this
  have e : (-1 : Int32).toInt = -1 := rfl
  omega
theorem r_choiceLoop {a w : Nat} {a1 : Int32} {c : Cf} {D0 : Dt} (hc0 : CfM D0 c) (ha : a < 5) (hw : rdM D0 5 1 = nI w) (hw2 : w < 100000) (hg : bw (rdM D0 1 a) 99) : ∀ (m fu b : Nat) (D : Dt), b + m = cfN c → m < fu → D.1 = D0.1 → ∃ D', F_X11_choice_b80 a1 fu (nI a) (pk1 c (rdM D0) a b).1 (pk1 c (rdM D0) a b).2 (nI b) D = some ((pk1 c (rdM D0) a (cfN c)).1, D') ∧ D'.1 = D0.1 ∧ Sm moS D D' := by
  intro m
  induction m with
  | zero =>
    intro fu b D hb hf hd
    obtain ⟨fu, rfl⟩ : ∃ g, fu = g + 1 := ⟨fu - 1, by omega⟩
    have hc := hc0.ints hd
    have h5 := hc.1
    refine ⟨D, ?_, hd, Sm.refl⟩
    rw [F_X11_choice_b80, hc.2.1, if_pos (nI_le (by omega) (by omega)), show b = cfN c by omega]
  | succ m ih =>
    intro fu b D hb hf hd
    obtain ⟨fu, rfl⟩ : ∃ g, fu = g + 1 := ⟨fu - 1, by omega⟩
    have hc := hc0.ints hd
    have h5 := hc.1
    have hrd := rdM_eq hd
    have hb5 : b < 5 := by omega
    rw [F_X11_choice_b80, hc.2.1, if_neg (nI_ge (by omega) (by omega)), r_canBuy ha hb5, cbd_s, hrd, hc.2.2.2.2.2.1]
    simp only [bool01]
    by_cases g1 : (pMay (rdM D0) a b && !hasB (cfH c) b) = false
    · rw [if_pos g1]
      simp only [F_X11_choice_b123, bnd_e, nI_1]
      have e : pk1 c (rdM D0) a (b + 1) = pk1 c (rdM D0) a b := by
        rw [pk1, if_neg]
        rintro ⟨⟨p1, p2⟩, -⟩
        simp [p1, p2] at g1
      rw [← e]
      exact ih fu (b + 1) D (by omega) (by omega) hd
    · rw [if_neg g1]
      obtain ⟨D1, e1, d1, s1⟩ := r_wants hc ha hb5 (by rw [hrd]; exact hw) hw2 (by rw [hrd]; exact hg)
      rw [e1, cbd_s, hrd]
      simp only [F_X11_choice_b123, bnd_e, nI_1, lg_cmp_le]
      have g1' : pMay (rdM D0) a b = true ∧ hasB (cfH c) b = false := by
        cases h1 : pMay (rdM D0) a b <;> cases h2 : hasB (cfH c) b <;> simp [h1, h2] at g1 ⊢
      obtain ⟨D2, e2, d2, s2⟩ := ih fu (b + 1) D1 (by omega) (by omega) (d1.trans hd)
      by_cases g2 : lkP c (rdM D0) a b ≤ (pk1 c (rdM D0) a b).2
      · have e : pk1 c (rdM D0) a (b + 1) = pk1 c (rdM D0) a b := by rw [pk1, if_neg (fun h => h.2 g2)]
        rw [if_pos g2, ← e, e2]
        exact ⟨D2, rfl, d2, s1.trans s2⟩
      · have e : pk1 c (rdM D0) a (b + 1) = (nI b, lkP c (rdM D0) a b) := by rw [pk1, if_pos ⟨g1', g2⟩]
        rw [e] at e2
        rw [if_neg g2, e2]
        exact ⟨D2, rfl, d2, s1.trans s2⟩
theorem r_choice {D : Dt} {a w : Nat} {m : Bool} {c : Cf} (hc : CfM D c) (ha : a < 5) (hw : rdM D 5 1 = nI w) (hw2 : w < 100000) (hg : bw (rdM D 1 a) 99) (hm : Rm43 D c m) : ∃ D', F_X11_choice (nI a) D = some (pkP c m (rdM D) a, D') ∧ rdM D' = rdM D ∧ Rm43 D' c (pkM c m (rdM D) a) ∧ Sm moS D D' := by
  have h5 := hc.1
  rw [F_X11_choice, hc.2.2.2.2.2.2.1, r_has, cbd_s, hc.2.2.2.2.2.2.2.1]
  simp only [bool01]
  by_cases g0 : nI a = cfC c
  · rcases hc.2.2.2.2.2.2.2.2 with h | ⟨i0, i1, i2, i3⟩
    · rw [h] at g0
      exact absurd g0 (nI_nem1 (by omega))
    · have h43 : D.1 (11, 0, 0, 0) 43 = if m then 0 else 1 := by
        rcases hm with h | h
        · rw [h] at g0
          exact absurd g0 (nI_nem1 (by omega))
        · exact h
      rw [i0, has0 a (by omega), if_pos rfl, if_pos g0, h43, i2]
      have fr : ∀ z : Int32, rdM (setI D (11, 0, 0, 0) 43 z) = rdM D ∧ Sm moS D (setI D (11, 0, 0, 0) 43 z) := by
        intro z
        exact ⟨rdX_cong (fun q k _ _ => by rw [gI, if_neg (by simp)]) (fun k _ => by rw [gI, if_neg (by simp)]), Sm.sI (by simp [moS])⟩
      have k0 : F_X11_choice_b53 (nI a) D = some (-1, setI D (11, 0, 0, 0) 43 0) := by
        rw [F_X11_choice_b53, F_X11_choice_b54, grd_t (Or.inl rfl), bnd_e, if_pos (by rw [gI, if_pos ⟨rfl, rfl⟩])]
      have k1 : F_X11_choice_b49 (nI a) D = some (cfO c, setI D (11, 0, 0, 0) 43 1) := by
        rw [F_X11_choice_b49, F_X11_choice_b54, grd_t (Or.inr rfl), bnd_e, if_neg (by rw [gI, if_pos ⟨rfl, rfl⟩]; decide), gI, if_neg (by simp), i2]
      have x43 : ∀ z : Int32, (setI D (11, 0, 0, 0) 43 z).1 (11, 0, 0, 0) 43 = z := fun z => by rw [gI, if_pos ⟨rfl, rfl⟩]
      cases m with
      | true =>
        rw [if_pos rfl, if_pos rfl, k0]
        refine ⟨_, by rw [pkP, if_pos g0, if_neg (by simp)], (fr 0).1, Or.inr ?_, (fr 0).2⟩
        have : pkM c true (rdM D) a = true := by unfold pkM; split <;> rfl
        rw [this, x43]
        rfl
      | false =>
        rw [if_neg (show ¬ (if false = true then (0 : Int32) else 1) = 0 by decide)]
        by_cases g1 : cfO c = -1
        · rw [if_pos g1, k1]
          have nb : ¬ inB (cfO c) (cfN c) = true := by rw [g1]; simp [inB]
          refine ⟨_, by rw [pkP, if_pos g0, if_neg (fun h => nb h.1.2), g1], (fr 1).1, Or.inr ?_, (fr 1).2⟩
          have hpm : pkM c false (rdM D) a = false := by rw [pkM, if_neg (fun h => nb h.2.1)]
          rw [hpm, x43]
          rfl
        · rw [if_neg g1]
          have ib := i3.resolve_left g1
          obtain ⟨j, hj, ej⟩ := inB_ex ib (by omega)
          have hj5 : j < 5 := by omega
          rw [ej, r_canBuy ha hj5, cbd_s, hc.2.2.2.2.2.1, i1, has0 j (by omega)]
          simp only [bool01, Bool.not_false, Bool.and_true]
          have hp1 : pkP c false (rdM D) a = if pMay (rdM D) a j then nI j else -1 := by
            unfold pkP
            rw [if_pos g0, ej, nIc (by omega)]
            rw [ej] at ib
            simp [ib]
          have hp2 : pkM c false (rdM D) a = !pMay (rdM D) a j := by
            unfold pkM
            rw [ej, nIc (by omega)]
            rw [ej] at ib
            simp only [g0, ib, true_and]
            cases pMay (rdM D) a j <;> simp
          rw [hp1, hp2]
          by_cases g2 : pMay (rdM D) a j = false
          · rw [if_pos g2, k0, g2]
            exact ⟨_, rfl, (fr 0).1, Or.inr (by rw [x43]; rfl), (fr 0).2⟩
          · have g2' : pMay (rdM D) a j = true := by simpa using g2
            rw [if_neg g2, k1, g2', ej]
            exact ⟨_, rfl, (fr 1).1, Or.inr (by rw [x43]; rfl), (fr 1).2⟩
  · have hpm : pkM c m (rdM D) a = m := by rw [pkM, if_neg (fun h => g0 h.1)]
    have hpp : pkP c m (rdM D) a = if hasB (cfI c) a = true then -1 else (pk1 c (rdM D) a (cfN c)).1 := by rw [pkP, if_neg g0]
    rw [hpm, hpp]
    by_cases g1 : hasB (cfI c) a = false
    · rw [if_pos g1, if_neg g0, if_neg (show ¬ hasB (cfI c) a = true by simp [g1])]
      obtain ⟨D', e, d, s⟩ := r_choiceLoop (a1 := nI a) hc ha hw hw2 hg (cfN c) 2000 0 D (by omega) (by omega) rfl
      refine ⟨D', e, rdM_eq d, ?_, s⟩
      unfold Rm43
      rw [d]
      exact hm
    · have g1' : hasB (cfI c) a = true := by simpa using g1
      rw [if_neg g1, if_pos g1']
      exact ⟨D, rfl, rfl, hm, Sm.refl⟩
