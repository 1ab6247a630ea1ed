def rlS : LA → Nat → Bool := fun la k => la.1 == 11 && (decide (15 ≤ la.2.2.1 ∧ la.2.2.1 ≤ 19) || (la == (11, 0, 0, 0) && decide ((19 ≤ k ∧ k ≤ 21) ∨ (24 ≤ k ∧ k ≤ 27))))
theorem rm_rl {D D' : Dt} (s : Sm rmT D D') : Sm rlS D D' := s.mono (fun la k e => by
  unfold rlS at e
  unfold rmT p21
  by_cases c : la = (11, 0, 0, 0)
  · rw [c] at e ⊢
    simp at e ⊢
    omega
  · simp [c] at e ⊢
    intro h1 h2
    exact e h1 h2)
theorem r_starts {D : Dt} {T : Tp} (h : RT D T) : ∃ D', F_X11_starts D = some D' ∧ RP D' T 0 0 ∧ D'.1 (11, 0, 0, 0) 24 = 0 ∧ D'.1 (11, 0, 0, 0) 25 = 0 ∧ D'.1 (11, 0, 0, 0) 26 = 0 ∧ Sm (fun la k => la == (11, 0, 0, 0) && (k == 20 || k == 21 || k == 24 || k == 25 || k == 26)) D D' := by
  rw [F_X11_starts, bnd_e, bnd_e, bnd_e, bnd_e, bnd_e]
  have m : Sm (fun la k => la == (11, 0, 0, 0) && (k == 20 || k == 21 || k == 24 || k == 25 || k == 26)) D (setI (setI (setI (setI (setI D (11, 0, 0, 0) 20 0) (11, 0, 0, 0) 21 0) (11, 0, 0, 0) 24 0) (11, 0, 0, 0) 25 0) (11, 0, 0, 0) 26 0) := ((((Sm.sI (by simp)).trans (Sm.sI (by simp))).trans (Sm.sI (by simp))).trans (Sm.sI (by simp))).trans (Sm.sI (by simp))
  refine ⟨_, rfl, ⟨h.sm m (by simp) (fun k => by simp), ?_, ?_⟩, ?_, ?_, gI_s, m⟩
  · simp [gI]; rfl
  · simp [gI]
  · simp [gI]
  · simp [gI]
theorem r_zero {la : LA} {n : Nat} {L : Nat → Int32 → Dt → Option Dt} {kk : Dt → Option Dt} {D : Dt} (hn : n < 1000) (hs : ∀ fu j E, j < n → L (fu + 1) (nI j) E = L fu (nI (j + 1)) (setI E la j 0)) (he : ∀ fu E, L (fu + 1) (nI n) E = kk E) : ∃ D', L 2000 0 D = kk D' ∧ (∀ k, k < n → D'.1 la k = 0) ∧ Sm (fun l _ => l == la) D D' := by
  obtain ⟨D', ⟨p1, p2⟩, e⟩ := lpC (fun fu j E => L fu (nI j) E) (fun j E => (∀ k, k < j → E.1 la k = 0) ∧ Sm (fun l _ => l == la) D E) n kk
    (fun fu j E hj hh => by
      refine ⟨setI E la j 0, ⟨fun k hk => ?_, hh.2.trans (Sm.sI (by simp))⟩, hs fu j E hj⟩
      rw [gI]
      by_cases c : k = j
      · rw [if_pos ⟨rfl, c⟩]
      · rw [if_neg (fun y => c y.2)]
        exact hh.1 k (by omega))
    (fun fu E hh => he fu E)
    n 2000 0 D (by omega) (by omega) ⟨fun k hk => absurd hk (by omega), Sm.refl⟩
  exact ⟨D', e, p1, p2⟩
theorem r_readsAll {D : Dt} {T : Tp} (hT : okT T) (h : RT D T) : match pTab T with
    | .inl f => ∃ D', F_X11_readsAll D = some D' ∧ D'.1 (11, 0, 0, 0) 21 = nI f ∧ D'.1 (11, 0, 0, 0) 19 = 0 ∧ Sm rlS D D'
    | .inr h1 => ∃ D', F_X11_readsAll D = some D' ∧ D'.1 (11, 0, 0, 0) 21 = 0 ∧ D'.1 (11, 0, 0, 0) 19 = 0 ∧ ShM D' h1 ∧ Sm rlS D D' := by
  obtain ⟨D1, e1, r1, _, _, _, m1⟩ := r_starts h
  rw [F_X11_readsAll, e1, vbd_s]
  have f15 : ∀ {q : Nat} {E E' : Dt}, 15 ≤ q → q ≤ 19 → Sm (fun l _ => l == (11, 0, q, 0)) E E' → Sm rlS E E' := fun {q} {E} {E'} h1 h2 s => s.mono (fun la k e => by
    rw [beq_eq_false_iff_ne]
    rintro rfl
    simp [rlS] at e
    omega)
  have rp : ∀ {q : Nat} {E E' : Dt}, 15 ≤ q → q ≤ 19 → Sm (fun l _ => l == (11, 0, q, 0)) E E' → RP E T 0 0 → RP E' T 0 0 := fun {q} {E} {E'} h1 h2 s r => ⟨r.1.sm s (by simp; omega) (fun k => by simp; omega), by rw [s.i (by simp; omega)]; exact r.2.1, by rw [s.i (by simp; omega)]; exact r.2.2⟩
  -- the last loop
  have last : ∀ E, RP E T 0 0 → ShM E h0 → Sm rlS D E → match pTab T with
      | .inl f => ∃ D', F_X11_readsAll_b86 (fun D27 => (bnd (setI D27 (11, 0, 0, 0) 19 (0 : Int32)) (fun D28 => (some D28)))) 2000 (0 : Int32) (1 : Int32) E = some D' ∧ D'.1 (11, 0, 0, 0) 21 = nI f ∧ D'.1 (11, 0, 0, 0) 19 = 0 ∧ Sm rlS D D'
      | .inr h1 => ∃ D', F_X11_readsAll_b86 (fun D27 => (bnd (setI D27 (11, 0, 0, 0) 19 (0 : Int32)) (fun D28 => (some D28)))) 2000 (0 : Int32) (1 : Int32) E = some D' ∧ D'.1 (11, 0, 0, 0) 21 = 0 ∧ D'.1 (11, 0, 0, 0) 19 = 0 ∧ ShM D' h1 ∧ Sm rlS D D' := by
    intro E rE sE mE
    have lp := r_tLoop (kk := (fun D27 => (bnd (setI D27 (11, 0, 0, 0) 19 (0 : Int32)) (fun D28 => (some D28))))) hT 41 2000 0 E h0 0 (by omega) (by omega) (Nat.zero_le _) rE sE
    unfold pTab
    cases e4 : pTb T 41 0 h0 (sbk T 0) with
    | inl f =>
      rw [e4] at lp
      obtain ⟨D4, p4, e5, r5, m5⟩ := lp (by decide)
      simp only
      rw [show F_X11_readsAll_b86 _ 2000 0 1 E = _ from e5, bnd_e]
      refine ⟨_, rfl, ?_, gI_s, (mE.trans (rm_rl m5)).trans (Sm.sI (by simp [rlS]))⟩
      rw [gI, if_neg (by simp)]; exact r5.2.2
    | inr h1 =>
      rw [e4] at lp
      obtain ⟨D4, p4, e5, r5, s5, m5⟩ := lp
      simp only
      rw [show F_X11_readsAll_b86 _ 2000 0 1 E = _ from e5, bnd_e]
      refine ⟨_, rfl, ?_, gI_s, ?_, (mE.trans (rm_rl m5)).trans (Sm.sI (by simp [rlS]))⟩
      · rw [gI, if_neg (by simp)]; exact r5.2.2
      · obtain ⟨a1, a2, a3, a4, a5⟩ := s5
        refine ⟨?_, ?_, ⟨a3.1, ?_⟩, fun k hk => ?_, fun k v hk hv => ?_⟩
        · rw [gI_q (by decide)]; exact a1
        · rw [gI_q (by decide)]; exact a2
        · rw [gI_q (by decide)]; exact a3.2
        · rw [gI_q (by decide), gI_q (by decide), gI_q (by decide)]; exact a4 k hk
        · rw [gI_q (by decide)]; exact a5 k v hk hv
  obtain ⟨D2, e2, z2, m2⟩ := r_zero (la := (11, 0, 15, 0)) (n := 3) (L := fun fu l E => F_X11_readsAll_b6 (fun D7 => (F_X11_readsAll_b26 (fun D12 => (F_X11_readsAll_b50 (fun D19 => (F_X11_readsAll_b86 (fun D27 => (bnd (setI D27 (11, 0, 0, 0) 19 (0 : Int32)) (fun D28 => (some D28)))) 2000 (0 : Int32) (1 : Int32) D19)) 2000 (0 : Int32) D12)) 2000 (0 : Int32) D7)) fu l E) (kk := (fun D7 => (F_X11_readsAll_b26 (fun D12 => (F_X11_readsAll_b50 (fun D19 => (F_X11_readsAll_b86 (fun D27 => (bnd (setI D27 (11, 0, 0, 0) 19 (0 : Int32)) (fun D28 => (some D28)))) 2000 (0 : Int32) (1 : Int32) D19)) 2000 (0 : Int32) D12)) 2000 (0 : Int32) D7))) (D := D1) (by decide)
    (fun fu j E hj => by
      show F_X11_readsAll_b6 _ (fu + 1) (nI j) E = F_X11_readsAll_b6 _ fu (nI (j + 1)) _
      rw [F_X11_readsAll_b6, if_neg (show ¬ (3 : Int32) ≤ nI j from nI_ge (b := 3) hj (by decide)), grd_t (inBe hj (by decide)), nIc (by omega), bnd_e, bnd_e, nI_1])
    (fun fu E => by
      show F_X11_readsAll_b6 _ (fu + 1) (nI 3) E = _
      rw [F_X11_readsAll_b6, if_pos (show (3 : Int32) ≤ nI 3 by decide)])
  rw [e2]
  obtain ⟨D3, e3, z3, m3⟩ := r_zero (la := (11, 0, 19, 0)) (n := 305) (L := fun fu l E => F_X11_readsAll_b26 (fun D12 => (F_X11_readsAll_b50 (fun D19 => (F_X11_readsAll_b86 (fun D27 => (bnd (setI D27 (11, 0, 0, 0) 19 (0 : Int32)) (fun D28 => (some D28)))) 2000 (0 : Int32) (1 : Int32) D19)) 2000 (0 : Int32) D12)) fu l E) (kk := (fun D12 => (F_X11_readsAll_b50 (fun D19 => (F_X11_readsAll_b86 (fun D27 => (bnd (setI D27 (11, 0, 0, 0) 19 (0 : Int32)) (fun D28 => (some D28)))) 2000 (0 : Int32) (1 : Int32) D19)) 2000 (0 : Int32) D12))) (D := D2) (by decide)
    (fun fu j E hj => by
      show F_X11_readsAll_b26 _ (fu + 1) (nI j) E = F_X11_readsAll_b26 _ fu (nI (j + 1)) _
      rw [F_X11_readsAll_b26, if_neg (show ¬ (305 : Int32) ≤ nI j from nI_ge (b := 305) hj (by decide)), grd_t (inBe hj (by decide)), nIc (by omega), bnd_e, bnd_e, nI_1])
    (fun fu E => by
      show F_X11_readsAll_b26 _ (fu + 1) (nI 305) E = _
      rw [F_X11_readsAll_b26, if_pos (show (305 : Int32) ≤ nI 305 by decide)])
  rw [e3]
  obtain ⟨D4, ⟨p1, p2⟩, e4⟩ := lpC (fun fu j E => F_X11_readsAll_b50 (fun D19 => (F_X11_readsAll_b86 (fun D27 => (bnd (setI D27 (11, 0, 0, 0) 19 (0 : Int32)) (fun D28 => (some D28)))) 2000 (0 : Int32) (1 : Int32) D19)) fu (nI j) E) (fun j E => (∀ k, k < j → E.1 (11, 0, 16, 0) k = 0 ∧ E.1 (11, 0, 17, 0) k = 0 ∧ E.1 (11, 0, 18, 0) k = 0) ∧ Sm (fun la _ => la.1 == 11 && decide (16 ≤ la.2.2.1 ∧ la.2.2.1 ≤ 18)) D3 E) 5 (fun D19 => (F_X11_readsAll_b86 (fun D27 => (bnd (setI D27 (11, 0, 0, 0) 19 (0 : Int32)) (fun D28 => (some D28)))) 2000 (0 : Int32) (1 : Int32) D19))
    (fun fu j E hj hh => by
      refine ⟨setI (setI (setI E (11, 0, 16, 0) j 0) (11, 0, 17, 0) j 0) (11, 0, 18, 0) j 0, ⟨fun k hk => ?_, hh.2.trans (((Sm.sI (by simp)).trans (Sm.sI (by simp))).trans (Sm.sI (by simp)))⟩, ?_⟩
      · by_cases c : k = j
        · rw [c]
          exact ⟨by simp [gI], by simp [gI], by simp [gI]⟩
        · obtain ⟨x, y, z⟩ := hh.1 k (by omega)
          exact ⟨by simp [gI, c]; exact x, by simp [gI, c]; exact y, by simp [gI, c]; exact z⟩
      · show F_X11_readsAll_b50 _ (fu + 1) (nI j) E = F_X11_readsAll_b50 _ fu (nI (j + 1)) _
        rw [F_X11_readsAll_b50, if_neg (show ¬ (5 : Int32) ≤ nI j from nI_ge (b := 5) hj (by decide)), grd_t (inBe hj (by decide)), nIc (by omega), bnd_e, bnd_e, bnd_e, bnd_e, nI_1])
    (fun fu E hh => by
      show F_X11_readsAll_b50 _ (fu + 1) (nI 5) E = _
      rw [F_X11_readsAll_b50, if_pos (show (5 : Int32) ≤ nI 5 by decide)])
    5 2000 0 D3 (by omega) (by omega) ⟨fun k hk => absurd hk (by omega), Sm.refl⟩
  rw [show F_X11_readsAll_b50 _ 2000 0 D3 = _ from e4]
  have r3 := rp (by decide) (by decide) m3 (rp (by decide) (by decide) m2 r1)
  have r4 : RP D4 T 0 0 := ⟨r3.1.sm p2 (by simp) (fun k => by simp), by rw [p2.i (by simp)]; exact r3.2.1, by rw [p2.i (by simp)]; exact r3.2.2⟩
  refine last D4 r4 ⟨?_, ?_, ⟨by decide, ?_⟩, fun k hk => ?_, fun k v hk hv => ?_⟩ (((Sm.mono m1 (fun la k e => ?_)).trans ((f15 (by decide) (by decide) m2).trans (f15 (by decide) (by decide) m3))).trans (Sm.mono p2 (fun la k e => ?_)))
  · rw [p2.i (by simp), m3.i (by simp)]; exact z2 0 (by decide)
  · rw [p2.i (by simp), m3.i (by simp)]; exact z2 1 (by decide)
  · rw [p2.i (by simp), m3.i (by simp)]; exact z2 2 (by decide)
  · exact p1 k hk
  · rw [p2.i (by simp)]; exact z3 _ (by omega)
  · by_cases c : la = (11, 0, 0, 0)
    · rw [c] at e ⊢
      simp [rlS] at e ⊢
      omega
    · simp [c]
  · unfold rlS at e
    simp only [Bool.and_eq_false_iff, Bool.or_eq_false_iff] at e ⊢
    rcases e with e | e
    · exact Or.inl e
    · have := e.1
      simp only [decide_eq_false_iff_not] at this ⊢
      right
      omega
theorem rl_kp {D D' : Dt} (s : Sm rlS D D') : ∀ la k, kpM la k = true → ¬ (la = (11, 0, 0, 0) ∧ k = 19) → D'.1 la k = D.1 la k := by
  intro la k e hne
  refine s.i ?_
  simp only [kpM, Bool.and_eq_true, Bool.or_eq_true, beq_iff_eq, decide_eq_true_eq] at e
  obtain ⟨e1, e2⟩ := e
  unfold rlS
  simp only [Bool.and_eq_false_iff, Bool.or_eq_false_iff, decide_eq_false_iff_not, beq_eq_false_iff_ne]
  right
  by_cases c0 : la.2.2.1 = 0
  · have hla : la = (11, 0, 0, 0) := by rw [e1, c0]
    refine ⟨by omega, Or.inr ?_⟩
    have hk : ¬ k = 19 := fun x => hne ⟨hla, x⟩
    omega
  · refine ⟨by omega, Or.inl (fun x => c0 (by rw [x]))⟩
theorem rl_lv {D D' : Dt} (s : Sm rlS D D') : lvR D' = lvR D := by
  funext q k
  simp only [lvR]
  by_cases c0 : q = 0
  · rw [if_pos c0, if_pos c0, s.i (by simp [rlS])]
  · rw [if_neg c0, if_neg c0]
    by_cases c5 : q ≤ 5
    · rw [if_pos c5, if_pos c5, s.i (by simp [rlS]; omega)]
    · rw [if_neg c5, if_neg c5]
      by_cases c6 : q = 6
      · rw [if_pos c6, if_pos c6, s.i (by simp [rlS])]
      · rw [if_neg c6, if_neg c6]
        by_cases c13 : q ≤ 13
        · rw [if_pos c13, if_pos c13, s.i (by simp [rlS]; omega)]
        · rw [if_neg c13, if_neg c13, s.i (by simp [rlS])]
theorem RM.len0 {D D' : Dt} {A : Al} (h : RM D A) (hk : ∀ la k, kpM la k = true → ¬ (la = (11, 0, 0, 0) ∧ k = 19) → D'.1 la k = D.1 la k) (hl : lvR D' = lvR D) (h19 : D'.1 (11, 0, 0, 0) 19 = 0) : RM D' (A.1, A.2.1, A.2.2.1, A.2.2.2.1, 0, alB A) := by
  obtain ⟨h1, h2, h3, h4, h5, h6, h7, h8, h9, h10, h11⟩ := h
  refine ⟨by rw [hl]; exact h1, fun k hk' => ?_, fun k W hk' hW => ?_, ?_, fun r hr => ?_, h19, fun k hk' => absurd hk' (Nat.not_lt_zero k), ?_, ?_, ?_, ?_⟩
  · rw [hk _ _ (by simp [kpM]) (by simp)]; exact h2 k hk'
  · refine (h3 k W hk' hW).cong (fun q j hq hj => ?_)
    have := roO_b q hq
    exact hk _ _ (by simp [kpM]; omega) (by simp)
  · rw [hk _ _ (by simp [kpM]) (by simp)]; exact h4
  · obtain ⟨g1, g2⟩ := h5 r hr
    refine ⟨?_, fun c hc => ?_⟩
    · rw [hk _ _ (by simp [kpM]) (by simp)]; exact g1
    · obtain ⟨a1, a2, a3, a4⟩ := g2 c hc
      refine ⟨?_, ?_, ?_, fun k hk' => ?_⟩
      · rw [hk _ _ (by simp [kpM]) (by simp)]; exact a1
      · rw [hk _ _ (by simp [kpM]) (by simp)]; exact a2
      · rw [hk _ _ (by simp [kpM]) (by simp)]; exact a3
      · rw [hk _ _ (by simp [kpM]) (by simp), hk _ _ (by simp [kpM]) (by simp)]; exact a4 k hk'
  · rw [hk _ _ (by simp [kpM]) (by simp)]; exact h8
  · rw [hk _ _ (by simp [kpM]) (by simp)]; exact h9
  · rw [hk _ _ (by simp [kpM]) (by simp)]; exact h10
  · rw [hk _ _ (by simp [kpM]) (by simp)]; exact h11
theorem rl_m {D D' : Dt} (s : Sm rlS D D') : Sm mS D D' := s.mono (fun la k e => by
  simp only [mS, beq_eq_false_iff_ne] at e
  simp [rlS, e])
theorem r_table {A : Al} {D : Dt} (hA : okA A) (h : RM D A) : match pTab (taped A) with
    | .inl f => ∃ D', F_X11_table D = some (-2 - nI f, D') ∧ RM D' (A.1, A.2.1, A.2.2.1, A.2.2.2.1, 0, alB A) ∧ Sm mS D D'
    | .inr h1 => ∃ D', F_X11_table D = some (nI (shN h1), D') ∧ RM D' (tWo (alW A) (hTh h1), A.2.1, A.2.2.1, A.2.2.2.1, 0, alB A) ∧ Sm mS D D' := by
  have hT := okTp hA
  have hL := hT.1
  have hR := r_readsAll (D := D) (T := taped A) hT ⟨h.2.2.2.2.2.1, h.2.2.2.2.2.2.1⟩
  rw [F_X11_table]
  cases e4 : pTab (taped A) with
  | inl f =>
    rw [e4] at hR
    obtain ⟨D1, e1, f1, l1, m1⟩ := hR
    obtain ⟨f2, f3⟩ := pTb_f 41 0 h0 _ f (sbk_le (Nat.zero_le _)) e4
    simp only
    rw [e1, vbd_s, f1, if_neg (nI_nle (by omega) (by omega))]
    exact ⟨D1, rfl, h.len0 (rl_kp m1) (rl_lv m1) l1, rl_m m1⟩
  | inr h1 =>
    rw [e4] at hR
    obtain ⟨D1, e1, f1, l1, s1, m1⟩ := hR
    have RA := h.len0 (rl_kp m1) (rl_lv m1) l1
    simp only
    rw [e1, vbd_s, f1, if_pos (by decide)]
    obtain ⟨D2, ⟨p1, p2⟩, e2⟩ := lpC (fun fu j E => F_X11_table_b21 (fun D9 => (bnd (setI D9 (11, 0, 2, 0) 6 (0 : Int32)) (fun D10 => (vbd (F_X11_copies (11, 0, 16, 0) (11, 0, 12, 0) D10) (fun D12 => (vbd (F_X11_copies (11, 0, 17, 0) (11, 0, 13, 0) D12) (fun D14 => (vbd (F_X11_copies (11, 0, 18, 0) (11, 0, 14, 0) D14) (fun D16 => (vbd (F_X11_copies (11, 0, 19, 0) (11, 0, 8, 0) D16) (fun D18 => (vbd (F_X11_begins  D18) (fun D20 => (bnd (setI D20 (11, 0, 0, 0) 46 (0 : Int32)) (fun D21 => (some ((D21.1 (11, 0, 2, 0) 2), D21))))))))))))))))) fu (nI j) E) (fun j E => (∀ k, k < j → E.1 (11, 0, 2, 0) k = D1.1 (11, 0, 15, 0) k) ∧ Sm (fun la k => la == (11, 0, 2, 0) && decide (k < 3)) D1 E) 3 (fun D9 => (bnd (setI D9 (11, 0, 2, 0) 6 (0 : Int32)) (fun D10 => (vbd (F_X11_copies (11, 0, 16, 0) (11, 0, 12, 0) D10) (fun D12 => (vbd (F_X11_copies (11, 0, 17, 0) (11, 0, 13, 0) D12) (fun D14 => (vbd (F_X11_copies (11, 0, 18, 0) (11, 0, 14, 0) D14) (fun D16 => (vbd (F_X11_copies (11, 0, 19, 0) (11, 0, 8, 0) D16) (fun D18 => (vbd (F_X11_begins  D18) (fun D20 => (bnd (setI D20 (11, 0, 0, 0) 46 (0 : Int32)) (fun D21 => (some ((D21.1 (11, 0, 2, 0) 2), D21)))))))))))))))))
      (fun fu j E hj hh => by
        refine ⟨setI E (11, 0, 2, 0) j (E.1 (11, 0, 15, 0) j), ⟨fun k hk => ?_, hh.2.trans (Sm.sI (by simp [hj]))⟩, ?_⟩
        · by_cases c : k = j
          · rw [c, gI_s, hh.2.i (by simp)]
          · rw [gI_k c]
            exact hh.1 k (by omega)
        · show F_X11_table_b21 _ (fu + 1) (nI j) E = F_X11_table_b21 _ fu (nI (j + 1)) _
          rw [F_X11_table_b21, if_neg (show ¬ (3 : Int32) ≤ nI j from nI_ge (b := 3) hj (by decide)), grd_t (inBe hj (by decide)), grd_t (inBe (by omega) (by decide)), nIc (by omega), bnd_e, bnd_e, nI_1])
      (fun fu E hh => by
        show F_X11_table_b21 _ (fu + 1) (nI 3) E = _
        rw [F_X11_table_b21, if_pos (show (3 : Int32) ≤ nI 3 by decide)])
      3 2000 0 D1 (by omega) (by omega) ⟨fun k hk => absurd hk (by omega), Sm.refl⟩
    rw [show F_X11_table_b21 _ 2000 0 D1 = _ from e2, bnd_e]
    have m3 : Sm (fun la k => la == (11, 0, 2, 0) && k == 6) D2 (setI D2 (11, 0, 2, 0) 6 0) := Sm.sI (by simp)
    have x6 : (setI D2 (11, 0, 2, 0) 6 0).1 (11, 0, 2, 0) 6 = 0 := gI_s
    generalize setI D2 (11, 0, 2, 0) 6 0 = D3 at m3 x6 ⊢
    obtain ⟨D4, e4', v4, m4⟩ := r_copies (D := D3) (a1 := (11, 0, 16, 0)) (a2 := (11, 0, 12, 0)) (n := 5) (by decide) (by decide) rfl rfl (by decide) (by decide)
    obtain ⟨D5, e5, v5, m5⟩ := r_copies (D := D4) (a1 := (11, 0, 17, 0)) (a2 := (11, 0, 13, 0)) (n := 5) (by decide) (by decide) rfl rfl (by decide) (by decide)
    obtain ⟨D6, e6, v6, m6⟩ := r_copies (D := D5) (a1 := (11, 0, 18, 0)) (a2 := (11, 0, 14, 0)) (n := 5) (by decide) (by decide) rfl rfl (by decide) (by decide)
    obtain ⟨D7, e7, v7, m7⟩ := r_copies (D := D6) (a1 := (11, 0, 19, 0)) (a2 := (11, 0, 8, 0)) (n := 305) (by decide) (by decide) rfl rfl (by decide) (by decide)
    obtain ⟨b1, b2, b3, b4, b5⟩ := s1
    have c0 : ∀ k, k < 3 → D7.1 (11, 0, 2, 0) k = D1.1 (11, 0, 15, 0) k := fun k hk => by
      rw [m7.i (by simp), m6.i (by simp), m5.i (by simp), m4.i (by simp), m3.i (by simp; omega)]; exact p1 k hk
    have c2 : ∀ k, 3 ≤ k → k ≠ 6 → D7.1 (11, 0, 2, 0) k = D1.1 (11, 0, 2, 0) k := fun k hk hk6 => by
      rw [m7.i (by simp), m6.i (by simp), m5.i (by simp), m4.i (by simp), m3.i (by simp [hk6]), p2.i (by simp; omega)]
    have c6 : D7.1 (11, 0, 2, 0) 6 = 0 := by rw [m7.i (by simp), m6.i (by simp), m5.i (by simp), m4.i (by simp), x6]
    have cm : ∀ k, k < 5 → D7.1 (11, 0, 12, 0) k = h1.2.2.2.2.1 k ∧ D7.1 (11, 0, 13, 0) k = h1.2.2.2.2.2.1 k ∧ D7.1 (11, 0, 14, 0) k = h1.2.2.2.2.2.2.1 k := fun k hk => by
      obtain ⟨y1, y2, y3⟩ := b4 k hk
      refine ⟨?_, ?_, ?_⟩
      · rw [m7.i (by simp), m6.i (by simp), m5.i (by simp), v4 k hk, m3.i (by simp), p2.i (by simp)]; exact y1
      · rw [m7.i (by simp), m6.i (by simp), v5 k hk, m4.i (by simp), m3.i (by simp), p2.i (by simp)]; exact y2
      · rw [m7.i (by simp), v6 k hk, m5.i (by simp), m4.i (by simp), m3.i (by simp), p2.i (by simp)]; exact y3
    have ct : ∀ k v, k < 5 → v < 61 → D7.1 (11, 0, 8, 0) (61 * k + v) = shTl h1 k v := fun k v hk hv => by
      rw [v7 _ (by omega), m6.i (by simp), m5.i (by simp), m4.i (by simp), m3.i (by simp), p2.i (by simp)]; exact b5 k v hk hv
    obtain ⟨D8, e8, r8, m8⟩ := r_begins (D := D7) (h := hTh h1) (by rw [c0 0 (by decide)]; exact b1) cm
    rw [e4', vbd_s, e5, vbd_s, e6, vbd_s, e7, vbd_s, e8, vbd_s, bnd_e]
    have m9 : Sm (fun la k => la == (11, 0, 0, 0) && k == 46) D8 (setI D8 (11, 0, 0, 0) 46 0) := Sm.sI (by simp)
    have x46 : (setI D8 (11, 0, 0, 0) 46 0).1 (11, 0, 0, 0) 46 = 0 := gI_s
    have r9 : rdM (setI D8 (11, 0, 0, 0) 46 0) = begS (hTh h1) := by rw [rdM_sm m9 (fun q k _ _ => by simp) (fun k _ => by simp)]; exact r8
    generalize setI D8 (11, 0, 0, 0) 46 0 = D9 at m9 x46 r9 ⊢
    have g0 : ∀ k, (k < 3 ∨ 5 < k) → D9.1 (11, 0, 2, 0) k = D7.1 (11, 0, 2, 0) k := fun k hk => by rw [m9.i (by simp), m8.i (by simp [stM]; omega)]
    have gq : ∀ q k, 8 ≤ q → D9.1 (11, 0, q, 0) k = D7.1 (11, 0, q, 0) k := fun q k hq => by rw [m9.i (by simp; omega), m8.i (by simp [stM]; omega)]
    have hN : D9.1 (11, 0, 2, 0) 2 = nI (shN h1) := by rw [g0 2 (Or.inl (by decide)), c0 2 (by decide)]; exact b3.2
    rw [hN]
    obtain ⟨w1, w2, w3, w4, w5, w6, w7, w8, w9, w10, w11, w12, w13, w14⟩ := RA.1
    have mM : Sm mS D1 D9 := by
      have q1 : ∀ {S : LA → Nat → Bool} {E E' : Dt}, Sm S E E' → (∀ la k, la.1 ≠ 11 → S la k = false) → Sm mS E E' := fun s z => s.mono (fun la k e => z la k (by simpa [mS] using e))
      have z1 : ∀ (q : Nat) (P : Nat → Bool) (la : LA) (k : Nat), la.1 ≠ 11 → (la == (11, 0, q, 0) && P k) = false := fun q P la k hla => by
        rw [Bool.and_eq_false_iff, beq_eq_false_iff_ne]
        exact Or.inl (fun x => hla (by rw [x]))
      exact ((((((((q1 p2 (z1 2 _)).trans (q1 m3 (z1 2 _))).trans (q1 m4 (z1 12 _))).trans (q1 m5 (z1 13 _))).trans (q1 m6 (z1 14 _))).trans (q1 m7 (z1 8 _))).trans (stM_m m8)).trans (q1 m9 (z1 0 _)))
    refine ⟨D9, rfl, RM.setW RA (D' := D9) (fun la k e => ?_) ⟨?_, ?_, ?_, ?_, ?_, ?_, ?_, Nat.zero_le _, ?_, fun j hj => absurd hj (Nat.not_lt_zero j), fun k v hk hv => ?_, Nat.zero_le _, fun j hj => absurd hj (Nat.not_lt_zero j), fun k hk => ?_⟩, (rl_m m1).trans mM⟩
    · have hk2 : ∀ (q : Nat) (P : Bool), q = 2 ∨ q = 12 ∨ q = 13 ∨ q = 14 ∨ q = 8 → (la == (11, 0, q, 0) && P) = false := fun q P hq => by
        rw [Bool.and_eq_false_iff, beq_eq_false_iff_ne]
        left
        rintro rfl
        simp [kpM] at e
        omega
      have h46 : (la == (11, 0, 0, 0) && k == 46) = false := by
        by_cases c : la = (11, 0, 0, 0)
        · rw [c] at e ⊢
          simp [kpM] at e ⊢
          omega
        · simp [c]
      rw [m9.i h46, stM_kp m8 la k e, m7.i (hk2 8 _ (by decide)), m6.i (hk2 14 _ (by decide)), m5.i (hk2 13 _ (by decide)), m4.i (hk2 12 _ (by decide)), m3.i (hk2 2 _ (by decide)), p2.i (hk2 2 _ (by decide))]
    · rw [lvR_00, g0 0 (Or.inl (by decide)), c0 0 (by decide)]; exact b1
    · rw [lvR_00, g0 1 (Or.inl (by decide)), c0 1 (by decide)]; exact b2
    · exact hN
    · rw [lvR_rd]; exact r9
    · rw [lvR_00, g0 6 (Or.inr (by decide)), c6]; rfl
    · rw [lvR_00, g0 7 (Or.inr (by decide)), c2 7 (by decide) (by decide)]; exact w6
    · rw [lvR_00, g0 8 (Or.inr (by decide)), c2 8 (by decide) (by decide)]; exact w7
    · exact x46
    · show D9.1 (11, 0, 8, 0) (61 * k + v) = _
      rw [gq 8 _ (by decide)]; exact ct k v hk hv
    · show D9.1 (11, 0, 12, 0) k = _ ∧ D9.1 (11, 0, 13, 0) k = _ ∧ D9.1 (11, 0, 14, 0) k = _
      rw [gq 12 _ (by decide), gq 13 _ (by decide), gq 14 _ (by decide)]; exact cm k hk
def hOk (h : Shp) (cl : Nat) : Prop := shN h ≤ 5 ∧ bw h.2.2.1 9 ∧ (∀ k v, bw (shTl h k v) cl) ∧ (∀ k, bw (h.2.2.2.2.1 k) 99 ∧ bw (h.2.2.2.2.2.1 k) 9 ∧ bw (h.2.2.2.2.2.2.1 k) 99) ∧ (∀ k, shN h ≤ k → h.2.2.2.2.1 k = 0 ∧ h.2.2.2.2.2.1 k = 0 ∧ h.2.2.2.2.2.2.1 k = 0) ∧ bw h.2.1 9 ∧ (1 ≤ cl → 0 < h.2.1)
theorem bw_n {a : Nat} {m : Int} (h : (a : Int) ≤ m) (h2 : a < 100000) : bw (nI a) m := by
  unfold bw
  rw [nI_toInt (by omega)]
  omega
theorem bw_m {x : Int32} {a b : Int} (h : bw x a) (hab : a ≤ b) : bw x b := ⟨h.1, Int.le_trans h.2 hab⟩
theorem pTC_ok {T : Tp} {h h1 : Shp} {cl q q1 : Nat} (hcl : cl ≤ 40) (ho : hOk h cl) (e : pTC T h cl q = .inr (h1, q1)) : hOk h1 (cl + 1) := by
  obtain ⟨o1, o2, o3, o4, o5, o6, o7⟩ := ho
  have o3' : ∀ k v, bw (shTl h k v) ((cl + 1 : Nat) : Int) := fun k v => bw_m (o3 k v) (by omega)
  unfold pTC at e
  split at e
  · cases e
  · split at e
    · cases e
    · rename_i cA cB
      split at e
      · rename_i c32
        cases e1 : pNum T (nq T q) 1 10 with
        | inl f => rw [e1] at e; cases e
        | inr w =>
          obtain ⟨qa, r⟩ := w
          rw [e1] at e
          simp only at e
          cases e2 : pNum T qa 0 10 with
          | inl f => rw [e2] at e; cases e
          | inr w2 =>
            obtain ⟨qb, s⟩ := w2
            rw [e2] at e
            simp only [Sum.inr.injEq, Prod.mk.injEq] at e
            obtain ⟨v1, v2, _⟩ := pNum_v e1
            obtain ⟨v3, v4, _⟩ := pNum_v e2
            rw [← e.1]
            refine ⟨o1, bw_n (by omega) (by omega), o3', o4, o5, bw_n (by omega) (by omega), fun _ => ?_⟩
            show (0 : Int32) < nI r
            exact nI_lt (a := 0) (by omega) (by omega)
      · rename_i c32
        have hcl1 : 1 ≤ cl := by
          by_cases c : cl = 0
          · exfalso
            apply cB
            right
            left
            intro x
            exact c32 (x.mpr c)
          · omega
        split at e
        · rename_i c20
          have hn5 : shN h < 5 := by
            by_cases c : shN h < 5
            · exact c
            · exfalso
              apply cB
              right
              right
              exact ⟨c20, by omega⟩
          cases e1 : pNum T (nq T q) 0 100 with
          | inl f => rw [e1] at e; cases e
          | inr w =>
            obtain ⟨qa, a⟩ := w
            rw [e1] at e
            simp only at e
            cases e2 : pNum T qa 0 10 with
            | inl f => rw [e2] at e; cases e
            | inr w2 =>
              obtain ⟨qb, b⟩ := w2
              rw [e2] at e
              simp only at e
              cases e3 : pNum T qb 0 100 with
              | inl f => rw [e3] at e; cases e
              | inr w3 =>
                obtain ⟨qc, c⟩ := w3
                rw [e3] at e
                simp only [Sum.inr.injEq, Prod.mk.injEq] at e
                obtain ⟨_, v2, _⟩ := pNum_v e1
                obtain ⟨_, v4, _⟩ := pNum_v e2
                obtain ⟨_, v6, _⟩ := pNum_v e3
                rw [← e.1]
                refine ⟨by show shN h + 1 ≤ 5; omega, o2, o3', fun k => ?_, fun k hk => ?_, o6, fun _ => o7 hcl1⟩
                · show bw (if k = shN h then nI a else h.2.2.2.2.1 k) 99 ∧ bw (if k = shN h then nI b else h.2.2.2.2.2.1 k) 9 ∧ bw (if k = shN h then nI c else h.2.2.2.2.2.2.1 k) 99
                  by_cases ck : k = shN h
                  · rw [if_pos ck, if_pos ck, if_pos ck]
                    exact ⟨bw_n (by omega) (by omega), bw_n (by omega) (by omega), bw_n (by omega) (by omega)⟩
                  · rw [if_neg ck, if_neg ck, if_neg ck]
                    exact o4 k
                · have hk' : shN h + 1 ≤ k := hk
                  have ck : ¬ k = shN h := by omega
                  show (if k = shN h then nI a else h.2.2.2.2.1 k) = 0 ∧ (if k = shN h then nI b else h.2.2.2.2.2.1 k) = 0 ∧ (if k = shN h then nI c else h.2.2.2.2.2.2.1 k) = 0
                  rw [if_neg ck, if_neg ck, if_neg ck]
                  exact o5 k (by omega)
        · cases e1 : pNum T (nq T q) 0 (shN h) with
          | inl f => rw [e1] at e; cases e
          | inr w =>
            obtain ⟨qa, a⟩ := w
            rw [e1] at e
            simp only at e
            cases e2 : pNum T qa 0 61 with
            | inl f => rw [e2] at e; cases e
            | inr w2 =>
              obtain ⟨qb, b⟩ := w2
              rw [e2] at e
              simp only [Sum.inr.injEq, Prod.mk.injEq] at e
              rw [← e.1]
              refine ⟨o1, o2, fun k v => ?_, o4, o5, o6, fun _ => o7 hcl1⟩
              show bw (if k = a ∧ v = b then shTl h k v + 1 else shTl h k v) _
              by_cases ck : k = a ∧ v = b
              · rw [if_pos ck]
                obtain ⟨x1, x2⟩ := o3 k v
                have : (shTl h k v + 1).toInt = (shTl h k v).toInt + 1 := fb_addI (y := 1) (by have : (1 : Int32).toInt = 1 := rfl; omega) (by have : (1 : Int32).toInt = 1 := rfl; omega)
                unfold bw
                rw [this]
                omega
              · rw [if_neg ck]
                exact o3' k v
theorem pTb_ok {T : Tp} : ∀ m cl h q h1, cl + m ≤ 41 → hOk h cl → pTb T m cl h q = .inr h1 → ∃ cl', 1 ≤ cl' ∧ cl' ≤ 41 ∧ hOk h1 cl'
  | 0, cl, h, q, h1, _, _, e => by
    rw [pTb] at e
    cases e
  | m + 1, cl, h, q, h1, hcl, ho, e => by
    rw [pTb] at e
    cases e1 : pTC T h cl q with
    | inl f => rw [e1] at e; cases e
    | inr w =>
      obtain ⟨h2, q2⟩ := w
      rw [e1] at e
      have ho2 := pTC_ok (by omega) ho e1
      simp only at e
      split at e
      · simp only [Sum.inr.injEq] at e
        rw [← e]
        exact ⟨cl + 1, by omega, by omega, ho2⟩
      · split at e
        · exact pTb_ok m (cl + 1) h2 (nq T q2) h1 (by omega) ho2 e
        · cases e
theorem h0_ok : hOk h0 0 := ⟨by decide, bw0 (by decide), fun _ _ => bw0 (by decide), fun _ => ⟨bw0 (by decide), bw0 (by decide), bw0 (by decide)⟩, fun _ _ => ⟨rfl, rfl, rfl⟩, bw0 (by decide), fun h => absurd h (by decide)⟩
theorem beg_gd {h : Shp} {cl : Nat} (ho : hOk h cl) : Gd (shN h) (begS h) := by
  obtain ⟨o1, o2, o3, o4, o5, o6, o7⟩ := ho
  refine ⟨fun k => ?_, fun k hk => ?_, ?_⟩
  · by_cases c : k < 5
    · obtain ⟨x1, x2, x3⟩ := o4 k
      refine ⟨?_, ?_, ?_, ?_⟩
      · show bw (if 0 < 5 ∧ k < 5 then _ else _) 999
        rw [if_pos ⟨by decide, c⟩, if_pos rfl]
        exact bw_m x1 (by decide)
      · show bw (if 1 < 5 ∧ k < 5 then _ else _) 99
        rw [if_pos ⟨by decide, c⟩, if_neg (by decide), if_pos rfl]
        exact bw_m x2 (by decide)
      · show bw (if 2 < 5 ∧ k < 5 then _ else _) 99
        rw [if_pos ⟨by decide, c⟩, if_neg (by decide), if_neg (by decide), if_pos rfl]
        exact x3
      · show bw (if 3 < 5 ∧ k < 5 then _ else _) 9999
        rw [if_pos ⟨by decide, c⟩, if_neg (by decide), if_neg (by decide), if_neg (by decide), if_pos rfl]
        exact bw0 (by decide)
    · have z : ∀ q, q < 4 → begS h q k = 0 := fun q hq => by
        show (if q < 5 ∧ k < 5 then _ else if q = 5 ∧ k < 3 then _ else 0) = 0
        rw [if_neg (fun x => c x.2), if_neg (by omega)]
      rw [z 0 (by decide), z 1 (by decide), z 2 (by decide), z 3 (by decide)]
      exact ⟨bw0 (by decide), bw0 (by decide), bw0 (by decide), bw0 (by decide)⟩
  · by_cases c : k < 5
    · obtain ⟨x1, x2, x3⟩ := o5 k hk
      refine ⟨?_, ?_, ?_, ?_⟩
      · show (if 0 < 5 ∧ k < 5 then _ else _) = _
        rw [if_pos ⟨by decide, c⟩, if_pos rfl]
        exact x1
      · show (if 1 < 5 ∧ k < 5 then _ else _) = _
        rw [if_pos ⟨by decide, c⟩, if_neg (by decide), if_pos rfl]
        exact x2
      · show (if 2 < 5 ∧ k < 5 then _ else _) = _
        rw [if_pos ⟨by decide, c⟩, if_neg (by decide), if_neg (by decide), if_pos rfl]
        exact x3
      · show (if 3 < 5 ∧ k < 5 then _ else _) = _
        rw [if_pos ⟨by decide, c⟩, if_neg (by decide), if_neg (by decide), if_neg (by decide), if_pos rfl]
    · have z : ∀ q, q < 4 → begS h q k = 0 := fun q hq => by
        show (if q < 5 ∧ k < 5 then _ else if q = 5 ∧ k < 3 then _ else 0) = 0
        rw [if_neg (fun x => c x.2), if_neg (by omega)]
      exact ⟨z 0 (by decide), z 1 (by decide), z 2 (by decide), z 3 (by decide)⟩
  · exact o6
theorem p_table : Cal F_X10_table F_X11_table := by
  refine cal_of (fun A hA => ?_)
  have hc := fun D (h : RC D A) => c_table hA h
  have hm := fun D (h : RM D A) => r_table hA h
  cases e : pTab (taped A) with
  | inl f =>
    rw [e] at hc hm
    refine ⟨-2 - nI f, (A.1, A.2.1, A.2.2.1, A.2.2.2.1, 0, alB A), ?_, hc, hm⟩
    obtain ⟨h1, h2, h3, h4, h5, h6⟩ := hA
    exact ⟨h1, h2, h3, h4, Nat.zero_le _, h6⟩
  | inr h1 =>
    rw [e] at hc hm
    refine ⟨nI (shN h1), (tWo (alW A) (hTh h1), A.2.1, A.2.2.1, A.2.2.2.1, 0, alB A), ?_, hc, hm⟩
    obtain ⟨cl, c1, c2, ho⟩ := pTb_ok 41 0 h0 _ h1 (by omega) h0_ok e
    have hg : Gd (shN h1) (begS (hTh h1)) := beg_gd (h := hTh h1) ho
    obtain ⟨o1, o2, o3, o4, o5, o6, o7⟩ := ho
    obtain ⟨a1, a2, a3, a4, a5, a6⟩ := hA
    refine ⟨⟨o1, o2, fun k v => bw_m (o3 k v) (by omega), ⟨fun _ => o7 c1, fun _ => rfl⟩, fun x => (by cases x), hg, ⟨hg, 0, by decide, rfl⟩, fun j hj => absurd hj (Nat.not_lt_zero j), fun j hj => absurd hj (Nat.not_lt_zero j), a1.2.2.2.2.2.2.2.2.2.1, a1.2.2.2.2.2.2.2.2.2.2⟩, a2, a3, a4, Nat.zero_le _, a6⟩
