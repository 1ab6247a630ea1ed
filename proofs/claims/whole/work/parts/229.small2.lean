def selN (s : St) (a : Nat) : Nat → Int32
  | 0 => 0
  | b + 1 => if pMay s a b = true then selN s a b ||| (1 <<< (nI b &&& 31)) else selN s a b
theorem selN_z {s : St} {a n : Nat} (hg : Gd n s) : ∀ m, selN s a (n + m) = selN s a n
  | 0 => rfl
  | m + 1 => by
    rw [← Nat.add_assoc, selN, selN_z hg m, if_neg]
    intro h
    have := (pMay_x h).2.2
    rw [(hg.2.1 (n + m) (by omega)).2.1] at this
    exact absurd this (by decide)
theorem c_sellers {D : Dt} {i a : Nat} (hi : V (6, i, 0, 0) = true) (ha : a < 5) : F_X6_sellers i (nI a) D = some (selN (rdS D i) a 5, D) := by
  rw [F_X6_sellers, grd_t hi]
  have : ∀ m fu j, j + m = 5 → m < fu → F_X6_sellers_b4 i (nI a) fu (nI a) (selN (rdS D i) a j) (nI j) D = some (selN (rdS D i) a 5, D) := by
    intro m
    induction m with
    | zero =>
      intro fu j hj hf
      obtain ⟨fu, rfl⟩ : ∃ g, fu = g + 1 := ⟨fu - 1, by omega⟩
      rw [F_X6_sellers_b4, if_pos (show (5 : Int32) ≤ nI j from nI_le (a := 5) (by omega) (by omega)), show j = 5 by omega]
    | succ m ih =>
      intro fu j hj hf
      obtain ⟨fu, rfl⟩ : ∃ g, fu = g + 1 := ⟨fu - 1, by omega⟩
      rw [F_X6_sellers_b4, if_neg (show ¬ (5 : Int32) ≤ nI j from nI_ge (b := 5) (by omega) (by decide)), c_mayBuy hi ha (by omega), cbd_s]
      simp only [F_X6_sellers_b24, bnd_e, nI_1]
      have := ih fu (j + 1) (by omega) (by omega)
      by_cases c : pMay (rdS D i) a j = true
      · rw [i1t c]
        rw [selN, if_pos c] at this
        exact this
      · rw [i1f c]
        rw [selN, if_neg c] at this
        exact this
  exact this 5 2000 0 (by omega) (by omega)
theorem or0 (x : Int32) : x ||| 0 = x := by
  apply Int32.toBitVec_inj.1
  show x.toBitVec ||| 0#32 = x.toBitVec
  simp
theorem r_canFrom {D : Dt} {a n : Nat} (ha : a < 5) (hn : n ≤ 5) (h2 : D.1 (11, 0, 2, 0) 2 = nI n) (h39 : D.1 (11, 0, 0, 0) 39 = 0) : F_X11_canFrom (nI a) D = some (selN (rdM D) a n, D) := by
  rw [F_X11_canFrom]
  have : ∀ m fu j, j + m = n → m < fu → F_X11_canFrom_b4 (nI a) fu (nI a) (selN (rdM D) a j) (nI j) D = some (selN (rdM D) a n, D) := by
    intro m
    induction m with
    | zero =>
      intro fu j hj hf
      obtain ⟨fu, rfl⟩ : ∃ g, fu = g + 1 := ⟨fu - 1, by omega⟩
      rw [F_X11_canFrom_b4, h2, if_pos (nI_le (by omega) (by omega)), show j = n by omega]
    | succ m ih =>
      intro fu j hj hf
      obtain ⟨fu, rfl⟩ : ∃ g, fu = g + 1 := ⟨fu - 1, by omega⟩
      rw [F_X11_canFrom_b4, h2, if_neg (nI_ge (by omega) (by omega)), r_canBuy ha (by omega), cbd_s, h39, has0 j (by omega)]
      simp only [F_X11_canFrom_b31, bnd_e, nI_1, Bool.not_false, Bool.and_true]
      have := ih fu (j + 1) (by omega) (by omega)
      by_cases c : pMay (rdM D) a j = true
      · rw [i1t c]
        rw [selN, if_pos c] at this
        exact this
      · rw [i1f c, or0]
        rw [selN, if_neg c] at this
        exact this
  exact this n 2000 0 (by omega) (by omega)
theorem p_land (a b : Int32) : Cal (F_X10_land a b) (F_X11_land a b) := by
  refine cal_of (fun A hA => ?_)
  have hn := hA.1.1
  have hgd := hA.1.2.2.2.2.2.2.1.1
  by_cases c1 : inB a (shN (woH (alW A))) = true
  · obtain ⟨x, hx, rfl⟩ := inB_ex c1 (by omega)
    refine cal_no hA (if b = 0 then woS (alW A) 0 x else if b = 1 then woS (alW A) 1 x else if b = 2 then woS (alW A) 2 x else if b = 3 then woS (alW A) 3 x else if b = 4 then selN (woS (alW A)) x (shN (woH (alW A))) else if b = 5 then woS (alW A) 4 x else -2) (fun D h => ?_) (fun D h => ?_)
    · have hsel : F_X6_sellers 0 (nI x) D = some (selN (woS (alW A)) x (shN (woH (alW A))), D) := by
        rw [c_sellers vv0 (by omega), h.s]
        have := selN_z (a := x) hgd (5 - shN (woH (alW A)))
        rw [show shN (woH (alW A)) + (5 - shN (woH (alW A))) = 5 by omega] at this
        rw [this]
      rw [F_X10_land, c_isLand hn h.n, cbd_s, i1t c1, grd_t (inBe (by omega) (by decide)), grd_t (inBe (by omega) (by decide)), grd_t (inBe (by omega) (by decide)), grd_t (inBe (by omega) (by decide)), grd_t (inBe (by omega) (by decide)), nIc (by omega), hsel, cbd_s, s_men (by omega), s_sun (by omega), s_hay (by omega), s_barn (by omega), s_from (by omega), h.s]
      simp only [if_so]
    · have hsel : F_X11_canFrom (nI x) D = some (selN (woS (alW A)) x (shN (woH (alW A))), D) := by rw [r_canFrom (by omega) hn h.n h.2.2.2.2.2.2.2.1, h.s]
      rw [F_X11_land, r_isLand hn h.n, cbd_s, i1t c1, grd_t (inBe (by omega) (by decide)), grd_t (inBe (by omega) (by decide)), grd_t (inBe (by omega) (by decide)), grd_t (inBe (by omega) (by decide)), grd_t (inBe (by omega) (by decide)), nIc (by omega), hsel, cbd_s, m_men (by omega), m_sun (by omega), m_hay (by omega), m_barn (by omega), m_from (by omega), h.s]
      simp only [if_so]
  · refine cal_no hA (-2) (fun D h => ?_) (fun D h => ?_)
    · rw [F_X10_land, c_isLand hn h.n, cbd_s, i1f c1]
    · rw [F_X11_land, r_isLand hn h.n, cbd_s, i1f c1]
theorem p_count (a : Int32) : Cal (F_X10_count a) (F_X11_count a) := by
  refine cal_of (fun A hA => ?_)
  have hn := hA.1.1
  have hgd := hA.1.2.2.2.2.2.2.1.1
  refine cal_no hA (if a = 0 then woS (alW A) 5 0 else if a = 1 then (woH (alW A)).2.2.1 else if a = 2 then nI (shN (woH (alW A))) else if a = 3 then nI (alN A) else if a = 4 then woC (alW A) else if a = 5 then woS (alW A) 5 1 else if a = 6 then totS (woS (alW A)) 0 else if a = 7 then totS (woS (alW A)) 1 else if a = 8 then totS (woS (alW A)) 2 else if a = 9 then totS (woS (alW A)) 3 else if a = 10 then woS (alW A) 5 2 else if a = 11 then nI (woN (alW A)) else if a = 12 then nI (woP (alW A)) else if a = 13 then woD (alW A) else if a = 14 then nI (alL A) else -1) (fun D h => ?_) (fun D h => ?_)
  · obtain ⟨h1, h2, h3, h4, h5, h6, h7, h8, h9, h10⟩ := h.1
    rw [F_X10_count, show F_X10_total (6, 0, 1, 0) D = _ from c_totS 0 vv0 (by decide), show F_X10_total (6, 0, 2, 0) D = _ from c_totS 1 vv0 (by decide), show F_X10_total (6, 0, 3, 0) D = _ from c_totS 2 vv0 (by decide), show F_X10_total (6, 0, 4, 0) D = _ from c_totS 3 vv0 (by decide), s_rate, s_week, s_bought, h.s, h1.2.2.1, h.n, h.2.2.2.2.1, h9, h7, h4, h10, h.2.2.2.2.2.2.1]
    simp only [cbd_s, if_so]
  · obtain ⟨h1, h2, h3, h4, h5, h6, h7, h8, h9, h10⟩ := h.1
    have hgm : Gd (shN (woH (alW A))) (rdM D) := by rw [h.s]; exact hgd
    rw [F_X11_count, show F_X11_allOf (11, 0, 3, 0) D = _ from r_totS 0 (by decide) hn h.n hgm, show F_X11_allOf (11, 0, 4, 0) D = _ from r_totS 1 (by decide) hn h.n hgm, show F_X11_allOf (11, 0, 5, 0) D = _ from r_totS 2 (by decide) hn h.n hgm, show F_X11_allOf (11, 0, 6, 0) D = _ from r_totS 3 (by decide) hn h.n hgm, m_rate, m_week, m_bought, h.s, show D.1 (11, 0, 2, 0) 1 = _ from h2, h.n, h.2.2.2.1, show D.1 (11, 0, 2, 0) 8 = _ from h7, show D.1 (11, 0, 2, 0) 6 = _ from h5, show D.1 (11, 0, 0, 0) 46 = _ from h9, show D.1 (11, 0, 2, 0) 7 = _ from h6, h.2.2.2.2.2.1]
    simp only [cbd_s, if_so]
/-! NOTES -/
def noW (W : Wo) (n : Nat) (a b c : Nat → Int32) : Wo := (W.1, W.2.1, W.2.2.1, W.2.2.2.1, n, a, b, c, W.2.2.2.2.2.2.2.2)
theorem RCw.note {D D' : Dt} {W : Wo} {n : Nat} {a b c : Nat → Int32} (r : RCw D 0 W) (hs : Sm (fun la k => la.1 == 9) D D') (hn : n ≤ 10) (h6 : D'.1 (9, 0, 0, 0) 6 = nI n) (h78 : D'.1 (9, 0, 0, 0) 7 = D.1 (9, 0, 0, 0) 7 ∧ D'.1 (9, 0, 0, 0) 8 = D.1 (9, 0, 0, 0) 8) (hj : ∀ j, j < n → D'.1 (9, 0, 4, 0) j = a j ∧ D'.1 (9, 0, 5, 0) j = b j ∧ D'.1 (9, 0, 6, 0) j = c j) : RCw D' 0 (noW W n a b c) := by
  obtain ⟨g1, g2, g3, g4, ⟨p, g5, g6⟩, g7, g8, g9, g10, g11⟩ := r
  refine ⟨g1.sm hs (fun _ _ _ => by simp), ?_, g3, ?_, ⟨p, g5.sm hs (fun k => by simp), fun j hj => ?_⟩, hn, h6, hj, ?_, ?_⟩
  · rw [rdS_sm hs (fun q k => by simp)]; exact g2
  · rw [hs.i (by simp)]; exact g4
  · rw [rdS_sm hs (fun q k => by simp)]; exact g6 j hj
  · rw [h78.1]; exact g10
  · rw [h78.2]; exact g11
theorem RW.note {R R' : Nat → Nat → Int32} {W : Wo} {n : Nat} {a b c : Nat → Int32} (r : RW R W) (h : ∀ q k, q < 15 → q ≠ 8 → q ≠ 9 → q ≠ 10 → ¬ (q = 0 ∧ k = 6) → R' q k = R q k) (hn : n ≤ 10) (h6 : R' 0 6 = nI n) (hj : ∀ j, j < n → R' 8 j = a j ∧ R' 9 j = b j ∧ R' 10 j = c j) : RW R' (noW W n a b c) := by
  obtain ⟨h1, h2, h3, h4, h5, h6', h7, h8, h9, h10, h11, h12, h13, h14⟩ := r
  refine ⟨?_, ?_, ?_, ?_, h6, ?_, ?_, h8, ?_, fun j hj => ?_, fun k v hk hv => ?_, hn, hj, fun k hk => ?_⟩
  · rw [h _ _ (by decide) (by decide) (by decide) (by decide) (by decide)]; exact h1
  · rw [h _ _ (by decide) (by decide) (by decide) (by decide) (by decide)]; exact h2
  · rw [h _ _ (by decide) (by decide) (by decide) (by decide) (by decide)]; exact h3
  · rw [show rdR R' = rdR R from ?_]
    · exact h4
    · funext x y
      simp only [rdR]
      by_cases c : x < 5 ∧ y < 5
      · rw [if_pos c, if_pos c, h _ _ (by omega) (by omega) (by omega) (by omega) (by omega)]
      · rw [if_neg c, if_neg c]
        by_cases c2 : x = 5 ∧ y < 3
        · rw [if_pos c2, if_pos c2, h _ _ (by omega) (by omega) (by omega) (by omega) (by omega)]
        · rw [if_neg c2, if_neg c2]
  · rw [h _ _ (by decide) (by decide) (by decide) (by decide) (by decide)]; exact h6'
  · rw [h _ _ (by decide) (by decide) (by decide) (by decide) (by decide)]; exact h7
  · rw [h _ _ (by decide) (by decide) (by decide) (by decide) (by decide)]; exact h9
  · have hj20 : j < 20 := Nat.lt_of_lt_of_le hj h8
    rw [rdP_cong hj20 (fun k _ => h _ _ (by decide) (by decide) (by decide) (by decide) (by omega))]; exact h10 j hj
  · rw [h _ _ (by decide) (by decide) (by decide) (by decide) (by omega)]; exact h11 k v hk hv
  · rw [h _ _ (by decide) (by decide) (by decide) (by decide) (by omega), h _ _ (by decide) (by decide) (by decide) (by decide) (by omega), h _ _ (by decide) (by decide) (by decide) (by decide) (by omega)]; exact h14 k hk
theorem okW.note {W : Wo} {nr n : Nat} {a b c : Nat → Int32} (h : okW W nr) (hj : ∀ j, j < n → (∃ x, x ≤ 60 ∧ a j = nI x) ∧ ∃ x, x < shN (woH W) ∧ b j = nI x) : okW (noW W n a b c) nr := by
  obtain ⟨h1, h2, h3, h4, h5, h6, h7, h8, h9, h10⟩ := h
  exact ⟨h1, h2, h3, h4, h5, h6, h7, h8, hj, h10⟩
def noS : LA → Nat → Bool := fun la k => la == (11, 0, 9, 0) || la == (11, 0, 10, 0) || la == (11, 0, 11, 0) || (la == (11, 0, 2, 0) && k == 6)
theorem noS_lv {D D' : Dt} (hs : Sm noS D D') : ∀ q k, q < 15 → q ≠ 8 → q ≠ 9 → q ≠ 10 → ¬ (q = 0 ∧ k = 6) → lvR D' q k = lvR D q k := by
  intro q k h15 h8 h9 h10 h06
  by_cases c6 : q = 6
  · subst c6
    exact hs.i (by simp [noS])
  · rw [← lvA_lv q h15 c6, ← lvA_lv q h15 c6]
    refine hs.i ?_
    have i1 : ¬ lvA q = (11, 0, 9, 0) := fun e => h8 (lvA_inj q 8 h15 (by decide) e)
    have i2 : ¬ lvA q = (11, 0, 10, 0) := fun e => h9 (lvA_inj q 9 h15 (by decide) e)
    have i3 : ¬ lvA q = (11, 0, 11, 0) := fun e => h10 (lvA_inj q 10 h15 (by decide) e)
    have i4 : ¬ (lvA q = (11, 0, 2, 0) ∧ k = 6) := fun e => h06 ⟨lvA_inj q 0 h15 (by decide) e.1, e.2⟩
    simp only [noS, i1, i2, i3, beq_eq_false_iff_ne.mpr, ne_eq, not_false_eq_true, Bool.or_eq_false_iff, Bool.and_eq_false_iff, beq_eq_false_iff_ne]
    exact ⟨⟨⟨trivial, trivial⟩, trivial⟩, by by_cases g : lvA q = (11, 0, 2, 0); exact Or.inr (fun e => i4 ⟨g, e⟩); exact Or.inl g⟩
theorem noS_kp {D D' : Dt} (hs : Sm noS D D') : ∀ la k, kpM la k = true → D'.1 la k = D.1 la k := by
  intro la k e
  refine hs.i ?_
  simp only [kpM, Bool.and_eq_true, Bool.or_eq_true, beq_iff_eq, decide_eq_true_eq] at e
  simp only [noS, Bool.or_eq_false_iff, Bool.and_eq_false_iff, beq_eq_false_iff_ne]
  obtain ⟨e1, e2⟩ := e
  refine ⟨⟨⟨fun x => ?_, fun x => ?_⟩, fun x => ?_⟩, Or.inl (fun x => ?_)⟩ <;> (rw [x] at e2; simp at e2)
theorem noS_m {D D' : Dt} (hs : Sm noS D D') : Sm mS D D' := hs.mono (fun la k e => by
  simp only [mS, beq_eq_false_iff_ne] at e
  simp only [noS, Bool.or_eq_false_iff, Bool.and_eq_false_iff, beq_eq_false_iff_ne]
  refine ⟨⟨⟨fun x => e (by rw [x]), fun x => e (by rw [x])⟩, fun x => e (by rw [x])⟩, Or.inl (fun x => e (by rw [x]))⟩)
theorem n9_W {D D' : Dt} (h : Sm (fun la k => la == (9, 0, 0, 0) || la == (9, 0, 4, 0) || la == (9, 0, 5, 0) || la == (9, 0, 6, 0)) D D') : Sm cW D D' ∧ Sm (fun la k => la.1 == 9) D D' := by
  refine ⟨h.mono (fun la k e => ?_), h.mono (fun la k e => ?_)⟩
  · simp only [Bool.or_eq_false_iff, beq_eq_false_iff_ne]
    refine ⟨⟨⟨fun x => ?_, fun x => ?_⟩, fun x => ?_⟩, fun x => ?_⟩ <;> (rw [x] at e; simp [cW, wcl] at e)
  · simp only [Bool.or_eq_false_iff, beq_eq_false_iff_ne] at e ⊢
    refine ⟨⟨⟨fun x => ?_, fun x => ?_⟩, fun x => ?_⟩, fun x => ?_⟩ <;> (rw [x] at e; simp at e)
