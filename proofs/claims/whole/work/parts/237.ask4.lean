theorem wk0 {A : Al} (hA : okA A) : ∃ w, w ≤ 999 ∧ woS (alW A) 5 1 = nI w := hA.1.2.2.2.2.2.2.1.2
theorem gd0 {A : Al} (hA : okA A) : Gd (shN (woH (alW A))) (woS (alW A)) := hA.1.2.2.2.2.2.2.1.1
theorem c_after {A : Al} {D : Dt} {n : Nat} (hA : okA A) (ht : (woH (alW A)).1 = true) (hn : n ≤ 100) (h : RC D A) : ∃ D', F_X1_after (nI n) D = some (105, D') ∧ rdS D' 105 = sI (cf0 A) n (woS (alW A)) ∧ Sm qS D D' := by
  obtain ⟨w, hw, ew⟩ := wk0 hA
  obtain ⟨D1, e1, q1, s1, _⟩ := qc_start (i := 105) (by decide) (by decide) hA ht h
  rw [F_X1_after, e1, vbd_s]
  have key : ∀ (m fu j : Nat) (D : Dt), j + m = n → m < fu → QC A D (cf0 A) 105 (sI (cf0 A) j (woS (alW A))) → ∃ D', F_X1_after_b10 (nI n) fu (nI n) (nI j) D = some (105, D') ∧ rdS D' 105 = sI (cf0 A) n (woS (alW A)) ∧ Sm qS D D' := by
    intro m
    induction m with
    | zero =>
      intro fu j D hj hf q
      obtain ⟨fu, rfl⟩ : ∃ g, fu = g + 1 := ⟨fu - 1, by omega⟩
      have : j = n := by omega
      subst this
      rw [F_X1_after_b10, if_pos (nI_le (Nat.le_refl _) (by omega))]
      exact ⟨D, rfl, q.2.2.2, Sm.refl⟩
    | succ m ih =>
      intro fu j D hj hf q
      obtain ⟨fu, rfl⟩ : ∃ g, fu = g + 1 := ⟨fu - 1, by omega⟩
      obtain ⟨D1, e1, q1, m1⟩ := qc_pass (by decide) (by decide) q rfl (sI_wk ew j) (by omega)
      rw [F_X1_after_b10, if_neg (nI_ge (by omega) (by omega)), e1, cbd_s]
      simp only [bnd_e, nI_1]
      obtain ⟨D2, e2, r2, m2⟩ := ih fu (j + 1) D1 (by omega) (by omega) q1
      exact ⟨D2, e2, r2, (we_q (by decide) m1).trans m2⟩
  obtain ⟨D2, e2, r2, m2⟩ := key n 2000 0 D1 (by omega) (by omega) q1
  exact ⟨D2, e2, r2, s1.trans m2⟩
theorem p_ahead (a b v : Int32) : Cal (F_X10_ahead a b v) (F_X11_ahead a b v) := by
  refine cal_of (fun A hA => ?_)
  have hn := hA.1.1
  by_cases c1 : inB a (shN (woH (alW A))) = true
  · obtain ⟨x, hx, rfl⟩ := inB_ex c1 (by omega)
    have ht := land_there hA hx
    by_cases c2 : (0 : Int32) ≤ b ∧ b ≤ 100
    · obtain ⟨n, hn2, rfl⟩ := nI_of2 (x := b) (M := 100) (n := 100) rfl (fun g => (fa_of_lt g).2.1 c2.1) c2.2
      by_cases c3 : (0 : Int32) ≤ v ∧ v ≤ 3
      · obtain ⟨w, hw, ew⟩ := wk0 hA
        refine cal_ask hA (if v = 0 then sI (cf0 A) n (woS (alW A)) 0 x else if v = 1 then sI (cf0 A) n (woS (alW A)) 1 x else if v = 2 then sI (cf0 A) n (woS (alW A)) 2 x else sI (cf0 A) n (woS (alW A)) 3 x) (fun D h => ?_) (fun D h => ?_)
        · obtain ⟨D1, e1, r1, s1⟩ := c_after hA ht hn2 h
          refine ⟨D1, ?_, s1⟩
          rw [F_X10_ahead, c_isLand hn h.n, cbd_s, i1t c1, c_within, cbd_s, i1t c2, c_within, cbd_s, i1t c3, e1, cbd_s, grd_t (V6 (by decide)), grd_t (inBe (by omega) (by decide)), grd_t (inBe (by omega) (by decide)), grd_t (inBe (by omega) (by decide)), grd_t (inBe (by omega) (by decide)), nIc (by omega), s_men (by omega), s_sun (by omega), s_hay (by omega), s_barn (by omega), r1]
          simp only [if_so]
        · obtain ⟨D1, e1, g1⟩ := qg_start h
          obtain ⟨D2, e2, g2⟩ := qg_goFor hA (okF hA) hn2 g1 (gd0 hA) ew (by omega)
          obtain ⟨D3, e3, g3⟩ := qg_lays g2
          have hs : rdM D2 = sI (cf0 A) n (woS (alW A)) := g2.2.2.2.2.2.2.2.2.1
          refine ⟨D3, _, ?_, g3⟩
          rw [F_X11_ahead, r_isLand hn h.n, cbd_s, i1t c1, r_in_0_100, cbd_s, i1t c2, r_in_0_3, cbd_s, i1t c3, e1, vbd_s, e2, vbd_s, grd_t (inBe (by omega) (by decide)), grd_t (inBe (by omega) (by decide)), grd_t (inBe (by omega) (by decide)), grd_t (inBe (by omega) (by decide)), nIc (by omega), m_men (by omega), m_sun (by omega), m_hay (by omega), m_barn (by omega), hs]
          simp only [F_X11_ahead_b90, e3, vbd_s, if_so]
      · refine cal_no hA (-1) (fun D h => ?_) (fun D h => ?_)
        · rw [F_X10_ahead, c_isLand hn h.n, cbd_s, i1t c1, c_within, cbd_s, i1t c2, c_within, cbd_s, i1f c3]
        · rw [F_X11_ahead, r_isLand hn h.n, cbd_s, i1t c1, r_in_0_100, cbd_s, i1t c2, r_in_0_3, cbd_s, i1f c3]
    · refine cal_no hA (-1) (fun D h => ?_) (fun D h => ?_)
      · rw [F_X10_ahead, c_isLand hn h.n, cbd_s, i1t c1, c_within, cbd_s, i1f c2]
      · rw [F_X11_ahead, r_isLand hn h.n, cbd_s, i1t c1, r_in_0_100, cbd_s, i1f c2]
  · refine cal_no hA (-1) (fun D h => ?_) (fun D h => ?_)
    · rw [F_X10_ahead, c_isLand hn h.n, cbd_s, i1f c1]
    · rw [F_X11_ahead, r_isLand hn h.n, cbd_s, i1f c1]
/-- the first WEEK with a bare field, from the j-th on -/
def brP (c : Cf) (s : St) (x w : Nat) : Nat → Nat → Int32
  | 0, _ => -2
  | m + 1, j => if sI c j s 2 x = 0 then nI (w + j) else brP c s x w m (j + 1)
theorem p_bare (a : Int32) : Cal (F_X10_bare a) (F_X11_bare a) := by
  refine cal_of (fun A hA => ?_)
  have hn := hA.1.1
  by_cases c1 : inB a (shN (woH (alW A))) = true
  · obtain ⟨x, hx, rfl⟩ := inB_ex c1 (by omega)
    have ht := land_there hA hx
    obtain ⟨w, hw, ew⟩ := wk0 hA
    refine cal_ask hA (brP (cf0 A) (woS (alW A)) x w 100 0) (fun D h => ?_) (fun D h => ?_)
    · obtain ⟨D1, e1, q1, s1, _⟩ := qc_start (i := 105) (by decide) (by decide) hA ht h
      rw [F_X10_bare, c_isLand hn h.n, cbd_s, i1t c1, F_X1_firstBare, e1, vbd_s]
      have key : ∀ (m fu j : Nat) (D : Dt), j + m = 100 → m < fu → QC A D (cf0 A) 105 (sI (cf0 A) j (woS (alW A))) → ∃ D', F_X1_firstBare_b10 (nI x) fu (nI x) (nI j) D = some (brP (cf0 A) (woS (alW A)) x w m j, D') ∧ Sm qS D D' := by
        intro m
        induction m with
        | zero =>
          intro fu j D hj hf q
          obtain ⟨fu, rfl⟩ : ∃ g, fu = g + 1 := ⟨fu - 1, by omega⟩
          rw [F_X1_firstBare_b10, if_pos (show (100 : Int32) ≤ nI j from nI_le (a := 100) (by omega) (by omega))]
          exact ⟨D, rfl, Sm.refl⟩
        | succ m ih =>
          intro fu j D hj hf q
          obtain ⟨fu, rfl⟩ : ∃ g, fu = g + 1 := ⟨fu - 1, by omega⟩
          rw [F_X1_firstBare_b10, if_neg (show ¬ (100 : Int32) ≤ nI j from nI_ge (b := 100) (by omega) (by decide)), grd_t (inBe (show x < 5 by omega) (by decide)), nIc (by omega), s_hay (by omega), s_week, q.2.2.2, sI_wk ew j, brP]
          by_cases c : sI (cf0 A) j (woS (alW A)) 2 x = 0
          · rw [if_pos c, if_pos c]
            exact ⟨D, rfl, Sm.refl⟩
          · rw [if_neg c, if_neg c]
            obtain ⟨D1, e1, q1, m1⟩ := qc_pass (by decide) (by decide) q rfl (sI_wk ew j) (by omega)
            rw [e1, cbd_s]
            simp only [bnd_e, nI_1]
            obtain ⟨D2, e2, m2⟩ := ih fu (j + 1) D1 (by omega) (by omega) q1
            exact ⟨D2, e2, (we_q (by decide) m1).trans m2⟩
      obtain ⟨D2, e2, m2⟩ := key 100 2000 0 D1 (by omega) (by omega) q1
      rw [show F_X1_firstBare_b10 (nI x) 2000 (nI x) 0 D1 = _ from e2, cbd_s]
      exact ⟨D2, rfl, s1.trans m2⟩
    · obtain ⟨D1, e1, g1⟩ := qg_start h
      rw [F_X11_bare, r_isLand hn h.n, cbd_s, i1t c1, e1, vbd_s]
      have fin : ∀ (E : Dt) (r : Int32) (s : St), QG A D E (woC (alW A)) 0 0 (-1) (-1) (woD (alW A)) s → ∃ D' o, (fun l2_23 D24 => (vbd (F_X11_laysBack D24) (fun D26 => (some (l2_23, D26))))) r E = some (r, D') ∧ QG A D D' (woC (alW A)) 0 0 (-1) o (woD (alW A)) (woS (alW A)) := by
        intro E r s g
        obtain ⟨D3, e3, g3⟩ := qg_lays g
        exact ⟨D3, _, by simp only [e3, vbd_s], g3⟩
      have key : ∀ (m fu j : Nat) (E : Dt), j + m = 100 → m < fu → QG A D E (woC (alW A)) 0 0 (-1) (-1) (woD (alW A)) (sI (cf0 A) j (woS (alW A))) → ∃ D' o, F_X11_bare_b19 (nI x) (fun l2_23 D24 => (vbd (F_X11_laysBack D24) (fun D26 => (some (l2_23, D26))))) fu (nI x) (-2) (nI j) E = some (brP (cf0 A) (woS (alW A)) x w m j, D') ∧ QG A D D' (woC (alW A)) 0 0 (-1) o (woD (alW A)) (woS (alW A)) := by
        intro m
        induction m with
        | zero =>
          intro fu j E hj hf g
          obtain ⟨fu, rfl⟩ : ∃ g, fu = g + 1 := ⟨fu - 1, by omega⟩
          rw [F_X11_bare_b19, if_pos (show (100 : Int32) ≤ nI j from nI_le (a := 100) (by omega) (by omega))]
          exact fin E _ _ g
        | succ m ih =>
          intro fu j E hj hf g
          obtain ⟨fu, rfl⟩ : ∃ g, fu = g + 1 := ⟨fu - 1, by omega⟩
          have hs : rdM E = sI (cf0 A) j (woS (alW A)) := g.2.2.2.2.2.2.2.2.1
          obtain ⟨E1, e1, g1⟩ := qg_goes hA (okF hA) g (Gd.sI (c := cf0 A) (cfX_ok hA) (gd0 hA) j) (sI_wk ew j) (by omega)
          rw [F_X11_bare_b19, if_neg (show ¬ (100 : Int32) ≤ nI j from nI_ge (b := 100) (by omega) (by decide)), if_pos rfl, grd_t (inBe (show x < 5 by omega) (by decide)), nIc (by omega), m_hay (by omega), m_week, hs, sI_wk ew j, brP]
          simp only [F_X11_bare_b51, e1, cbd_s, bnd_e, nI_1]
          by_cases c : sI (cf0 A) j (woS (alW A)) 2 x = 0
          · rw [if_pos c, if_pos c]
            obtain ⟨fu, rfl⟩ : ∃ g, fu = g + 1 := ⟨fu - 1, by omega⟩
            rw [F_X11_bare_b19]
            have hne : ¬ nI (w + j) = (-2 : Int32) := by
              intro e
              have := congrArg Int32.toInt e
              rw [nI_toInt (by omega)] at this
              have e2 : (-2 : Int32).toInt = -2 := rfl
              omega
            rw [if_neg hne, ite_self]
            exact fin E1 _ _ g1
          · rw [if_neg c, if_neg c]
            exact ih fu (j + 1) E1 (by omega) (by omega) g1
      exact key 100 2000 0 D1 (by omega) (by omega) g1
  · refine cal_no hA (-1) (fun D h => ?_) (fun D h => ?_)
    · rw [F_X10_bare, c_isLand hn h.n, cbd_s, i1f c1]
    · rw [F_X11_bare, r_isLand hn h.n, cbd_s, i1f c1]
/-- the first of five still WEEKS -/
def qtP (c : Cf) (s : St) (w : Nat) : Nat → Nat → Int32 → Int32
  | 0, _, _ => -2
  | m + 1, j, st => if (if wN c (sI c j s) = 0 then st + 1 else 0) = 5 then nI (w + (j + 1)) - 5 else qtP c s w m (j + 1) (if wN c (sI c j s) = 0 then st + 1 else 0)
theorem p_quiet : Cal F_X10_quiet F_X11_quiet := by
  refine cal_of (fun A hA => ?_)
  by_cases ht : (woH (alW A)).1 = true
  · obtain ⟨w, hw, ew⟩ := wk0 hA
    refine cal_ask hA (qtP (cf0 A) (woS (alW A)) w 64 0 0) (fun D h => ?_) (fun D h => ?_)
    · obtain ⟨D1, e1, q1, s1, _⟩ := qc_start (i := 105) (by decide) (by decide) hA ht h
      rw [F_X10_quiet, there_c h, i1t ht, F_X1_firstQuiet, e1, vbd_s]
      have key : ∀ (m fu j : Nat) (D : Dt) (st : Int32), j + m = 64 → m < fu → QC A D (cf0 A) 105 (sI (cf0 A) j (woS (alW A))) → ∃ D', F_X1_firstQuiet_b12 fu st (nI j) D = some (qtP (cf0 A) (woS (alW A)) w m j st, D') ∧ Sm qS D D' := by
        intro m
        induction m with
        | zero =>
          intro fu j D st hj hf q
          obtain ⟨fu, rfl⟩ : ∃ g, fu = g + 1 := ⟨fu - 1, by omega⟩
          rw [F_X1_firstQuiet_b12, if_pos (show (64 : Int32) ≤ nI j from nI_le (a := 64) (by omega) (by omega))]
          exact ⟨D, rfl, Sm.refl⟩
        | succ m ih =>
          intro fu j D st hj hf q
          obtain ⟨fu, rfl⟩ : ∃ g, fu = g + 1 := ⟨fu - 1, by omega⟩
          obtain ⟨D1, e1, q1, m1⟩ := qc_pass (by decide) (by decide) q rfl (sI_wk ew j) (by omega)
          have hwk : D1.1 (6, 105, 0, 0) 6 = nI (w + (j + 1)) := by rw [s_week, q1.2.2.2]; exact sI_wk ew (j + 1)
          rw [F_X1_firstQuiet_b12, if_neg (show ¬ (64 : Int32) ≤ nI j from nI_ge (b := 64) (by omega) (by decide)), e1, cbd_s, qtP]
          simp only [F_X1_firstQuiet_b39, bnd_e, nI_1, hwk]
          generalize wN (cf0 A) (sI (cf0 A) j (woS (alW A))) = r
          by_cases c : r = 0
          · rw [if_pos c, if_pos c]
            by_cases c5 : st + 1 = 5
            · rw [if_pos c5, if_pos c5]
              exact ⟨D1, rfl, we_q (by decide) m1⟩
            · rw [if_neg c5, if_neg c5]
              obtain ⟨D2, e2, m2⟩ := ih fu (j + 1) D1 (st + 1) (by omega) (by omega) q1
              exact ⟨D2, e2, (we_q (by decide) m1).trans m2⟩
          · rw [if_neg c, if_neg c, if_neg (by decide), if_neg (by decide)]
            obtain ⟨D2, e2, m2⟩ := ih fu (j + 1) D1 0 (by omega) (by omega) q1
            exact ⟨D2, e2, (we_q (by decide) m1).trans m2⟩
      obtain ⟨D2, e2, m2⟩ := key 64 2000 0 D1 0 (by omega) (by omega) q1
      rw [show F_X1_firstQuiet_b12 2000 0 0 D1 = _ from e2, cbd_s]
      exact ⟨D2, rfl, s1.trans m2⟩
    · obtain ⟨D1, e1, g1⟩ := qg_start h
      rw [F_X11_quiet, r_isTable, cbd_s]
      simp only [there_m hA h]
      rw [i1t ht, bnd_e, e1, vbd_s, m_week, h.s, ew]
      have fin : ∀ (E : Dt) (r : Int32) (s : St), QG A D E (woC (alW A)) 0 0 (-1) (-1) (woD (alW A)) s → ∃ D' o, (fun l3_36 D37 => (vbd (F_X11_laysBack D37) (fun D39 => (some (l3_36, D39))))) r E = some (r, D') ∧ QG A D D' (woC (alW A)) 0 0 (-1) o (woD (alW A)) (woS (alW A)) := by
        intro E r s g
        obtain ⟨D3, e3, g3⟩ := qg_lays g
        exact ⟨D3, _, by simp only [e3, vbd_s], g3⟩
      have key : ∀ (m fu j : Nat) (E : Dt) (st : Int32), j + m = 64 → m < fu → QG A D E (woC (alW A)) 0 0 (-1) (-1) (woD (alW A)) (sI (cf0 A) j (woS (alW A))) → (¬ nI (w + (j + 1)) - 5 = (-2 : Int32) ∨ True) → (st.toInt ≤ j ∧ 0 ≤ st.toInt) → ∃ D' o, F_X11_quiet_b28 (fun l3_36 D37 => (vbd (F_X11_laysBack D37) (fun D39 => (some (l3_36, D39))))) fu (nI w) st (-2) (nI j) E = some (qtP (cf0 A) (woS (alW A)) w m j st, D') ∧ QG A D D' (woC (alW A)) 0 0 (-1) o (woD (alW A)) (woS (alW A)) := by
        intro m
        induction m with
        | zero =>
          intro fu j E st hj hf g _ _
          obtain ⟨fu, rfl⟩ : ∃ g, fu = g + 1 := ⟨fu - 1, by omega⟩
          rw [F_X11_quiet_b28, if_pos (show (64 : Int32) ≤ nI j from nI_le (a := 64) (by omega) (by omega))]
          exact fin E _ _ g
        | succ m ih =>
          intro fu j E st hj hf g _ hst
          obtain ⟨fu, rfl⟩ : ∃ g, fu = g + 1 := ⟨fu - 1, by omega⟩
          obtain ⟨E1, e1, g1⟩ := qg_goes hA (okF hA) g (Gd.sI (c := cf0 A) (cfX_ok hA) (gd0 hA) j) (sI_wk ew j) (by omega)
          have hval : nI w + nI j - 4 = nI (w + (j + 1)) - 5 := by
            rw [nI_add, show w + (j + 1) = w + j + 1 by omega, ← nI_1, Int32.sub_eq_add_neg, Int32.sub_eq_add_neg, Int32.add_assoc]
            rfl
          have e1w : F_X11_goes E = some (wN (cf0 A) (sI (cf0 A) j (woS (alW A))), E1) := e1
          rw [F_X11_quiet_b28, if_neg (show ¬ (64 : Int32) ≤ nI j from nI_ge (b := 64) (by omega) (by decide)), if_pos rfl, e1w, cbd_s, qtP]
          simp only [F_X11_quiet_b55, F_X11_quiet_b72, bnd_e, nI_1, hval]
          generalize wN (cf0 A) (sI (cf0 A) j (woS (alW A))) = r
          have st1 : (st + 1).toInt = st.toInt + 1 := fb_addI (y := 1) (by have : (1 : Int32).toInt = 1 := rfl; omega) (by have : (1 : Int32).toInt = 1 := rfl; omega)
          by_cases c : r = 0
          · rw [if_pos c, if_pos c]
            by_cases c5 : st + 1 = 5
            · rw [if_pos c5, if_pos c5]
              have hj4 : 4 ≤ j := by
                have := congrArg Int32.toInt c5
                rw [st1] at this
                have e5 : (5 : Int32).toInt = 5 := rfl
                omega
              obtain ⟨fu, rfl⟩ : ∃ g, fu = g + 1 := ⟨fu - 1, by omega⟩
              rw [F_X11_quiet_b28]
              have hne : ¬ nI (w + (j + 1)) - 5 = (-2 : Int32) := by
                intro e
                have := congrArg Int32.toInt e
                rw [show (nI (w + (j + 1)) - 5).toInt = _ from pk_sub_toInt (a := w + (j + 1)) (b := 5) (by omega) (by decide)] at this
                have e2 : (-2 : Int32).toInt = -2 := rfl
                omega
              rw [if_neg hne, ite_self]
              exact fin E1 _ _ g1
            · rw [if_neg c5, if_neg c5]
              exact ih fu (j + 1) E1 (st + 1) (by omega) (by omega) g1 (Or.inr trivial) (by omega)
          · rw [if_neg c, if_neg c, if_neg (by decide), if_neg (by decide)]
            exact ih fu (j + 1) E1 0 (by omega) (by omega) g1 (Or.inr trivial) (by have : (0 : Int32).toInt = 0 := rfl; omega)
      exact key 64 2000 0 D1 0 (by omega) (by omega) g1 (Or.inr trivial) (by decide)
  · refine cal_no hA (-1) (fun D h => ?_) (fun D h => ?_)
    · rw [F_X10_quiet, there_c h, i1f ht]
    · rw [F_X11_quiet, r_isTable, cbd_s]
      simp only [there_m hA h]
      rw [i1f ht]
