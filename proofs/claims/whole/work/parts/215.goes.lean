theorem r_goesA {w : Nat} {c : Cf} {kk : Dt → Option (Int32 × Dt)} (hok : CfOk c) (hw2 : w < 100000) (s0 : St) (hg0 : Gd (cfN c) s0) : ∀ (m fu j : Nat) (D : Dt), j + m = cfN c → m < fu → CfM D c → rdM D = itr (wA1 c) j s0 → rdM D 5 1 = nI w → ∃ D', F_X11_goes_b2 kk fu (nI j) D = kk D' ∧ rdM D' = wkA c s0 ∧ rdM D' 5 1 = nI w ∧ Sm stM D D' := by
  intro m
  induction m with
  | zero =>
    intro fu j D hj hf hc hr hw
    obtain ⟨fu, rfl⟩ : ∃ g, fu = g + 1 := ⟨fu - 1, by omega⟩
    have : j = cfN c := by omega
    subst this
    have h5 := hc.1
    refine ⟨D, ?_, hr, hw, Sm.refl⟩
    rw [F_X11_goes_b2, hc.2.1, if_pos (nI_le (Nat.le_refl _) (by omega))]
  | succ m ih =>
    intro fu j D hj hf hc hr hw
    obtain ⟨fu, rfl⟩ : ∃ g, fu = g + 1 := ⟨fu - 1, by omega⟩
    have h5 := hc.1
    have hwd : D.1 (11, 0, 2, 0) 4 = nI w := by rw [m_week, hw]
    have hwk : ∀ j, wkN (itr (wA1 c) j s0) = w := fun i => by rw [wkN, itrA_wk, ← itrA_wk (c := c) (s := s0) j, ← hr, hw, nIc (by omega)]
    rw [F_X11_goes_b2, hc.2.1, if_neg (nI_ge (by omega) (by omega)), hwd]
    by_cases g : w < 61
    · rw [if_neg (show ¬ (61 : Int32) ≤ nI w from nI_ge (b := 61) g (by decide)), grd_t (inBe (show j < 5 by omega) (by decide))]
      have hx : (61 : Int32) * nI j + nI w = nI (61 * j + w) := by rw [show (61 : Int32) = nI 61 from rfl, pk_mul, nI_add]
      simp only [hx]
      rw [grd_t (inBe (by omega) (by decide)), nIc (show j < 2147483648 by omega), nIc (by omega), r_upTo, cbd_s, hc.2.2.2.1 j w (by omega) g]
      simp only [bnd_e, nI_1]
      generalize hD1 : setI D (11, 0, 4, 0) j _ = D1
      have m1 : Sm stM D D1 := by rw [← hD1]; exact Sm.sI (stM_r 0 (by decide) (by decide))
      have r1 : rdM D1 = itr (wA1 c) (j + 1) s0 := by
        have hwj := hwk j
        rw [← hD1, mw_sun (by omega), m_sun (by omega), hr, itr]
        generalize itr (wA1 c) j s0 = y at hwj ⊢
        simp only [wA1, pAddS, hwj, tlP, if_pos g]
      obtain ⟨D2, e2, r2, w2, m2⟩ := ih fu (j + 1) D1 (by omega) (by omega) (hc.sm (stM_mo m1)) r1 (by rw [r1, itrA_wk, ← itrA_wk (c := c) (s := s0) j, ← hr, hw])
      exact ⟨D2, e2, r2, w2, m1.trans m2⟩
    · rw [if_pos (show (61 : Int32) ≤ nI w from nI_le (a := 61) (by omega) (by omega))]
      have hst : ∀ i, i ≤ cfN c → itr (wA1 c) i s0 = s0 := by
        intro i
        induction i with
        | zero => intro _; rfl
        | succ i ihi =>
          intro hi
          have hwi := hwk i
          rw [itr]
          rw [ihi (by omega)] at hwi ⊢
          unfold wA1 pAddS
          rw [hwi, tlP, if_neg g]
          funext x y
          by_cases hxy : x = 1 ∧ y = i
          · obtain ⟨rfl, rfl⟩ := hxy
            have hb := (hg0.1 y).2.1
            have e0 : s0 1 y + 0 = s0 1 y := Int32.add_zero _
            rw [e0, up_s]
            by_cases hlt : s0 1 y < 99
            · rw [if_pos hlt]
            · rw [if_neg hlt]
              rw [fa_lt] at hlt
              rw [fa_eq]
              have : (99 : Int32).toInt = 99 := rfl
              have := hb.2
              omega
          · rw [up_n hxy]
      refine ⟨D, rfl, ?_, hw, Sm.refl⟩
      rw [hr, hst j (by omega), wkA, hst _ (Nat.le_refl _)]
theorem r_goesB {w : Nat} {c : Cf} {kk : Int32 → Dt → Option (Int32 × Dt)} (hok : CfOk c) (hw2 : w < 100000) (x0 : Wq) (hg0 : Gd (cfN c) x0.1) : ∀ (m fu j : Nat) (D : Dt), j + m = cfN c → m < fu → CfM D c → rdM D = (itr (wB1 c) j x0).1 → rdM D 5 1 = nI w → Rm43 D c (itr (wB1 c) j x0).2.2.1 → ∃ D', F_X11_goes_b67 kk fu (itr (wB1 c) j x0).2.1 (nI j) D = kk (wkB c x0).2.1 D' ∧ rdM D' = (wkB c x0).1 ∧ Rm43 D' c (wkB c x0).2.2.1 ∧ Sm moS D D' := by
  intro m
  induction m with
  | zero =>
    intro fu j D hj hf hc hr hw hm
    obtain ⟨fu, rfl⟩ : ∃ g, fu = g + 1 := ⟨fu - 1, by omega⟩
    have : j = cfN c := by omega
    subst this
    have h5 := hc.1
    refine ⟨D, ?_, hr, hm, Sm.refl⟩
    rw [F_X11_goes_b67, hc.2.1, if_pos (nI_le (Nat.le_refl _) (by omega))]
    rfl
  | succ m ih =>
    intro fu j D hj hf hc hr hw hm
    obtain ⟨fu, rfl⟩ : ∃ g, fu = g + 1 := ⟨fu - 1, by omega⟩
    have h5 := hc.1
    have hgd := Gd.wB hok hg0 j (by omega)
    generalize hx : itr (wB1 c) j x0 = x at hr hm hgd ⊢
    have hnx : itr (wB1 c) (j + 1) x0 = wB1 c j x := by rw [itr, hx]
    obtain ⟨D1, e1, r1, q1, s1⟩ := r_choice (m := x.2.2.1) hc (show j < 5 by omega) hw hw2 (by rw [hr]; exact (hgd.1 j).2.1) hm
    rw [hr] at e1 q1
    rw [F_X11_goes_b67, hc.2.1, if_neg (nI_ge (by omega) (by omega)), e1, cbd_s, grd_t (inBe (show j < 5 by omega) (by decide)), nIc (by omega)]
    simp only [bnd_e]
    generalize hp : pkP c x.2.2.1 x.1 j = o at e1 ⊢
    generalize hD2 : setI D1 (11, 0, 7, 0) j o = D2
    have s2 : Sm moS D1 D2 := by rw [← hD2]; exact stM_mo (Sm.sI (stM_r 0 (by decide) (by decide)))
    have r2 : rdM D2 = up x.1 4 j o := by rw [← hD2, mw_from (by omega), r1, hr]
    have o2 : D2.1 (11, 0, 7, 0) j = o := by rw [← hD2, gI, if_pos ⟨rfl, rfl⟩]
    have q2 : Rm43 D2 c (pkM c x.2.2.1 x.1 j) := by
      unfold Rm43
      rw [← hD2, gI, if_neg (by simp)]
      exact q1
    rw [o2]
    by_cases g : o = -1
    · rw [if_pos g]
      simp only [F_X11_goes_b112, bnd_e, nI_1]
      have hB : wB1 c j x = (up x.1 4 j o, x.2.1, pkM c x.2.2.1 x.1 j, x.2.2.2) := by unfold wB1; rw [hp, if_pos g, g]
      obtain ⟨D3, e3, r3, q3, s3⟩ := ih fu (j + 1) D2 (by omega) (by omega) (hc.sm (s1.trans s2)) (by rw [hnx, hB, r2]) (by rw [r2, up_n (by omega), ← hr, hw]) (by rw [hnx, hB]; exact q2)
      refine ⟨D3, ?_, r3, q3, (s1.trans s2).trans s3⟩
      rw [← e3, hnx, hB]
    · rw [if_neg g]
      rcases pkP_rng (c := c) (m := x.2.2.1) (s := x.1) (a := j) with h | ⟨b, hb, eb, hmay⟩
      · rw [hp] at h
        exact absurd h g
      · rw [hp] at eb
        subst eb
        obtain ⟨D3, e3, r3, m3⟩ := r_buys (D := D2) (show j < 5 by omega) (show b < 5 by omega)
        rw [e3, vbd_s]
        simp only [F_X11_goes_b112, bnd_e, nI_1]
        have hB : wB1 c j x = (pBuy (up x.1 4 j (nI b)) j b, x.2.1 + 1, pkM c x.2.2.1 x.1 j, x.2.2.2 ||| (1 <<< (nI b &&& 31))) := by unfold wB1; rw [hp, if_neg g, nIc (by omega)]
        have q3 : Rm43 D3 c (pkM c x.2.2.1 x.1 j) := by
          unfold Rm43
          rw [m3.i (by simp [stM])]
          exact q2
        obtain ⟨D5, e5, r5, q5, s5⟩ := ih fu (j + 1) D3 (by omega) (by omega) (hc.sm ((s1.trans s2).trans (stM_mo m3))) (by rw [hnx, hB, r3, r2]) (by rw [r3, wk_buy, r2, up_n (by omega), ← hr, hw]) (by rw [hnx, hB]; exact q3)
        refine ⟨D5, ?_, r5, q5, ((s1.trans s2).trans (stM_mo m3)).trans s5⟩
        rw [← e5, hnx, hB]
theorem r_goesC {c : Cf} {l1 : Int32} {kk : Int32 → Dt → Option (Int32 × Dt)} (hok : CfOk c) (s0 : St) (hg0 : Gd (cfN c) s0) : ∀ (m fu j : Nat) (D : Dt), j + m = cfN c → m < fu → CfM D c → rdM D = itr (wC1 c) j s0 → ∃ D', F_X11_goes_b120 kk fu l1 (nI j) D = kk l1 D' ∧ rdM D' = wkC c s0 ∧ Sm stM D D' := by
  intro m
  induction m with
  | zero =>
    intro fu j D hj hf hc hr
    obtain ⟨fu, rfl⟩ : ∃ g, fu = g + 1 := ⟨fu - 1, by omega⟩
    have : j = cfN c := by omega
    subst this
    have h5 := hc.1
    refine ⟨D, ?_, hr, Sm.refl⟩
    rw [F_X11_goes_b120, hc.2.1, if_pos (nI_le (Nat.le_refl _) (by omega))]
  | succ m ih =>
    intro fu j D hj hf hc hr
    obtain ⟨fu, rfl⟩ : ∃ g, fu = g + 1 := ⟨fu - 1, by omega⟩
    have h5 := hc.1
    have hgd := Gd.wC hok hg0 j (by omega)
    obtain ⟨D1, e1, r1, m1⟩ := r_reaps (D := D) (k := j) (by omega) (by rw [hr]; exact (hgd.1 j).2.2.1) (by rw [hr]; exact (hgd.1 j).2.1)
    have hc1 := hc.sm (stM_mo m1)
    rw [F_X11_goes_b120, hc.2.1, if_neg (nI_ge (by omega) (by omega)), e1, vbd_s, grd_t (inBe (show j < 5 by omega) (by decide)), hc1.2.2.1, r_upTo, cbd_s, nIc (by omega)]
    simp only [bnd_e, nI_1]
    generalize hD2 : setI D1 (11, 0, 4, 0) j _ = D2
    have m2 : Sm stM D1 D2 := by rw [← hD2]; exact Sm.sI (stM_r 0 (by decide) (by decide))
    have r2 : rdM D2 = itr (wC1 c) (j + 1) s0 := by
      rw [← hD2, mw_sun (by omega), m_sun (by omega), r1, hr]
      rfl
    obtain ⟨D3, e3, r3, m3⟩ := ih fu (j + 1) D2 (by omega) (by omega) (hc1.sm (stM_mo m2)) r2
    exact ⟨D3, e3, r3, (m1.trans m2).trans m3⟩
theorem r_goes {D : Dt} {w : Nat} {m : Bool} {c : Cf} (se : Int32) (hok : CfOk c) (hc : CfM D c) (hg : Gd (cfN c) (rdM D)) (hw : rdM D 5 1 = nI w) (hw2 : w < 100000) (hm : Rm43 D c m) : ∃ D', F_X11_goes D = some ((pWk c m (rdM D) se).2.1, D') ∧ rdM D' = (pWk c m (rdM D) se).1 ∧ Rm43 D' c (pWk c m (rdM D) se).2.2.1 ∧ Sm moS D D' := by
  have h5 := hc.1
  rw [F_X11_goes]
  obtain ⟨D1, e1, r1, w1, m1⟩ := r_goesA (kk := fun D10 => (F_X11_goes_b67 (fun l1_28 D29 => (F_X11_goes_b120 (fun l1_39 D40 => (bnd (setI D40 (11, 0, 2, 0) 4 ((D40.1 (11, 0, 2, 0) 4) + 1)) (fun D41 => (some (l1_39, D41))))) 2000 l1_28 0 D29)) 2000 0 0 D10)) hok hw2 (rdM D) hg (cfN c) 2000 0 D (by omega) (by omega) hc rfl hw
  have hc1 := hc.sm (stM_mo m1)
  have hg1 : Gd (cfN c) (wkA c (rdM D)) := Gd.wA hok hg _ (Nat.le_refl _)
  have hm1 : Rm43 D1 c m := by
    unfold Rm43
    rw [m1.i (by simp [stM])]
    exact hm
  obtain ⟨D2, e2, r2, q2, s2⟩ := r_goesB (kk := fun l1_28 D29 => (F_X11_goes_b120 (fun l1_39 D40 => (bnd (setI D40 (11, 0, 2, 0) 4 ((D40.1 (11, 0, 2, 0) 4) + 1)) (fun D41 => (some (l1_39, D41))))) 2000 l1_28 0 D29)) hok hw2 (wkA c (rdM D), 0, m, se) hg1 (cfN c) 2000 0 D1 (by omega) (by omega) hc1 r1 w1 hm1
  have hc2 := hc1.sm s2
  have hg2 : Gd (cfN c) (wkB c (wkA c (rdM D), 0, m, se)).1 := Gd.wB hok hg1 _ (Nat.le_refl _)
  obtain ⟨D3, e3, r3, m3⟩ := r_goesC (l1 := (wkB c (wkA c (rdM D), 0, m, se)).2.1) (kk := fun l1_39 D40 => (bnd (setI D40 (11, 0, 2, 0) 4 ((D40.1 (11, 0, 2, 0) 4) + 1)) (fun D41 => (some (l1_39, D41))))) hok _ hg2 (cfN c) 2000 0 D2 (by omega) (by omega) hc2 r2
  refine ⟨setI D3 (11, 0, 2, 0) 4 (D3.1 (11, 0, 2, 0) 4 + 1), ?_, ?_, ?_, ?_⟩
  · exact e1.trans (e2.trans e3)
  · rw [mw_week, m_week, r3]
    rfl
  · unfold Rm43
    rw [gI, if_neg (by simp), m3.i (by simp [stM])]
    exact q2
  · exact (((stM_mo m1).trans s2).trans (stM_mo m3)).trans (stM_mo (Sm.sI (stM_s 0 0 (by decide) (by decide))))
