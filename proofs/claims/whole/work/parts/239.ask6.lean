/-- the first of the greatest -/
def bst (lab : Nat → Int32) (v : Nat → Int32) (w0 : Int32) : Nat → Int32 × Int32
  | 0 => (w0, -1)
  | j + 1 => if v j ≤ (bst lab v w0 j).2 then bst lab v w0 j else (lab j, v j)
theorem bst_w {lab v : Nat → Int32} {w0 w1 : Int32} (h0 : 0 ≤ (v 0).toInt) : ∀ j, bst lab v w0 (j + 1) = bst lab v w1 (j + 1)
  | 0 => by
    have : ¬ v 0 ≤ (-1 : Int32) := by
      rw [fa_le]
      have : (-1 : Int32).toInt = -1 := rfl
      omega
    show (if v 0 ≤ (-1 : Int32) then (w0, (-1 : Int32)) else (lab 0, v 0)) = (if v 0 ≤ (-1 : Int32) then (w1, (-1 : Int32)) else (lab 0, v 0))
    rw [if_neg this, if_neg this]
  | j + 1 => by
    rw [bst, bst_w h0 j]
    rfl
theorem c_fuller {D : Dt} {a : Int32} : ∃ D', F_X1_keepIfFuller a D = some D' ∧ (D'.1 (1, 0, 0, 0) 10, D'.1 (1, 0, 0, 0) 11) = (if totS (rdS D 105) 3 ≤ D.1 (1, 0, 0, 0) 11 then (D.1 (1, 0, 0, 0) 10, D.1 (1, 0, 0, 0) 11) else (a, totS (rdS D 105) 3)) ∧ Sm qS D D' := by
  rw [F_X1_keepIfFuller, show F_X10_total (6, 105, 4, 0) D = _ from c_totS 3 (V6 (by decide)) (by decide), cbd_s]
  by_cases c : totS (rdS D 105) 3 ≤ D.1 (1, 0, 0, 0) 11
  · rw [if_pos c, if_pos c]
    exact ⟨D, rfl, rfl, Sm.refl⟩
  · rw [if_neg c, if_neg c, bnd_e, bnd_e]
    refine ⟨_, rfl, ?_, (Sm.sI (by simp [qS])).trans (Sm.sI (by simp [qS]))⟩
    rw [gI_s, gI, if_neg (by simp), gI_s]
theorem p_best (a b : Int32) : Cal (F_X10_best a b) (F_X11_best a b) := by
  refine cal_of (fun A hA => ?_)
  have hn := hA.1.1
  by_cases ht : (woH (alW A)).1 = true
  · by_cases c3 : (1 : Int32) ≤ a ∧ a ≤ 60
    · obtain ⟨n, hn2, rfl⟩ := nI_of2 (x := a) (M := 60) (n := 60) rfl (fun g => by have := c3.1; rw [fa_lt] at g; rw [fa_le] at this; have : (0 : Int32).toInt = 0 := rfl; have : (1 : Int32).toInt = 1 := rfl; omega) c3.2
      by_cases c4 : (0 : Int32) ≤ b ∧ b ≤ 1
      · obtain ⟨w, hw, ew⟩ := wk0 hA
        have hg1 : ∀ j, j < 9 → Gd (shN (woH (alW A))) (up (woS (alW A)) 5 0 (nI (j + 1))) := fun j hj => (gd0 hA).ur (by unfold bw; rw [nI_toInt (by omega)]; omega)
        have ew1 : ∀ j, up (woS (alW A)) 5 0 (nI (j + 1)) 5 1 = nI w := fun j => by rw [up_n (by omega), ew]
        let ff : Nat → Int32 := fun j => totS (sI (cf0 A) n (up (woS (alW A)) 5 0 (nI (j + 1)))) 3
        have hff : ∀ j, ff j = totS (sI (cf0 A) n (up (woS (alW A)) 5 0 (nI (j + 1)))) 3 := fun j => rfl
        have hf0 : 0 ≤ (ff 0).toInt := tot_pos (Gd.sI (c := cf0 A) (cfX_ok hA) (hg1 0 (by decide)) n) (by decide)
        generalize ff = f at hff hf0
        refine cal_ask hA (if b = 0 then (bst (fun j => nI (j + 1)) f (-1) 9).1 else (bst (fun j => nI (j + 1)) f (-1) 9).2) (fun D h => ?_) (fun D h => ?_)
        · rw [F_X10_best, c_isSpan h, cbd_s, i1t ⟨ht, c3⟩, c_within, cbd_s, i1t c4, F_X1_findRate, bnd_e]
          have s0 : Sm qS D (setI D (1, 0, 0, 0) 11 (-1)) := Sm.sI (by simp [qS])
          have key : ∀ (m fu j : Nat) (E : Dt), j + m = 9 → m < fu → RC E A → (E.1 (1, 0, 0, 0) 10, E.1 (1, 0, 0, 0) 11) = bst (fun j => nI (j + 1)) f (D.1 (1, 0, 0, 0) 10) j → ∃ D', F_X1_findRate_b7 (nI n) fu (nI n) (nI (j + 1)) E = some D' ∧ (D'.1 (1, 0, 0, 0) 10, D'.1 (1, 0, 0, 0) 11) = bst (fun j => nI (j + 1)) f (D.1 (1, 0, 0, 0) 10) 9 ∧ Sm qS E D' := by
            intro m
            induction m with
            | zero =>
              intro fu j E hj hf h hb
              obtain ⟨fu, rfl⟩ : ∃ g, fu = g + 1 := ⟨fu - 1, by omega⟩
              have : j = 9 := by omega
              subst this
              rw [F_X1_findRate_b7, if_pos (show (9 : Int32) < nI (9 + 1) by decide)]
              exact ⟨E, rfl, hb, Sm.refl⟩
            | succ m ih =>
              intro fu j E hj hf h hb
              obtain ⟨fu, rfl⟩ : ∃ g, fu = g + 1 := ⟨fu - 1, by omega⟩
              obtain ⟨D1, e1, q1, s1, _, k1⟩ := qc_startx hA ht h
              have m2 : Sm (stS 105) D1 (setI D1 (6, 105, 0, 0) 5 (nI (j + 1))) := Sm.sI (stS_t _ _ _ _)
              have q2 := qc_st (s' := up (woS (alW A)) 5 0 (nI (j + 1))) (by decide) q1 m2 (by rw [sw_rate, q1.2.2.2])
              obtain ⟨D3, e3, r3, s3, _, t3, y3, z3⟩ := qc_run (n := n) hA (by omega) q2 (hg1 j (by omega)) (ew1 j) (by omega)
              obtain ⟨D4, e4, v4, s4⟩ := c_fuller (D := D3) (a := nI (j + 1))
              rw [F_X1_findRate_b7, if_neg (show ¬ (9 : Int32) < nI (j + 1) from nI_nlt (a := 9) (by omega) (by decide)), e1, vbd_s, bnd_e, e3, vbd_s, e4, vbd_s]
              simp only [bnd_e, nI_1]
              have hy : D3.1 (1, 0, 0, 0) 11 = E.1 (1, 0, 0, 0) 11 := by rw [y3, m2.i (by simp [stS]), k1 _ _ rfl]
              have hz : D3.1 (1, 0, 0, 0) 10 = E.1 (1, 0, 0, 0) 10 := by rw [z3, m2.i (by simp [stS]), k1 _ _ rfl]
              have hb1 := congrArg Prod.fst hb
              have hb2 := congrArg Prod.snd hb
              simp only at hb1 hb2
              obtain ⟨D5, e5, v5, s5⟩ := ih fu (j + 1) D4 (by omega) (by omega) (r3.scr s4) (by
                rw [v4, t3, ← hff j, hy, hz, hb1, hb2, bst])
              exact ⟨D5, e5, v5, (((s1.trans (st_q (by decide) m2)).trans s3).trans s4).trans s5⟩
          obtain ⟨D2, e2, v2, s2⟩ := key 9 2000 0 _ (by omega) (by omega) (h.scr s0) (by rw [gI_s, gI, if_neg (by simp)]; rfl)
          rw [show F_X1_findRate_b7 (nI n) 2000 (nI n) 1 _ = _ from e2, vbd_s]
          have hw9 : bst (fun j => nI (j + 1)) f (D.1 (1, 0, 0, 0) 10) 9 = bst (fun j => nI (j + 1)) f (-1) 9 := bst_w hf0 8
          rw [hw9] at v2
          have v21 := congrArg Prod.fst v2
          have v22 := congrArg Prod.snd v2
          simp only at v21 v22
          rw [v21, v22]
          simp only [if_so]
          exact ⟨D2, rfl, s0.trans s2⟩
        · obtain ⟨D1, e1, g1⟩ := qg_start h
          rw [F_X11_best, r_isTable, cbd_s]
          simp only [there_m hA h]
          rw [i1t ht, r_in_1_60, cbd_s, i1t c3, r_in_0_1, cbd_s, i1t c4, e1, vbd_s]
          have key : ∀ (m fu j : Nat) (E : Dt), j + m = 9 → m < fu → QG A D E (woC (alW A)) 0 0 (-1) (-1) (woD (alW A)) (woS (alW A)) → ∃ D' o, F_X11_best_b43 (nI n) b (fun l2_34 l3_35 l4_36 D37 => (if l2_34 = 0 then (some (l3_35, D37)) else (some (l4_36, D37)))) fu (nI n) b (bst (fun j => nI (j + 1)) f (-1) j).1 (bst (fun j => nI (j + 1)) f (-1) j).2 (nI (j + 1)) E = some ((if b = 0 then (bst (fun j => nI (j + 1)) f (-1) 9).1 else (bst (fun j => nI (j + 1)) f (-1) 9).2), D') ∧ QG A D D' (woC (alW A)) 0 0 (-1) o (woD (alW A)) (woS (alW A)) := by
            intro m
            induction m with
            | zero =>
              intro fu j E hj hf g
              obtain ⟨fu, rfl⟩ : ∃ g, fu = g + 1 := ⟨fu - 1, by omega⟩
              have : j = 9 := by omega
              subst this
              rw [F_X11_best_b43, if_pos (show (9 : Int32) < nI (9 + 1) by decide)]
              simp only [if_so]
              exact ⟨E, _, rfl, g⟩
            | succ m ih =>
              intro fu j E hj hf g
              obtain ⟨fu, rfl⟩ : ∃ g, fu = g + 1 := ⟨fu - 1, by omega⟩
              have hs2 : rdM E = woS (alW A) := g.2.2.2.2.2.2.2.2.1
              have m3 : Sm stM E (setI E (11, 0, 2, 0) 3 (nI (j + 1))) := Sm.sI (stM_s 0 0 (by decide) (by decide))
              obtain ⟨E4, e4, g4⟩ := qg_barns (n := n) hA (okF hA) (by omega) (qg_st (s' := up (woS (alW A)) 5 0 (nI (j + 1))) g m3 (by rw [mw_rate, hs2])) (hg1 j (by omega)) (ew1 j) (by omega)
              have e4' : F_X11_barnsIn (nI n) (setI E (11, 0, 2, 0) 3 (nI (j + 1))) = some (f j, E4) := by rw [hff j]; exact e4
              rw [F_X11_best_b43, if_neg (show ¬ (9 : Int32) < nI (j + 1) from nI_nlt (a := 9) (by omega) (by decide)), bnd_e, e4', cbd_s]
              simp only [F_X11_best_b79, bnd_e, nI_1]
              have := ih fu (j + 1) E4 (by omega) (by omega) g4
              rw [bst] at this
              by_cases c : f j ≤ (bst (fun j => nI (j + 1)) f (-1) j).2
              · rw [if_pos c]
                rw [if_pos c] at this
                exact this
              · rw [if_neg c]
                rw [if_neg c] at this
                exact this
          exact key 9 2000 0 D1 (by omega) (by omega) g1
      · refine cal_no hA (-1) (fun D h => ?_) (fun D h => ?_)
        · rw [F_X10_best, c_isSpan h, cbd_s, i1t ⟨ht, c3⟩, c_within, cbd_s, i1f c4]
        · rw [F_X11_best, r_isTable, cbd_s]
          simp only [there_m hA h]
          rw [i1t ht, r_in_1_60, cbd_s, i1t c3, r_in_0_1, cbd_s, i1f c4]
    · refine cal_no hA (-1) (fun D h => ?_) (fun D h => ?_)
      · rw [F_X10_best, c_isSpan h, cbd_s, i1f (fun x => c3 x.2)]
      · rw [F_X11_best, r_isTable, cbd_s]
        simp only [there_m hA h]
        rw [i1t ht, r_in_1_60, cbd_s, i1f c3]
  · refine cal_no hA (-1) (fun D h => ?_) (fun D h => ?_)
    · rw [F_X10_best, c_isSpan h, cbd_s, i1f (fun x => ht x.1)]
    · rw [F_X11_best, r_isTable, cbd_s]
      simp only [there_m hA h]
      rw [i1f ht]
def moL (j : Nat) : Int32 := if j = 0 then -1 else nI (j - 1)
theorem moL_1 (j : Nat) : moL j + 1 = moL (j + 1) := by
  unfold moL
  by_cases c : j = 0
  · subst c
    rfl
  · rw [if_neg c, if_neg (by omega), nI_1]
    congr 1
    omega
def moT (s : St) (j : Nat) : St := if j = 0 then s else pAddS s (j - 1) 1
theorem p_mother (a b : Int32) : Cal (F_X10_mother a b) (F_X11_mother a b) := by
  refine cal_of (fun A hA => ?_)
  have hn := hA.1.1
  by_cases ht : (woH (alW A)).1 = true
  · by_cases c3 : (1 : Int32) ≤ a ∧ a ≤ 60
    · obtain ⟨n, hn2, rfl⟩ := nI_of2 (x := a) (M := 60) (n := 60) rfl (fun g => by have := c3.1; rw [fa_lt] at g; rw [fa_le] at this; have : (0 : Int32).toInt = 0 := rfl; have : (1 : Int32).toInt = 1 := rfl; omega) c3.2
      by_cases c4 : (0 : Int32) ≤ b ∧ b ≤ 1
      · obtain ⟨w, hw, ew⟩ := wk0 hA
        have hg1 : ∀ j, j < shN (woH (alW A)) + 1 → Gd (shN (woH (alW A))) (moT (woS (alW A)) j) := fun j hj => by
          unfold moT
          by_cases c : j = 0
          · rw [if_pos c]; exact gd0 hA
          · rw [if_neg c]; exact (gd0 hA).addS (by omega) ⟨by decide, by decide⟩
        have ew1 : ∀ j, moT (woS (alW A)) j 5 1 = nI w := fun j => by
          unfold moT
          by_cases c : j = 0
          · rw [if_pos c, ew]
          · rw [if_neg c, pAddS, up_n (by omega), ew]
        let ff : Nat → Int32 := fun j => totS (sI (cf0 A) n (moT (woS (alW A)) j)) 3
        have hff : ∀ j, ff j = totS (sI (cf0 A) n (moT (woS (alW A)) j)) 3 := fun j => rfl
        have hf0 : 0 ≤ (ff 0).toInt := tot_pos (Gd.sI (c := cf0 A) (cfX_ok hA) (hg1 0 (by omega)) n) (by decide)
        generalize ff = f at hff hf0
        generalize hN : shN (woH (alW A)) = N at hn hg1
        refine cal_ask hA (if b = 0 then (bst moL f (-1) (N + 1)).1 else (bst moL f (-1) (N + 1)).2) (fun D h => ?_) (fun D h => ?_)
        · rw [F_X10_mother, c_isSpan h, cbd_s, i1t ⟨ht, c3⟩, c_within, cbd_s, i1t c4, F_X1_findMothered, bnd_e]
          have s0 : Sm qS D (setI D (1, 0, 0, 0) 11 (-1)) := Sm.sI (by simp [qS])
          have key : ∀ (m fu j : Nat) (E : Dt), j + m = N + 1 → m < fu → RC E A → (E.1 (1, 0, 0, 0) 10, E.1 (1, 0, 0, 0) 11) = bst moL f (D.1 (1, 0, 0, 0) 10) j → ∃ D', F_X1_findMothered_b7 (nI n) fu (nI n) (moL j) E = some D' ∧ (D'.1 (1, 0, 0, 0) 10, D'.1 (1, 0, 0, 0) 11) = bst moL f (D.1 (1, 0, 0, 0) 10) (N + 1) ∧ Sm qS E D' := by
            intro m
            induction m with
            | zero =>
              intro fu j E hj hf h hb
              obtain ⟨fu, rfl⟩ : ∃ g, fu = g + 1 := ⟨fu - 1, by omega⟩
              have : j = N + 1 := by omega
              subst this
              have hml : moL (N + 1) = nI N := by unfold moL; rw [if_neg (by omega)]; rfl
              rw [F_X1_findMothered_b7, h.n, hN, hml, if_pos (nI_le (Nat.le_refl _) (by omega))]
              exact ⟨E, rfl, hb, Sm.refl⟩
            | succ m ih =>
              intro fu j E hj hf h hb
              obtain ⟨fu, rfl⟩ : ∃ g, fu = g + 1 := ⟨fu - 1, by omega⟩
              obtain ⟨D1, e1, q1, s1, _, k1⟩ := qc_startx hA ht h
              have hge : ¬ nI N ≤ moL j := by
                unfold moL
                by_cases c : j = 0
                · rw [if_pos c, fa_le, nI_toInt (by omega)]
                  have : (-1 : Int32).toInt = -1 := rfl
                  omega
                · rw [if_neg c]
                  exact nI_ge (by omega) (by omega)
              rw [F_X1_findMothered_b7, h.n, hN, if_neg hge, e1, vbd_s]
              have rest : ∀ D2, QC A D2 (cf0 A) 105 (moT (woS (alW A)) j) → Sm (stS 105) D1 D2 → ∃ D', F_X1_findMothered_b43 (nI n) (fun l1_11 l2_12 D13 => (F_X1_findMothered_b7 (nI n) fu l1_11 l2_12 D13)) (nI n) (moL j) D2 = some D' ∧ (D'.1 (1, 0, 0, 0) 10, D'.1 (1, 0, 0, 0) 11) = bst moL f (D.1 (1, 0, 0, 0) 10) (N + 1) ∧ Sm qS E D' := by
                intro D2 q2 m2
                obtain ⟨D3, e3, r3, s3, _, t3, y3, z3⟩ := qc_run (n := n) hA (by omega) q2 (by rw [hN]; exact hg1 j (by omega)) (ew1 j) (by omega)
                obtain ⟨D4, e4, v4, s4⟩ := c_fuller (D := D3) (a := moL j)
                rw [F_X1_findMothered_b43, e3, vbd_s, e4, vbd_s, bnd_e, moL_1]
                have hy : D3.1 (1, 0, 0, 0) 11 = E.1 (1, 0, 0, 0) 11 := by rw [y3, m2.i (by simp [stS]), k1 _ _ rfl]
                have hz : D3.1 (1, 0, 0, 0) 10 = E.1 (1, 0, 0, 0) 10 := by rw [z3, m2.i (by simp [stS]), k1 _ _ rfl]
                have hb1 := congrArg Prod.fst hb
                have hb2 := congrArg Prod.snd hb
                simp only at hb1 hb2
                obtain ⟨D5, e5, v5, s5⟩ := ih fu (j + 1) D4 (by omega) (by omega) (r3.scr s4) (by
                  rw [v4, t3, ← hff j, hy, hz, hb1, hb2, bst])
                exact ⟨D5, e5, v5, (((s1.trans (st_q (by decide) m2)).trans s3).trans s4).trans s5⟩
              by_cases c : j = 0
              · have hm0 : moL j = -1 := by unfold moL; rw [if_pos c]
                rw [if_pos hm0]
                have hT : moT (woS (alW A)) j = woS (alW A) := by unfold moT; rw [if_pos c]
                exact rest D1 (by rw [hT]; exact q1) Sm.refl
              · have hm0 : moL j = nI (j - 1) := by unfold moL; rw [if_neg c]
                rw [if_neg (by rw [hm0]; exact nI_nem1 (by omega))]
                obtain ⟨D2, e2, r2, m2⟩ := c_addSun (D := D1) (i := 105) (k := j - 1) (v := 1) (V6 (by decide)) (by omega)
                rw [hm0] at rest ⊢
                rw [e2, vbd_s]
                have hT : moT (woS (alW A)) j = pAddS (woS (alW A)) (j - 1) 1 := by unfold moT; rw [if_neg c]
                have q2 := qc_st (by decide) q1 m2 r2
                rw [q1.2.2.2, ← hT] at q2
                exact rest D2 q2 m2
          obtain ⟨D2, e2, v2, s2⟩ := key (N + 1) 2000 0 _ (by omega) (by omega) (h.scr s0) (by rw [gI_s, gI, if_neg (by simp)]; rfl)
          rw [show F_X1_findMothered_b7 (nI n) 2000 (nI n) (-1) _ = _ from e2, vbd_s]
          rw [bst_w (w1 := -1) hf0 N] at v2
          have v21 := congrArg Prod.fst v2
          have v22 := congrArg Prod.snd v2
          simp only at v21 v22
          rw [v21, v22]
          simp only [if_so]
          exact ⟨D2, rfl, s0.trans s2⟩
        · obtain ⟨D1, e1, g1⟩ := qg_start h
          obtain ⟨D2, e2, g2⟩ := qg_barns (n := n) hA (okF hA) (by omega) g1 (gd0 hA) ew (by omega)
          have e2' : F_X11_barnsIn (nI n) D1 = some (f 0, D2) := by rw [hff 0]; exact e2
          rw [F_X11_mother, r_isTable, cbd_s]
          simp only [there_m hA h]
          rw [i1t ht, r_in_1_60, cbd_s, i1t c3, r_in_0_1, cbd_s, i1t c4, e1, vbd_s, e2', cbd_s]
          have key : ∀ (m fu j : Nat) (E : Dt), j + m = N → m < fu → QG A D E (woC (alW A)) 0 0 (-1) (-1) (woD (alW A)) (woS (alW A)) → ∃ D' o, F_X11_mother_b48 (nI n) b (fun l2_41 l3_42 l4_43 D44 => (if l2_41 = 0 then (some (l3_42, D44)) else (some (l4_43, D44)))) fu (nI n) b (bst moL f (-1) (j + 1)).1 (bst moL f (-1) (j + 1)).2 (nI j) E = some ((if b = 0 then (bst moL f (-1) (N + 1)).1 else (bst moL f (-1) (N + 1)).2), D') ∧ QG A D D' (woC (alW A)) 0 0 (-1) o (woD (alW A)) (woS (alW A)) := by
            intro m
            induction m with
            | zero =>
              intro fu j E hj hf g
              obtain ⟨fu, rfl⟩ : ∃ g, fu = g + 1 := ⟨fu - 1, by omega⟩
              have : j = N := by omega
              subst this
              rw [F_X11_mother_b48, qg_n g, hN, if_pos (nI_le (Nat.le_refl _) (by omega))]
              simp only [if_so]
              exact ⟨E, _, rfl, g⟩
            | succ m ih =>
              intro fu j E hj hf g
              obtain ⟨fu, rfl⟩ : ∃ g, fu = g + 1 := ⟨fu - 1, by omega⟩
              have hs2 : rdM E = woS (alW A) := g.2.2.2.2.2.2.2.2.1
              generalize hD3 : setI E (11, 0, 4, 0) j (if E.1 (11, 0, 4, 0) j + 1 < 99 then E.1 (11, 0, 4, 0) j + 1 else 99) = E3
              have m3 : Sm stM E E3 := by rw [← hD3]; exact Sm.sI (stM_r 0 (by decide) (by decide))
              have r3 : rdM E3 = moT (woS (alW A)) (j + 1) := by rw [← hD3, mw_sun (by omega), m_sun (by omega), hs2]; rfl
              obtain ⟨E4, e4, g4⟩ := qg_barns (n := n) hA (okF hA) (by omega) (qg_st g m3 r3) (by rw [hN]; exact hg1 (j + 1) (by omega)) (ew1 (j + 1)) (by omega)
              have e4' : F_X11_barnsIn (nI n) E3 = some (f (j + 1), E4) := by rw [hff (j + 1)]; exact e4
              rw [F_X11_mother_b48, qg_n g, hN, if_neg (nI_ge (by omega) (by omega)), grd_t (inBe (show j < 5 by omega) (by decide)), nIc (by omega), r_upTo, cbd_s, bnd_e, hD3, e4', cbd_s]
              simp only [F_X11_mother_b101, bnd_e, nI_1]
              have := ih fu (j + 1) E4 (by omega) (by omega) g4
              rw [show bst moL f (-1) (j + 1 + 1) = if f (j + 1) ≤ (bst moL f (-1) (j + 1)).2 then bst moL f (-1) (j + 1) else (moL (j + 1), f (j + 1)) from rfl] at this
              by_cases c : f (j + 1) ≤ (bst moL f (-1) (j + 1)).2
              · rw [if_pos c]
                rw [if_pos c] at this
                exact this
              · rw [if_neg c]
                rw [if_neg c] at this
                exact this
          have hb1 : bst moL f (-1) 1 = (-1, f 0) := by
            have : ¬ f 0 ≤ (-1 : Int32) := by
              rw [fa_le]
              have : (-1 : Int32).toInt = -1 := rfl
              omega
            show (if f 0 ≤ (-1 : Int32) then _ else _) = _
            rw [if_neg this]
            rfl
          have := key N 2000 0 D2 (by omega) (by omega) g2
          rw [show bst moL f (-1) (0 + 1) = _ from hb1] at this
          exact this
      · refine cal_no hA (-2) (fun D h => ?_) (fun D h => ?_)
        · rw [F_X10_mother, c_isSpan h, cbd_s, i1t ⟨ht, c3⟩, c_within, cbd_s, i1f c4]
        · rw [F_X11_mother, r_isTable, cbd_s]
          simp only [there_m hA h]
          rw [i1t ht, r_in_1_60, cbd_s, i1t c3, r_in_0_1, cbd_s, i1f c4]
    · refine cal_no hA (-2) (fun D h => ?_) (fun D h => ?_)
      · rw [F_X10_mother, c_isSpan h, cbd_s, i1f (fun x => c3 x.2)]
      · rw [F_X11_mother, r_isTable, cbd_s]
        simp only [there_m hA h]
        rw [i1t ht, r_in_1_60, cbd_s, i1f c3]
  · refine cal_no hA (-2) (fun D h => ?_) (fun D h => ?_)
    · rw [F_X10_mother, c_isSpan h, cbd_s, i1f (fun x => ht x.1)]
    · rw [F_X11_mother, r_isTable, cbd_s]
      simp only [there_m hA h]
      rw [i1f ht]
