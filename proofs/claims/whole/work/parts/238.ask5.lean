theorem c_isSpan {A : Al} {D : Dt} {a : Int32} (h : RC D A) : F_X10_isSpan a D = some (if (woH (alW A)).1 = true ∧ ((1 : Int32) ≤ a ∧ a ≤ 60) then 1 else 0, D) := by
  rw [F_X10_isSpan, there_c h]
  by_cases c1 : (woH (alW A)).1 = true
  · rw [i1t c1, c_within, cbd_s]
    by_cases c2 : (1 : Int32) ≤ a ∧ a ≤ 60
    · rw [i1t c2, if_pos ⟨c1, c2⟩]
    · rw [i1f c2, if_neg (fun x => c2 x.2)]
  · rw [i1f c1, if_neg (fun x => c1 x.1)]
/-- from the start, with another state: till bare -/
theorem qc_run {A : Al} {D : Dt} {n : Nat} {s : St} (hA : okA A) (hn : n ≤ 100) (q : QC A D (cf0 A) 105 s) (hg : Gd (shN (woH (alW A))) s) {w : Nat} (hw : s 5 1 = nI w) (hw2 : w ≤ 2000) : ∃ D', F_X8_passTillBare 1 105 (nI n) D = some D' ∧ RC D' A ∧ Sm qS D D' ∧ (∀ k, rdS D' 105 3 k = sI (cf0 A) n s 3 k) ∧ totS (rdS D' 105) 3 = totS (sI (cf0 A) n s) 3 ∧ D'.1 (1, 0, 0, 0) 11 = D.1 (1, 0, 0, 0) 11 ∧ D'.1 (1, 0, 0, 0) 10 = D.1 (1, 0, 0, 0) 10 := by
  have hok : CfOk (cf0 A) := cfX_ok hA
  obtain ⟨D', e, r, _, m⟩ := qc_till hok rfl hn q hg hw hw2
  refine ⟨D', e, r.1, we_q (by decide) m, fun k => ?_, ?_, m.i (by simp [weS]), m.i (by simp [weS])⟩
  · rw [r.2.2.2, tB_barn hok n (s, D.1 (8, 1, 0, 0) 7) hg k]
  · rw [r.2.2.2]
    exact tB_tot (x := (s, D.1 (8, 1, 0, 0) 7)) hok hg
theorem start_1 {D D' : Dt} (s : Sm qS D D') : RC D' = RC D' := rfl
theorem qc_startx {A : Al} {D : Dt} (hA : okA A) (ht : (woH (alW A)).1 = true) (h : RC D A) : ∃ D', F_X1_startOn 105 D = some D' ∧ QC A D' (cf0 A) 105 (woS (alW A)) ∧ Sm qS D D' ∧ D'.1 (8, 1, 0, 0) 7 = 0 ∧ (∀ la k, la.1 = 1 → D'.1 la k = D.1 la k) := by
  have hi2 : 105 < 111 := by decide
  obtain ⟨D1, e1, r1, m1⟩ := c_copyFrom (D := D) (i := 105) (j := 0) (V6 hi2) vv0
  have h1 := h.scr (st_q (by decide) m1)
  obtain ⟨D2, e2, c2, q2, z2, s2⟩ := c_follow V81 h1 hA ht (okF hA)
  rw [F_X1_startOn, grd_t (V6 hi2), e1, vbd_s, h1.1.2.2.2.2.2.2.2.2.1, c_ruleOf hA (okF hA), cbd_s, e2, vbd_s]
  refine ⟨D2, rfl, ⟨h1.scr (fo_W s2), c2, q2, ?_⟩, (st_q (by decide) m1).trans (fo_W s2), z2, fun la k hla => ?_⟩
  · rw [rdS_sm s2 (fun q k => by simp), r1, h.s]
  · rw [s2.i, m1.i]
    · simp [stS, hla]
    · rw [beq_eq_false_iff_ne]
      rintro rfl
      simp at hla
theorem p_worth (a b v : Int32) : Cal (F_X10_worth a b v) (F_X11_worth a b v) := by
  refine cal_of (fun A hA => ?_)
  have hn := hA.1.1
  by_cases c1 : inB a (shN (woH (alW A))) = true
  · obtain ⟨x, hx, rfl⟩ := inB_ex c1 (by omega)
    have ht := land_there hA hx
    by_cases c2 : (1 : Int32) ≤ b ∧ b ≤ 99
    · by_cases c3 : (1 : Int32) ≤ v ∧ v ≤ 60
      · obtain ⟨n, hn2, rfl⟩ := nI_of2 (x := v) (M := 60) (n := 60) rfl (fun g => by have := c3.1; rw [fa_lt] at g; rw [fa_le] at this; have : (0 : Int32).toInt = 0 := rfl; have : (1 : Int32).toInt = 1 := rfl; omega) c3.2
        obtain ⟨w, hw, ew⟩ := wk0 hA
        have hbv : bw b 1000 := by
          have := c2
          simp only [fa_le] at this
          have e1 : (1 : Int32).toInt = 1 := rfl
          have e2 : (99 : Int32).toInt = 99 := rfl
          unfold bw
          omega
        have hg1 := (gd0 hA).addM hx hbv
        have ew1 : pAddM (woS (alW A)) x b 5 1 = nI w := by rw [pAddM, up_n (by omega), ew]
        refine cal_ask hA (sI (cf0 A) n (pAddM (woS (alW A)) x b) 3 x - sI (cf0 A) n (woS (alW A)) 3 x) (fun D h => ?_) (fun D h => ?_)
        · obtain ⟨D1, e1, q1, s1, _⟩ := qc_start (i := 105) (by decide) (by decide) hA ht h
          obtain ⟨D2, e2, r2, s2, b2, _⟩ := qc_run (n := n) hA (by omega) q1 (gd0 hA) ew (by omega)
          obtain ⟨D3, e3, q3, s3, _⟩ := qc_start (i := 105) (by decide) (by decide) hA ht r2
          obtain ⟨D4, e4, r4, m4⟩ := c_addMen (D := D3) (i := 105) (k := x) (v := b) (V6 (by decide)) (by omega)
          have q4 := qc_st (by decide) q3 m4 r4
          rw [q3.2.2.2] at q4
          obtain ⟨D5, e5, r5, s5, b5, _⟩ := qc_run (n := n) hA (by omega) q4 hg1 ew1 (by omega)
          refine ⟨D5, ?_, (((s1.trans s2).trans s3).trans (st_q (by decide) m4)).trans s5⟩
          rw [F_X10_worth, c_isLand hn h.n, cbd_s, i1t c1, c_within, cbd_s, i1t c2, c_isSpan h, cbd_s, i1t ⟨ht, c3⟩, F_X1_worthOf, e1, vbd_s, e2, vbd_s, grd_t (inBe (by omega) (by decide)), nIc (by omega), bnd_e, e3, vbd_s, e4, vbd_s, e5, vbd_s, cbd_s, s_barn (D := D5) (by omega), s_barn (D := D2) (by omega), b5, b2]
        · obtain ⟨D1, e1, g1⟩ := qg_start h
          obtain ⟨D2, e2, g2⟩ := qg_barn (k := x) (n := n) hA (okF hA) (by omega) (by omega) g1 (gd0 hA) ew (by omega)
          have hs2 : rdM D2 = woS (alW A) := g2.2.2.2.2.2.2.2.2.1
          generalize hD3 : setI D2 (11, 0, 3, 0) x (if D2.1 (11, 0, 3, 0) x + b < 999 then D2.1 (11, 0, 3, 0) x + b else 999) = D3
          have m3 : Sm stM D2 D3 := by rw [← hD3]; exact Sm.sI (stM_r 0 (by decide) (by decide))
          have r3 : rdM D3 = pAddM (woS (alW A)) x b := by rw [← hD3, mw_men (by omega), m_men (by omega), hs2, pAddM]
          have g3 := qg_st g2 m3 r3
          obtain ⟨D4, e4, g4⟩ := qg_barn (k := x) (n := n) hA (okF hA) (by omega) (by omega) g3 hg1 ew1 (by omega)
          refine ⟨D4, _, ?_, g4⟩
          rw [F_X11_worth, r_isLand hn h.n, cbd_s, i1t c1, r_in_1_99, cbd_s, i1t c2, r_in_1_60, cbd_s, i1t c3, e1, vbd_s, e2, cbd_s, grd_t (inBe (by omega) (by decide)), nIc (by omega), r_upTo, cbd_s, bnd_e, hD3, e4, cbd_s]
          rfl
      · refine cal_no hA (-100000) (fun D h => ?_) (fun D h => ?_)
        · rw [F_X10_worth, c_isLand hn h.n, cbd_s, i1t c1, c_within, cbd_s, i1t c2, c_isSpan h, cbd_s, i1f (fun x => c3 x.2)]
        · rw [F_X11_worth, r_isLand hn h.n, cbd_s, i1t c1, r_in_1_99, cbd_s, i1t c2, r_in_1_60, cbd_s, i1f c3]
    · refine cal_no hA (-100000) (fun D h => ?_) (fun D h => ?_)
      · rw [F_X10_worth, c_isLand hn h.n, cbd_s, i1t c1, c_within, cbd_s, i1f c2]
      · rw [F_X11_worth, r_isLand hn h.n, cbd_s, i1t c1, r_in_1_99, cbd_s, i1f c2]
  · refine cal_no hA (-100000) (fun D h => ?_) (fun D h => ?_)
    · rw [F_X10_worth, c_isLand hn h.n, cbd_s, i1f c1]
    · rw [F_X11_worth, r_isLand hn h.n, cbd_s, i1f c1]
/-- the least more, from j on -/
def ndP (f : Nat → Int32) (b : Int32) : Nat → Nat → Int32
  | 0, _ => -2
  | m + 1, j => if f j < b then ndP f b m (j + 1) else nI j
theorem p_need (a b v : Int32) : Cal (F_X10_need a b v) (F_X11_need a b v) := by
  refine cal_of (fun A hA => ?_)
  have hn := hA.1.1
  by_cases c1 : inB a (shN (woH (alW A))) = true
  · obtain ⟨x, hx, rfl⟩ := inB_ex c1 (by omega)
    have ht := land_there hA hx
    by_cases c2 : (1 : Int32) ≤ b ∧ b ≤ 9999
    · by_cases c3 : (1 : Int32) ≤ v ∧ v ≤ 60
      · obtain ⟨n, hn2, rfl⟩ := nI_of2 (x := v) (M := 60) (n := 60) rfl (fun g => by have := c3.1; rw [fa_lt] at g; rw [fa_le] at this; have : (0 : Int32).toInt = 0 := rfl; have : (1 : Int32).toInt = 1 := rfl; omega) c3.2
        obtain ⟨w, hw, ew⟩ := wk0 hA
        have hg1 : ∀ j, j ≤ 20 → Gd (shN (woH (alW A))) (pAddS (woS (alW A)) x (nI j)) := fun j hj => (gd0 hA).addS hx (by unfold bw; rw [nI_toInt (by omega)]; omega)
        have ew1 : ∀ j, pAddS (woS (alW A)) x (nI j) 5 1 = nI w := fun j => by rw [pAddS, up_n (by omega), ew]
        let ff : Nat → Int32 := fun j => sI (cf0 A) n (pAddS (woS (alW A)) x (nI j)) 3 x
        have hff : ∀ j, ff j = sI (cf0 A) n (pAddS (woS (alW A)) x (nI j)) 3 x := fun j => rfl
        generalize ff = f at hff
        refine cal_ask hA (ndP f b 21 0) (fun D h => ?_) (fun D h => ?_)
        · rw [F_X10_need, c_isLand hn h.n, cbd_s, i1t c1, c_within, cbd_s, i1t c2, c_isSpan h, cbd_s, i1t ⟨ht, c3⟩, F_X1_leastSun]
          have key : ∀ (m fu j : Nat) (D : Dt), j + m = 21 → m < fu → RC D A → ∃ D', F_X1_leastSun_b3 (nI x) b (nI n) fu (nI x) b (nI n) (nI j) D = some (ndP f b m j, D') ∧ Sm qS D D' := by
            intro m
            induction m with
            | zero =>
              intro fu j D hj hf h
              obtain ⟨fu, rfl⟩ : ∃ g, fu = g + 1 := ⟨fu - 1, by omega⟩
              rw [F_X1_leastSun_b3, if_pos (show (20 : Int32) < nI j from nI_lt (a := 20) (by omega) (by omega))]
              exact ⟨D, rfl, Sm.refl⟩
            | succ m ih =>
              intro fu j D hj hf h
              obtain ⟨fu, rfl⟩ : ∃ g, fu = g + 1 := ⟨fu - 1, by omega⟩
              obtain ⟨D1, e1, q1, s1, _⟩ := qc_start (i := 105) (by decide) (by decide) hA ht h
              obtain ⟨D2, e2, r2, m2⟩ := c_addSun (D := D1) (i := 105) (k := x) (v := nI j) (V6 (by decide)) (by omega)
              have q2 := qc_st (by decide) q1 m2 r2
              rw [q1.2.2.2] at q2
              obtain ⟨D3, e3, r3, s3, b3, _⟩ := qc_run (n := n) hA (by omega) q2 (hg1 j (by omega)) (ew1 j) (by omega)
              rw [F_X1_leastSun_b3, if_neg (show ¬ (20 : Int32) < nI j from nI_nlt (a := 20) (by omega) (by decide)), e1, vbd_s, e2, vbd_s, e3, vbd_s, grd_t (inBe (show x < 5 by omega) (by decide)), nIc (by omega), s_barn (by omega), b3, ← hff j, ndP]
              have s := (s1.trans (st_q (by decide) m2)).trans s3
              by_cases c : f j < b
              · rw [if_pos c, if_pos c]
                simp only [bnd_e, nI_1]
                obtain ⟨D4, e4, s4⟩ := ih fu (j + 1) D3 (by omega) (by omega) r3
                exact ⟨D4, e4, s.trans s4⟩
              · rw [if_neg c, if_neg c]
                exact ⟨D3, rfl, s⟩
          obtain ⟨D2, e2, s2⟩ := key 21 2000 0 D (by omega) (by omega) h
          rw [show F_X1_leastSun_b3 (nI x) b (nI n) 2000 (nI x) b (nI n) 0 D = _ from e2, cbd_s]
          exact ⟨D2, rfl, s2⟩
        · obtain ⟨D1, e1, g1⟩ := qg_start h
          rw [F_X11_need, r_isLand hn h.n, cbd_s, i1t c1, r_in_1_9999, cbd_s, i1t c2, r_in_1_60, cbd_s, i1t c3, e1, vbd_s]
          have key : ∀ (m fu j : Nat) (E : Dt), j + m = 21 → m + 1 < fu → QG A D E (woC (alW A)) 0 0 (-1) (-1) (woD (alW A)) (woS (alW A)) → ∃ D' o, F_X11_need_b45 (nI x) b (nI n) fu (nI x) b (nI n) (-2) (nI j) E = some (ndP f b m j, D') ∧ QG A D D' (woC (alW A)) 0 0 (-1) o (woD (alW A)) (woS (alW A)) := by
            intro m
            induction m with
            | zero =>
              intro fu j E hj hf g
              obtain ⟨fu, rfl⟩ : ∃ g, fu = g + 1 := ⟨fu - 1, by omega⟩
              rw [F_X11_need_b45, if_pos (show (20 : Int32) < nI j from nI_lt (a := 20) (by omega) (by omega))]
              exact ⟨E, _, rfl, g⟩
            | succ m ih =>
              intro fu j E hj hf g
              obtain ⟨fu, rfl⟩ : ∃ g, fu = g + 1 := ⟨fu - 1, by omega⟩
              have hs2 : rdM E = woS (alW A) := g.2.2.2.2.2.2.2.2.1
              generalize hD3 : setI E (11, 0, 4, 0) x (if E.1 (11, 0, 4, 0) x + nI j < 99 then E.1 (11, 0, 4, 0) x + nI j else 99) = E3
              have m3 : Sm stM E E3 := by rw [← hD3]; exact Sm.sI (stM_r 0 (by decide) (by decide))
              have r3 : rdM E3 = pAddS (woS (alW A)) x (nI j) := by rw [← hD3, mw_sun (by omega), m_sun (by omega), hs2, pAddS]
              obtain ⟨E4, e4, g4⟩ := qg_barn (k := x) (n := n) hA (okF hA) (by omega) (by omega) (qg_st g m3 r3) (hg1 j (by omega)) (ew1 j) (by omega)
              have e4' : F_X11_barnOfIn (nI x) (nI n) E3 = some (f j, E4) := by rw [hff j]; exact e4
              rw [F_X11_need_b45, if_neg (show ¬ (20 : Int32) < nI j from nI_nlt (a := 20) (by omega) (by decide)), if_pos rfl, grd_t (inBe (show x < 5 by omega) (by decide)), nIc (by omega), r_upTo, cbd_s, bnd_e, hD3, e4', cbd_s, ndP]
              simp only [F_X11_need_b96, bnd_e, nI_1]
              by_cases c : f j < b
              · rw [if_pos c, if_pos c]
                exact ih fu (j + 1) E4 (by omega) (by omega) g4
              · rw [if_neg c, if_neg c]
                obtain ⟨fu, rfl⟩ : ∃ g, fu = g + 1 := ⟨fu - 1, by omega⟩
                have hne : ¬ nI j = (-2 : Int32) := by
                  intro e
                  have := congrArg Int32.toInt e
                  rw [nI_toInt (by omega)] at this
                  have e2 : (-2 : Int32).toInt = -2 := rfl
                  omega
                rw [F_X11_need_b45, if_neg hne, ite_self]
                exact ⟨E4, _, rfl, g4⟩
          exact key 21 2000 0 D1 (by omega) (by omega) g1
      · refine cal_no hA (-1) (fun D h => ?_) (fun D h => ?_)
        · rw [F_X10_need, c_isLand hn h.n, cbd_s, i1t c1, c_within, cbd_s, i1t c2, c_isSpan h, cbd_s, i1f (fun x => c3 x.2)]
        · rw [F_X11_need, r_isLand hn h.n, cbd_s, i1t c1, r_in_1_9999, cbd_s, i1t c2, r_in_1_60, cbd_s, i1f c3]
    · refine cal_no hA (-1) (fun D h => ?_) (fun D h => ?_)
      · rw [F_X10_need, c_isLand hn h.n, cbd_s, i1t c1, c_within, cbd_s, i1f c2]
      · rw [F_X11_need, r_isLand hn h.n, cbd_s, i1t c1, r_in_1_9999, cbd_s, i1f c2]
  · refine cal_no hA (-1) (fun D h => ?_) (fun D h => ?_)
    · rw [F_X10_need, c_isLand hn h.n, cbd_s, i1f c1]
    · rw [F_X11_need, r_isLand hn h.n, cbd_s, i1f c1]
