theorem itA_r {c : Cf} {s : St} {q k : Nat} (hq : q ≠ 1) : ∀ n, itr (wA1 c) n s q k = s q k
  | 0 => rfl
  | n + 1 => by rw [itr, wA1, pAddS, up_n (fun h => hq h.1), itA_r hq n]
theorem buy_r {s : St} {a b q k : Nat} (hq : q = 2 ∨ q = 3) : pBuy s a b q k = s q k := by
  have n0 : ¬ q = 0 := by omega
  have n1 : ¬ q = 1 := by omega
  have n5 : ¬ q = 5 := by omega
  simp [pBuy, pCnt, pAddS, pTake, pMove, pAddM, up, n0, n1, n5]
theorem wB1_r {c : Cf} {a : Nat} {x : Wq} {q k : Nat} (hq : q = 2 ∨ q = 3) : (wB1 c a x).1 q k = x.1 q k := by
  unfold wB1
  split
  · show up x.1 4 a (-1) q k = _
    rw [up_n (by omega)]
  · show pBuy (up x.1 4 a (pkP c x.2.2.1 x.1 a)) a (pkP c x.2.2.1 x.1 a).toNatClampNeg q k = _
    rw [buy_r hq, up_n (by omega)]
theorem itB_r {c : Cf} {x : Wq} {q k : Nat} (hq : q = 2 ∨ q = 3) : ∀ n, (itr (wB1 c) n x).1 q k = x.1 q k
  | 0 => rfl
  | n + 1 => by rw [itr, wB1_r hq, itB_r hq n]
def noHay (s : St) : Prop := ∀ k, s 2 k = 0
theorem harv_no {s : St} {k : Nat} (h : noHay s) : pHarv s k = s := by
  unfold pHarv
  rw [if_neg (by rw [h k]; decide)]
theorem itC_no {c : Cf} {s : St} (h : noHay s) : ∀ n, noHay (itr (wC1 c) n s) ∧ ∀ k, itr (wC1 c) n s 3 k = s 3 k
  | 0 => ⟨h, fun _ => rfl⟩
  | n + 1 => by
    obtain ⟨h1, h2⟩ := itC_no h n
    rw [itr, wC1, harv_no h1]
    refine ⟨fun k => ?_, fun k => ?_⟩
    · rw [up_n (by omega), h1 k]
    · rw [up_n (by omega), h2 k]
theorem wk_no {c : Cf} {m : Bool} {s : St} {se : Int32} (h : noHay s) : noHay (pWk c m s se).1 ∧ ∀ k, (pWk c m s se).1 3 k = s 3 k := by
  have hx : noHay (wkB c (wkA c s, 0, m, se)).1 := fun k => by
    rw [wkB, itB_r (Or.inl rfl)]
    show wkA c s 2 k = 0
    rw [wkA, itA_r (by decide), h k]
  obtain ⟨h1, h2⟩ := itC_no (c := c) hx (cfN c)
  refine ⟨fun k => ?_, fun k => ?_⟩
  · show up (wkC c (wkB c (wkA c s, 0, m, se)).1) 5 1 (wkC c (wkB c (wkA c s, 0, m, se)).1 5 1 + 1) 2 k = 0
    rw [up_n (by omega)]
    exact h1 k
  · show up (wkC c (wkB c (wkA c s, 0, m, se)).1) 5 1 (wkC c (wkB c (wkA c s, 0, m, se)).1 5 1 + 1) 3 k = s 3 k
    rw [up_n (by omega)]
    refine (h2 k).trans ?_
    rw [wkB, itB_r (Or.inr rfl)]
    show wkA c s 3 k = s 3 k
    rw [wkA, itA_r (by decide)]
theorem sI_no {c : Cf} {s : St} (h : noHay s) : ∀ n, noHay (sI c n s) ∧ ∀ k, sI c n s 3 k = s 3 k
  | 0 => ⟨h, fun _ => rfl⟩
  | n + 1 => by
    obtain ⟨h1, h2⟩ := sI_no h n
    obtain ⟨g1, g2⟩ := wk_no (c := c) (m := false) (se := 0) h1
    exact ⟨g1, fun k => (g2 k).trans (h2 k)⟩
theorem tot_nat {n q : Nat} {s : St} (hg : Gd n s) (hq : q < 4) : ∃ b : Nat → Nat, (∀ k, b k ≤ 9999 ∧ s q k = nI (b k)) ∧ totS s q = nI (fb_sm b 5) := by
  have hb : ∀ k, ∃ x : Nat, x ≤ 9999 ∧ s q k = nI x := by
    intro k
    have h := hg.1 k
    have : q = 0 ∨ q = 1 ∨ q = 2 ∨ q = 3 := by omega
    rcases this with rfl | rfl | rfl | rfl
    · obtain ⟨x, h1, h2⟩ := bw_nat h.1
      exact ⟨x, by omega, h2⟩
    · obtain ⟨x, h1, h2⟩ := bw_nat h.2.1
      exact ⟨x, by omega, h2⟩
    · obtain ⟨x, h1, h2⟩ := bw_nat h.2.2.1
      exact ⟨x, by omega, h2⟩
    · obtain ⟨x, h1, h2⟩ := bw_nat h.2.2.2
      exact ⟨x, by omega, h2⟩
  refine ⟨fun k => (s q k).toNatClampNeg, ?_, ?_⟩
  · intro k
    obtain ⟨x, h1, h2⟩ := hb k
    simp only
    rw [h2, nIc (by omega)]
    exact ⟨h1, rfl⟩
  · refine sumN_nat 5 (fun k _ => ?_)
    obtain ⟨x, h1, h2⟩ := hb k
    rw [h2, nIc (by omega)]
theorem tot_pos {n q : Nat} {s : St} (hg : Gd n s) (hq : q < 4) : 0 ≤ (totS s q).toInt := by
  obtain ⟨b, h1, h2⟩ := tot_nat hg hq
  have := fb_sm_bound (f := b) (c := 9999) (n := 5) (fun k _ => (h1 k).1)
  rw [h2, nI_toInt (by omega)]
  omega
theorem tot_no {n : Nat} {s : St} (hg : Gd n s) (hn : n ≤ 5) (h : totS s 2 ≤ 0) : noHay s := by
  obtain ⟨b, h1, h2⟩ := tot_nat hg (show 2 < 4 by decide)
  have hb := fb_sm_bound (f := b) (c := 9999) (n := 5) (fun k _ => (h1 k).1)
  have h0 : fb_sm b 5 = 0 := by
    rw [h2, fa_le, nI_toInt (by omega)] at h
    have : (0 : Int32).toInt = 0 := rfl
    omega
  intro k
  by_cases c : k < 5
  · rw [(h1 k).2, fb_sm_zero h0 k c, nI_0]
  · exact (hg.2.1 k (by omega)).2.2.1
/-- till all is bare: the state, from whom anybody bought -/
def tB (c : Cf) : Nat → St × Int32 → St × Int32
  | 0, x => x
  | n + 1, x => if totS x.1 2 ≤ 0 then x else tB c n ((pWk c false x.1 x.2).1, (pWk c false x.1 x.2).2.2.2)
theorem tB_barn {c : Cf} (hc : CfOk c) : ∀ n x, Gd (cfN c) x.1 → ∀ k, (tB c n x).1 3 k = sI c n x.1 3 k
  | 0, _, _, _ => rfl
  | n + 1, x, hg, k => by
    rw [tB]
    by_cases h : totS x.1 2 ≤ 0
    · rw [if_pos h, (sI_no (tot_no hg hc.1 h) (n + 1)).2 k]
    · rw [if_neg h, sI_f, tB_barn hc n _ (hg.wk hc) k]
      show sI c n (pWk c false x.1 x.2).1 3 k = sI c n (pWk c false x.1 0).1 3 k
      rw [(pWk_se (c := c) (m := false) (s := x.1) (se := x.2) (se' := 0)).1]
theorem tB_tot {c : Cf} {n : Nat} {x : St × Int32} (hc : CfOk c) (hg : Gd (cfN c) x.1) : totS (tB c n x).1 3 = totS (sI c n x.1) 3 := sumN_c 5 (fun k _ => tB_barn hc n x hg k)
theorem qc_tb {A : Al} {c : Cf} {a2 : Int32} {N : Nat} (hok : CfOk c) (hch : cfC c = -1) (hN : N < 1000) : ∀ (n fu j : Nat) (D : Dt) (s : St) (w : Nat), j + n = N → n < fu → QC A D c 105 s → Gd (cfN c) s → s 5 1 = nI w → w + n < 100000 → ∃ D', F_X8_passTillBare_b2 1 105 a2 fu (nI N) (nI j) D = some D' ∧ QC A D' c 105 (tB c n (s, D.1 (8, 1, 0, 0) 7)).1 ∧ D'.1 (8, 1, 0, 0) 7 = (tB c n (s, D.1 (8, 1, 0, 0) 7)).2 ∧ Sm (weS 1 105) D D' := by
  intro n
  induction n with
  | zero =>
    intro fu j D s w hj hf h hg hw hw2
    obtain ⟨fu, rfl⟩ : ∃ g, fu = g + 1 := ⟨fu - 1, by omega⟩
    rw [F_X8_passTillBare_b2, if_pos (nI_le (by omega) (by omega))]
    exact ⟨D, rfl, h, rfl, Sm.refl⟩
  | succ n ih =>
    intro fu j D s w hj hf h hg hw hw2
    obtain ⟨fu, rfl⟩ : ∃ g, fu = g + 1 := ⟨fu - 1, by omega⟩
    rw [F_X8_passTillBare_b2, if_neg (nI_ge (by omega) (by omega)), show F_X10_total (6, 105, 3, 0) D = _ from c_totS 2 (V6 (by decide)) (by decide), cbd_s, h.2.2.2, tB]
    by_cases c0 : totS s 2 ≤ 0
    · rw [if_pos c0, if_pos c0]
      exact ⟨D, rfl, h, rfl, Sm.refl⟩
    · rw [if_neg c0, if_neg c0]
      obtain ⟨h1, h2, h3, h4⟩ := h
      obtain ⟨D1, e1, r1, q1, z1, m1⟩ := c_pass (m := false) (se := D.1 (8, 1, 0, 0) 7) (V6 (show 105 < 111 by decide)) V81 h2 (by rw [h4]; exact hw) (by omega) h3 rfl (Or.inr rfl)
      rw [pWk_m hch h2.n5] at q1
      rw [h4] at e1 r1 z1
      rw [e1, cbd_s]
      simp only [bnd_e, nI_1]
      obtain ⟨D2, e2, r2, z2, m2⟩ := ih fu (j + 1) D1 (pWk c false s (D.1 (8, 1, 0, 0) 7)).1 (w + 1) (by omega) (by omega) ⟨h1.scr (we_q (by decide) m1), h2.sm m1, q1, r1⟩ (hg.wk hok) (by rw [pWk_wk, hw, nI_1]) (by omega)
      rw [z1] at r2 z2
      exact ⟨D2, e2, r2, z2, m1.trans m2⟩
theorem qc_till {A : Al} {c : Cf} {n w : Nat} {D : Dt} {s : St} (hok : CfOk c) (hch : cfC c = -1) (hn : n ≤ 100) (h : QC A D c 105 s) (hg : Gd (cfN c) s) (hw : s 5 1 = nI w) (hw2 : w ≤ 2000) : ∃ D', F_X8_passTillBare 1 105 (nI n) D = some D' ∧ QC A D' c 105 (tB c n (s, D.1 (8, 1, 0, 0) 7)).1 ∧ D'.1 (8, 1, 0, 0) 7 = (tB c n (s, D.1 (8, 1, 0, 0) 7)).2 ∧ Sm (weS 1 105) D D' := by
  rw [F_X8_passTillBare, grd_t V81, grd_t (V6 (by decide))]
  exact qc_tb (a2 := nI n) hok hch (by omega) n 2000 0 D s w (by omega) (by omega) h hg hw (by omega)
theorem qg_for {A : Al} {D0 : Dt} {f h i o d : Int32} {N : Nat} {a1 : Int32} (hA : okA A) (hf : isF A f) (hN : N < 1000) : ∀ (n fu j : Nat) (D : Dt) (s : St) (w : Nat), j + n = N → n < fu → QG A D0 D f h i (-1) o d s → Gd (shN (woH (alW A))) s → s 5 1 = nI w → w + n < 100000 → ∃ D', F_X11_goFor_b2 a1 fu (nI N) (nI j) D = some D' ∧ QG A D0 D' f h i (-1) o d (sI (cfX A f h i (-1) o) n s) := by
  intro n
  induction n with
  | zero =>
    intro fu j D s w hj hf' g hg hw hw2
    obtain ⟨fu, rfl⟩ : ∃ g, fu = g + 1 := ⟨fu - 1, by omega⟩
    rw [F_X11_goFor_b2, if_pos (nI_le (by omega) (by omega))]
    exact ⟨D, rfl, g⟩
  | succ n ih =>
    intro fu j D s w hj hf' g hg hw hw2
    obtain ⟨fu, rfl⟩ : ∃ g, fu = g + 1 := ⟨fu - 1, by omega⟩
    obtain ⟨D1, e1, g1⟩ := qg_goes hA hf g hg hw (by omega)
    rw [F_X11_goFor_b2, if_neg (nI_ge (by omega) (by omega)), e1, cbd_s]
    simp only [bnd_e, nI_1]
    obtain ⟨D2, e2, g2⟩ := ih fu (j + 1) D1 _ (w + 1) (by omega) (by omega) g1 (hg.wS (c := cfX A f h i (-1) o) (cfX_ok hA)) (wS_wk hw) (by omega)
    rw [sI_f]
    exact ⟨D2, e2, g2⟩
theorem qg_goFor {A : Al} {D0 D : Dt} {f h i o d : Int32} {n w : Nat} {s : St} (hA : okA A) (hf : isF A f) (hn : n ≤ 100) (g : QG A D0 D f h i (-1) o d s) (hg : Gd (shN (woH (alW A))) s) (hw : s 5 1 = nI w) (hw2 : w ≤ 2000) : ∃ D', F_X11_goFor (nI n) D = some D' ∧ QG A D0 D' f h i (-1) o d (sI (cfX A f h i (-1) o) n s) := by
  rw [F_X11_goFor]
  exact qg_for hA hf (by omega) n 2000 0 D s w (by omega) (by omega) g hg hw (by omega)
theorem qg_n {A : Al} {D0 D : Dt} {f h i c o d : Int32} {s : St} (g : QG A D0 D f h i c o d s) : D.1 (11, 0, 2, 0) 2 = nI (shN (woH (alW A))) := by
  rw [g.2.1.i (by simp [qmS])]
  exact g.1.n
theorem qg_barns {A : Al} {D0 D : Dt} {f h i o d : Int32} {n w : Nat} {s : St} (hA : okA A) (hf : isF A f) (hn : n ≤ 100) (g : QG A D0 D f h i (-1) o d s) (hg : Gd (shN (woH (alW A))) s) (hw : s 5 1 = nI w) (hw2 : w ≤ 2000) : ∃ D', F_X11_barnsIn (nI n) D = some (totS (sI (cfX A f h i (-1) o) n s) 3, D') ∧ QG A D0 D' (woC (alW A)) h i (-1) o (woD (alW A)) (woS (alW A)) := by
  obtain ⟨D1, e1, g1⟩ := qg_goFor hA hf hn g hg hw hw2
  obtain ⟨D2, e2, g2⟩ := qg_lays g1
  have hs : rdM D1 = sI (cfX A f h i (-1) o) n s := g1.2.2.2.2.2.2.2.2.1
  have hgd : Gd (shN (woH (alW A))) (sI (cfX A f h i (-1) o) n s) := Gd.sI (c := cfX A f h i (-1) o) (cfX_ok hA) hg n
  rw [F_X11_barnsIn, e1, vbd_s, show F_X11_allOf (11, 0, 6, 0) D1 = _ from r_totS 3 (by decide) hA.1.1 (qg_n g1) (by rw [hs]; exact hgd), cbd_s, e2, vbd_s, hs]
  exact ⟨D2, rfl, g2⟩
theorem qg_barn {A : Al} {D0 D : Dt} {f h i o d : Int32} {n w k : Nat} {s : St} (hA : okA A) (hf : isF A f) (hn : n ≤ 100) (hk : k < 5) (g : QG A D0 D f h i (-1) o d s) (hg : Gd (shN (woH (alW A))) s) (hw : s 5 1 = nI w) (hw2 : w ≤ 2000) : ∃ D', F_X11_barnOfIn (nI k) (nI n) D = some (sI (cfX A f h i (-1) o) n s 3 k, D') ∧ QG A D0 D' (woC (alW A)) h i (-1) o (woD (alW A)) (woS (alW A)) := by
  obtain ⟨D1, e1, g1⟩ := qg_goFor hA hf hn g hg hw hw2
  obtain ⟨D2, e2, g2⟩ := qg_lays g1
  have hs : rdM D1 = sI (cfX A f h i (-1) o) n s := g1.2.2.2.2.2.2.2.2.1
  rw [F_X11_barnOfIn, e1, vbd_s, grd_t (inBe hk (by decide)), nIc (by omega), bnd_e, e2, vbd_s, m_barn hk, hs]
  exact ⟨D2, rfl, g2⟩
/-- what changes of the state alone -/
theorem qg_st {A : Al} {D0 D D' : Dt} {f h i c o d : Int32} {s s' : St} (g : QG A D0 D f h i c o d s) (m : Sm stM D D') (hr : rdM D' = s') : QG A D0 D' f h i c o d s' := qg_mo g (stM_mo m) hr
/-- an asking that leaves all as it was -/
theorem cal_ask {fc fm : Dt → Option (Int32 × Dt)} {A : Al} (hA : okA A) (r : Int32) (h1 : ∀ D, RC D A → ∃ D', fc D = some (r, D') ∧ Sm qS D D') (h2 : ∀ D, RM D A → ∃ D' o, fm D = some (r, D') ∧ QG A D D' (woC (alW A)) 0 0 (-1) o (woD (alW A)) (woS (alW A))) : ∃ r A', okA A' ∧ (∀ D, RC D A → ∃ D', fc D = some (r, D') ∧ RC D' A' ∧ Sm cS D D') ∧ (∀ D, RM D A → ∃ D', fm D = some (r, D') ∧ RM D' A' ∧ Sm mS D D') := by
  refine ⟨r, A, hA, fun D h => ?_, fun D h => ?_⟩
  · obtain ⟨D', e, s⟩ := h1 D h
    exact ⟨D', e, h.scr s, cW_c (qS_W s)⟩
  · obtain ⟨D', o, e, g⟩ := h2 D h
    exact ⟨D', e, (qg_end g).1, (qg_end g).2⟩
