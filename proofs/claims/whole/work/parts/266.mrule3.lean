def tlW (w fu : Nat) (D : Dt) : Option Dt := if w = 0 then F_X11_sum_b4 fu D else vbd (F_X11_entry (cm (nI w)) 0 D) (fun D2 => F_X11_sum_b4 fu D2)
theorem r_tl_f {T : Tp} {s p c n w fu : Nat} {f : Int32} {D : Dt} (hf : ¬ f = 0) (h : RSt D T s p f c n) : tlW w (fu + 1) D = some D := by
  unfold tlW
  split
  · exact r_b4_f hf h
  · rw [r_entry_f hf h, vbd_s]
    exact r_b4_f hf h
theorem cm_op : ∀ k, 7 ≤ k → k ≤ 11 → cm (nI k) = (if k = 7 then 2 else if k = 8 then 3 else if k = 9 then 13 else if k = 10 then 14 else 15) := by
  intro k h1 h2
  have : k = 7 ∨ k = 8 ∨ k = 9 ∨ k = 10 ∨ k = 11 := by omega
  rcases this with rfl | rfl | rfl | rfl | rfl <;> decide
theorem r_SL {T : Tp} {s : Nat} (hT : okT T) (hs : s < 6) : ∀ m fu1 fu2 w q c n D, tpL T < m + q → m ≤ fu1 → m ≤ fu2 → m ≤ 1000 → q ≤ tpL T → sbk T q = q → c ≤ 60 → (w = 0 ∨ w = 7 ∨ w = 8) → 3 * n + wB w ≤ 6 * c + q → RSt D T s q 0 c n → RrC T s n D (pSL T m w q c) true (vbd (F_X11_term_b8 fu1 D) (fun E => tlW w fu2 E)) := by
  have hL := hT.1
  intro m
  induction m with
  | zero => intro fu1 fu2 w q c n D h; intros; omega
  | succ m ih =>
    intro fu1 fu2 w q c n D hm hf1 hf2 hm1 hq hqb hc hw hb h
    obtain ⟨fu1, rfl⟩ : ∃ g, fu1 = g + 1 := ⟨fu1 - 1, by omega⟩
    obtain ⟨fu2, rfl⟩ : ∃ g, fu2 = g + 1 := ⟨fu2 - 1, by omega⟩
    have hwB : wB w ≤ 3 := by unfold wB; split <;> omega
    have h42 : ((if q < tpL T then nI (tpB T q) else -1) = (42 : Int32)) = (kd T q = 9) := sgn_c (c := 42) hT rfl (by decide) (by decide) (by decide) (by decide)
    have h47 : ((if q < tpL T then nI (tpB T q) else -1) = (47 : Int32)) = (kd T q = 10) := sgn_c (c := 47) hT rfl (by decide) (by decide) (by decide) (by decide)
    have h37 : ((if q < tpL T then nI (tpB T q) else -1) = (37 : Int32)) = (kd T q = 11) := sgn_c (c := 37) hT rfl (by decide) (by decide) (by decide) (by decide)
    have h43 : ((if q < tpL T then nI (tpB T q) else -1) = (43 : Int32)) = (kd T q = 7) := sgn_c (c := 43) hT rfl (by decide) (by decide) (by decide) (by decide)
    have h45 : ((if q < tpL T then nI (tpB T q) else -1) = (45 : Int32)) = (kd T q = 8) := sgn_c (c := 45) hT rfl (by decide) (by decide) (by decide) (by decide)
    have sg : F_X11_sign D = some ((if q < tpL T then nI (tpB T q) else -1), D) := r_sgn hT (by omega) h.1
    have nx1 : 7 ≤ kd T q → kd T q ≤ 11 → nx T q = q + 1 := fun g1 g2 => by
      have : kd T q = 7 ∨ kd T q = 8 ∨ kd T q = 9 ∨ kd T q = 10 ∨ kd T q = 11 := by omega
      rcases this with k | k | k | k | k
      · exact kd_c1 (c := 43) hT rfl (by decide) (by decide) (by decide) (by decide) k
      · exact kd_c1 (c := 45) hT rfl (by decide) (by decide) (by decide) (by decide) k
      · exact kd_c1 (c := 42) hT rfl (by decide) (by decide) (by decide) (by decide) k
      · exact kd_c1 (c := 47) hT rfl (by decide) (by decide) (by decide) (by decide) k
      · exact kd_c1 (c := 37) hT rfl (by decide) (by decide) (by decide) (by decide) k
    rw [pSL]
    by_cases hm9 : 9 ≤ kd T q ∧ kd T q ≤ 11
    · -- times, over, rest
      have hlt := kd_lt (T := T) (q := q) (by omega)
      obtain ⟨g1, g2⟩ := nq_gt hlt
      have hnq : sbk T (q + 1) = nq T q := by unfold nq; rw [nx1 (by omega) hm9.2]
      rw [if_pos (show 7 ≤ kd T q ∧ kd T q ≤ 11 by omega), if_neg (by omega)]
      have e72 : F_X11_term_b8 (fu1 + 1) D = F_X11_term_b72 (fun E => F_X11_term_b8 fu1 E) (cm (nI (kd T q))) D := by
        rw [F_X11_term_b8, h.1.2.2, if_pos rfl, sg, cbd_s]
        simp only [h42]
        rw [cm_op (kd T q) (by omega) hm9.2]
        have e42 : F_X11_term_b42 (fun E => F_X11_term_b8 fu1 E) D = F_X11_term_b72 (fun E => F_X11_term_b8 fu1 E) (if kd T q = 7 then 2 else if kd T q = 8 then 3 else if kd T q = 9 then 13 else if kd T q = 10 then 14 else 15) D := by
          rw [F_X11_term_b42, sg, cbd_s]
          simp only [h42]
          rw [if_neg (show ¬ kd T q = 7 by omega), if_neg (show ¬ kd T q = 8 by omega)]
          by_cases k9 : kd T q = 9
          · rw [if_pos k9, if_pos k9]
          · rw [if_neg k9, if_neg k9, sg, cbd_s]
            simp only [h47]
            by_cases k10 : kd T q = 10
            · rw [if_pos k10, if_pos k10]
            · rw [if_neg k10, if_neg k10]
        by_cases k9 : kd T q = 9
        · rw [if_pos k9]
          exact e42
        · rw [if_neg k9, sg, cbd_s]
          simp only [h47]
          by_cases k10 : kd T q = 10
          · rw [if_pos k10]
            exact e42
          · rw [if_neg k10, sg, cbd_s]
            simp only [h37]
            rw [if_pos (show kd T q = 11 by omega)]
            exact e42
      obtain ⟨h1, m1⟩ := h.s20 (p' := q + 1)
      rw [e72, F_X11_term_b72, h.1.2.1, nI_1, bnd_e]
      generalize setI D (11, 0, 0, 0) 20 (nI (q + 1)) = D1 at h1 m1 ⊢
      have hv := r_val hT hs (show q + 1 ≤ tpL T by omega) hc (show n < 300 by omega) h1
      rw [hnq] at hv
      refine RrC.pre ?_ (p21_rr m1)
      cases ev : pVal T (nq T q) c with
      | inl f =>
        rw [ev] at hv
        obtain ⟨D2, p2, c2, n2, e2, r2, a1, a2, a3, a4, m2⟩ := hv
        have hne : ¬ nI f = 0 := nI_ne0 (by omega) (by omega)
        obtain ⟨D3, e3, r3, m3⟩ := r_blk hT (by omega) r2.1
        have h3 := r2.p r3 (p20_21 m3)
        have hsb := sbk_m (T := T) (p := p2)
        obtain ⟨fu1, rfl⟩ : ∃ g, fu1 = g + 1 := ⟨fu1 - 1, by omega⟩
        rw [e2, vbd_s, r_entry_f hne r2, vbd_s, e3, vbd_s, r_b8_f hne h3, vbd_s, r_tl_f hne h3]
        exact ⟨D3, sbk T p2, c2, n2, rfl, h3, by omega, a2, a3, a4, m2.trans (p21_rr (p20_21 m3))⟩
      | inr y =>
        obtain ⟨q1, c1, l1⟩ := y
        obtain ⟨v1, v2, v3, v4, v5⟩ := vlen g2 hc ev
        rw [ev] at hv
        obtain ⟨D2, e2, r2⟩ := hv
        obtain ⟨p2, b1, b2, b3, b4, b5, b6⟩ := r2
        obtain ⟨D3, e3, r3⟩ := r_ent (a0 := nI (kd T q)) (a := cm (nI (kd T q))) (b := 0) (q := q1) (ex := false) hs (show n + l1.length < 300 by omega) b1 rfl b2 b3 (fun x => by cases x)
        obtain ⟨D4, e4, r4⟩ := r3.blk hT
        obtain ⟨p4, d1, d2, d3, d4, d5, d6⟩ := r4
        have hp4 := d4 rfl
        subst hp4
        rw [e2, vbd_s, e3, vbd_s, e4, vbd_s]
        have hI := ih fu1 (fu2 + 1) w p4 c1 (n + l1.length + 1) D4 (by omega) (by omega) (by omega) (by omega) v2 d2 v4 hw (by omega) d1
        exact RrC.seq ⟨p2, b1, b2, b3, b4, b5, b6⟩ (RrC.seq ⟨p4, d1, d2, d3, d4, d5, d6⟩ hI)
    · -- no term goes on
      have e8 : F_X11_term_b8 (fu1 + 1) D = some D := by
        rw [F_X11_term_b8, h.1.2.2, if_pos rfl, sg, cbd_s]
        simp only [h42]
        rw [if_neg (by omega), sg, cbd_s]
        simp only [h47]
        rw [if_neg (by omega), sg, cbd_s]
        simp only [h37]
        rw [if_neg (by omega)]
      rw [e8, vbd_s]
      -- what is owed is written
      have owe : ∀ (X : PR) , (∀ E n0, RSt E T s q 0 c n0 → 3 * n0 ≤ 6 * c + q → RrC T s n0 E X true (F_X11_sum_b4 (fu2 + 1) E)) → RrC T s n D (pB (.inr (q, c, wL w)) (fun _ _ => X)) true (tlW w (fu2 + 1) D) := by
        intro X hX
        unfold tlW
        by_cases cw : w = 0
        · have hwl0 : wL w = [] := by unfold wL; rw [if_pos cw]
          rw [if_pos cw, hwl0]
          have r0 : RrO T s n D q c [] true D := ⟨q, h, hqb, hq, fun _ => rfl, fun i hi => absurd hi (Nat.not_lt_zero i), Sm.refl⟩
          exact RrC.seq (f := fun _ _ => X) r0 (hX D n h (by omega))
        · have hwl1 : wL w = [(nI w, 0)] := by unfold wL; rw [if_neg cw]
          have hw3 : wB w = 3 := by unfold wB; rw [if_neg cw]
          obtain ⟨D3, e3, r3⟩ := r_ent (a0 := nI w) (a := cm (nI w)) (b := 0) (q := q) (ex := true) hs (show n < 300 by omega) h rfl hqb hq (fun _ => rfl)
          obtain ⟨p3, d1, d2, d3, d4, d5, d6⟩ := r3
          have hp3 := d4 rfl
          subst hp3
          rw [if_neg cw, hwl1, e3, vbd_s]
          exact RrC.seq (f := fun _ _ => X) ⟨p3, d1, d2, d3, d4, d5, d6⟩ (hX D3 (n + 1) d1 (by omega))
      by_cases h78 : kd T q = 7 ∨ kd T q = 8
      · have hlt := kd_lt (T := T) (q := q) (by omega)
        obtain ⟨g1, g2⟩ := nq_gt hlt
        have hnq : sbk T (q + 1) = nq T q := by unfold nq; rw [nx1 (by omega) (by omega)]
        rw [if_pos (show 7 ≤ kd T q ∧ kd T q ≤ 11 by omega), if_pos h78]
        have := owe (pB (pVal T (nq T q) c) (fun q1 c1 => pSL T m (kd T q) q1 c1)) (fun E n0 hE hn0 => ?_)
        · refine this.to ?_
          unfold pB
          rfl
        · have sgE : F_X11_sign E = some ((if q < tpL T then nI (tpB T q) else -1), E) := r_sgn hT (by omega) hE.1
          have e43 : F_X11_sum_b4 (fu2 + 1) E = F_X11_sum_b43 (fun G => F_X11_sum_b4 fu2 G) (cm (nI (kd T q))) E := by
            rw [F_X11_sum_b4, hE.1.2.2, if_pos rfl, sgE, cbd_s]
            simp only [h43]
            rw [cm_op (kd T q) (by omega) (by omega)]
            have e29 : F_X11_sum_b29 (fun G => F_X11_sum_b4 fu2 G) E = F_X11_sum_b43 (fun G => F_X11_sum_b4 fu2 G) (if kd T q = 7 then 2 else if kd T q = 8 then 3 else if kd T q = 9 then 13 else if kd T q = 10 then 14 else 15) E := by
              rw [F_X11_sum_b29, sgE, cbd_s]
              simp only [h43]
              by_cases k7 : kd T q = 7
              · rw [if_pos k7, if_pos k7]
              · rw [if_neg k7, if_neg k7, if_pos (show kd T q = 8 by omega)]
            by_cases k7 : kd T q = 7
            · rw [if_pos k7]
              exact e29
            · rw [if_neg k7, sgE, cbd_s]
              simp only [h45]
              rw [if_pos (show kd T q = 8 by omega)]
              exact e29
          obtain ⟨h1, m1⟩ := hE.s20 (p' := q + 1)
          rw [e43, F_X11_sum_b43, hE.1.2.1, nI_1, bnd_e]
          generalize setI E (11, 0, 0, 0) 20 (nI (q + 1)) = D1 at h1 m1 ⊢
          have hv := r_val hT hs (show q + 1 ≤ tpL T by omega) hc (show n0 < 300 by omega) h1
          rw [hnq] at hv
          refine RrC.pre ?_ (p21_rr m1)
          rw [F_X11_term]
          have tl : ∀ G, vbd (F_X11_entry (cm (nI (kd T q))) 0 G) (fun D16 => F_X11_sum_b4 fu2 D16) = tlW (kd T q) fu2 G := fun G => by
            unfold tlW
            rw [if_neg (by omega)]
          simp only [tl]
          cases ev : pVal T (nq T q) c with
          | inl f =>
            rw [ev] at hv
            obtain ⟨D2, p2, c2, n2, e2, r2, a1, a2, a3, a4, m2⟩ := hv
            have hne : ¬ nI f = 0 := nI_ne0 (by omega) (by omega)
            obtain ⟨D3, e3, r3, m3⟩ := r_blk hT (by omega) r2.1
            have h3 := r2.p r3 (p20_21 m3)
            have hsb := sbk_m (T := T) (p := p2)
            obtain ⟨fu2, rfl⟩ : ∃ g, fu2 = g + 1 := ⟨fu2 - 1, by omega⟩
            rw [e2, vbd_s, e3, vbd_s, show (2000 : Nat) = 1999 + 1 from rfl, r_b8_f hne h3, vbd_s, r_tl_f hne h3]
            exact ⟨D3, sbk T p2, c2, n2, rfl, h3, by omega, a2, a3, a4, m2.trans (p21_rr (p20_21 m3))⟩
          | inr y =>
            obtain ⟨q1, c1, l1⟩ := y
            obtain ⟨v1, v2, v3, v4, v5⟩ := vlen g2 hc ev
            rw [ev] at hv
            obtain ⟨D2, e2, r2⟩ := hv
            obtain ⟨D4, e4, r4⟩ := r2.blk hT
            obtain ⟨p4, d1, d2, d3, d4, d5, d6⟩ := r4
            have hp4 := d4 rfl
            subst hp4
            have hw3 : wB (kd T q) = 3 := by unfold wB; rw [if_neg (by omega)]
            rw [e2, vbd_s, e4, vbd_s]
            have hI := ih 2000 fu2 (kd T q) p4 c1 (n0 + l1.length) D4 (by omega) (by omega) (by omega) (by omega) v2 d2 v4 (Or.inr h78) (by omega) d1
            exact RrC.seq ⟨p4, d1, d2, d3, d4, d5, d6⟩ hI
      · rw [if_neg (show ¬ (7 ≤ kd T q ∧ kd T q ≤ 11) by omega)]
        have := owe (.inr (q, c, [])) (fun E n0 hE hn0 => ?_)
        · refine this.to ?_
          unfold pB
          simp only [List.append_nil]
        · have sgE : F_X11_sign E = some ((if q < tpL T then nI (tpB T q) else -1), E) := r_sgn hT (by omega) hE.1
          rw [F_X11_sum_b4, hE.1.2.2, if_pos rfl, sgE, cbd_s]
          simp only [h43]
          rw [if_neg (by omega), sgE, cbd_s]
          simp only [h45]
          rw [if_neg (by omega)]
          exact ⟨E, rfl, q, hE, hqb, hq, fun _ => rfl, fun i hi => absurd hi (Nat.not_lt_zero i), Sm.refl⟩
theorem r_sum {T : Tp} {s p c n : Nat} {D : Dt} (hT : okT T) (hs : s < 6) (hp : p ≤ tpL T) (hc : c ≤ 60) (hb : 3 * n ≤ 6 * c + sbk T p) (h : RSt D T s p 0 c n) : RrC T s n D (pSum T (sbk T p) c) true (F_X11_sum D) := by
  have hL := hT.1
  have hq := sbk_le hp
  have hv := r_val hT hs hp hc (show n < 300 by omega) h
  rw [F_X11_sum, F_X11_term]
  unfold pSum
  have tl : ∀ G, F_X11_sum_b4 2000 G = tlW 0 2000 G := fun G => by
    unfold tlW
    rw [if_pos rfl]
  simp only [tl]
  cases ev : pVal T (sbk T p) c with
  | inl f =>
    rw [ev] at hv
    obtain ⟨D2, p2, c2, n2, e2, r2, a1, a2, a3, a4, m2⟩ := hv
    have hne : ¬ nI f = 0 := nI_ne0 (by omega) (by omega)
    obtain ⟨D3, e3, r3, m3⟩ := r_blk hT (by omega) r2.1
    have h3 := r2.p r3 (p20_21 m3)
    have hsb := sbk_m (T := T) (p := p2)
    rw [e2, vbd_s, e3, vbd_s, show (2000 : Nat) = 1999 + 1 from rfl, r_b8_f hne h3, vbd_s, r_tl_f hne h3]
    exact ⟨D3, sbk T p2, c2, n2, rfl, h3, by omega, a2, a3, a4, m2.trans (p21_rr (p20_21 m3))⟩
  | inr y =>
    obtain ⟨q1, c1, l1⟩ := y
    obtain ⟨v1, v2, v3, v4, v5⟩ := vlen hq hc ev
    rw [ev] at hv
    obtain ⟨D2, e2, r2⟩ := hv
    obtain ⟨D4, e4, r4⟩ := r2.blk hT
    obtain ⟨p4, d1, d2, d3, d4, d5, d6⟩ := r4
    have hp4 := d4 rfl
    subst hp4
    rw [e2, vbd_s, e4, vbd_s]
    have hI := r_SL hT hs 401 2000 2000 0 p4 c1 (n + l1.length) D4 (by omega) (by omega) (by omega) (by omega) v2 d2 v4 (Or.inl rfl) (by show 3 * (n + l1.length) + 0 ≤ _; omega) d1
    exact RrC.seq ⟨p4, d1, d2, d3, d4, d5, d6⟩ hI
