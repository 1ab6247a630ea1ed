def rqS (s : Nat) : LA → Nat → Bool := fun la k => rcS (300 * s) (12 * s) la k || (la == (11, 0, 0, 0) && (k == 19 || k == 22 || k == 23)) || (la == (11, 0, 33, 0) && k == s)
theorem rc_rq {s : Nat} {D D' : Dt} (m : Sm (rcS (300 * s) (12 * s)) D D') : Sm (rqS s) D D' := m.mono (fun la k e => by
  unfold rqS at e
  simp only [Bool.or_eq_false_iff] at e
  exact e.1.1)
theorem rq_o {s q k : Nat} (h : ¬ (30 < q ∧ q < 38)) (h0 : q ≠ 0) : rqS s (11, 0, q, 0) k = false := by
  simp [rqS, rcS, rxS, rrS, skT]
  omega
theorem rq_0 {s k : Nat} (h : k = 28 ∨ k = 39 ∨ k = 40 ∨ k = 42 ∨ k = 46) : rqS s (11, 0, 0, 0) k = false := by
  rcases h with rfl | rfl | rfl | rfl | rfl <;> simp [rqS, rcS, rxS, rrS, skT]
theorem rq_lv {s : Nat} {D D' : Dt} (m : Sm (rqS s) D D') : lvR D' = lvR D := by
  funext q k
  simp only [lvR]
  by_cases c0 : q = 0
  · rw [if_pos c0, if_pos c0, m.i (rq_o (by omega) (by omega))]
  · rw [if_neg c0, if_neg c0]
    by_cases c5 : q ≤ 5
    · rw [if_pos c5, if_pos c5, m.i (rq_o (by omega) (by omega))]
    · rw [if_neg c5, if_neg c5]
      by_cases c6 : q = 6
      · rw [if_pos c6, if_pos c6, m.i (rq_0 (by decide))]
      · rw [if_neg c6, if_neg c6]
        by_cases c13 : q ≤ 13
        · rw [if_pos c13, if_pos c13, m.i (rq_o (by omega) (by omega))]
        · rw [if_neg c13, if_neg c13, m.i (rq_o (by omega) (by omega))]
theorem MR.rq {s r : Nat} {D D' : Dt} {R : Rl} (h : MR D r R) (hw : RWf R) (hr : r < s) (m : Sm (rqS s) D D') : MR D' r R := by
  obtain ⟨g1, g2⟩ := h
  obtain ⟨w1, w2⟩ := hw
  have e31 : ∀ q k, q = 31 ∨ q = 32 → k < 300 * s → rqS s (11, 0, q, 0) k = false := fun q k hq hk => by
    rcases hq with rfl | rfl <;> (simp [rqS, rcS, rxS, rrS, skT]; omega)
  have e34 : ∀ q k, q = 34 ∨ q = 35 ∨ q = 36 → k < 12 * s → rqS s (11, 0, q, 0) k = false := fun q k hq hk => by
    rcases hq with rfl | rfl | rfl <;> (simp [rqS, rcS, rxS, rrS, skT]; omega)
  have e33 : rqS s (11, 0, 33, 0) r = false := by simp [rqS, rcS, rxS, rrS, skT]; omega
  refine ⟨by rw [m.i e33]; exact g1, fun c hc => ?_⟩
  obtain ⟨a1, a2, a3, a4⟩ := g2 c hc
  obtain ⟨b1, b2, b3, _⟩ := w2 c hc
  have h12 : 12 * r + c < 12 * s := by omega
  refine ⟨by rw [m.i (e34 34 _ (Or.inl rfl) h12)]; exact a1, by rw [m.i (e34 35 _ (Or.inr (Or.inl rfl)) h12)]; exact a2, by rw [m.i (e34 36 _ (Or.inr (Or.inr rfl)) h12)]; exact a3, fun k hk => ?_⟩
  have h300 : 300 * r + k < 300 * s := by omega
  rw [m.i (e31 31 _ (Or.inl rfl) h300), m.i (e31 32 _ (Or.inr rfl) h300)]
  exact a4 k hk
theorem RM.rq {s N' : Nat} {R' : Nat → Rl} {D D' : Dt} {A : Al} (h : RM D A) (m : Sm (rqS s) D D') (h19 : D'.1 (11, 0, 0, 0) 19 = 0) (h23 : D'.1 (11, 0, 0, 0) 23 = nI N') (hR : ∀ r, r < N' → MR D' r (R' r)) : RM D' (A.1, A.2.1, N', R', 0, alB A) := by
  obtain ⟨h1, h2, h3, h4, h5, h6, h7, h8, h9, h10, h11⟩ := h
  refine ⟨by rw [rq_lv m]; exact h1, fun k hk' => ?_, fun k W hk' hW => ?_, h23, hR, h19, fun k hk' => absurd hk' (Nat.not_lt_zero k), ?_, ?_, ?_, ?_⟩
  · rw [m.i (rq_o (by omega) (by omega))]; exact h2 k hk'
  · refine (h3 k W hk' hW).cong (fun q j hq hj => ?_)
    exact m.i (rq_o (by omega) (by omega))
  · rw [m.i (rq_0 (by decide))]; exact h8
  · rw [m.i (rq_0 (by decide))]; exact h9
  · rw [m.i (rq_0 (by decide))]; exact h10
  · rw [m.i (rq_0 (by decide))]; exact h11
theorem r_rule {A : Al} {D : Dt} (hA : okA A) (hN : alN A < 6) (h : RM D A) : match pRl (taped A) 13 0 (sbk (taped A) 0) 0 with
    | .inl f => ∃ D', F_X11_rule D = some (-2 - nI f, D') ∧ RM D' (A.1, A.2.1, A.2.2.1, A.2.2.2.1, 0, alB A) ∧ Sm mS D D'
    | .inr ls => ∀ F G, SgF F G (cat ls) → ∃ D', F_X11_rule D = some (nI (alN A), D') ∧ RM D' (addR A (rlOf ls F G)) ∧ Sm mS D D' := by
  have hT := okTp hA
  have hL := hT.1
  have hM := h
  obtain ⟨h1, h2, h3, h4, h5, h6, h7, h8, h9, h10, h11⟩ := h
  have hT0 : RT D (taped A) := ⟨h6, h7⟩
  have m2 : Sm (fun la k => la == (11, 0, 0, 0) && k == 22) D (setI D (11, 0, 0, 0) 22 (nI (alN A))) := Sm.sI (by simp)
  have x22 : (setI D (11, 0, 0, 0) 22 (nI (alN A))).1 (11, 0, 0, 0) 22 = nI (alN A) := gI_s
  rw [F_X11_rule, h4, if_neg (show ¬ nI (alN A) = (6 : Int32) from fun e => by have := (nI_eq (b := 6) (by omega) (by decide)).mp e; omega), bnd_e]
  generalize setI D (11, 0, 0, 0) 22 (nI (alN A)) = D2 at m2 x22 ⊢
  obtain ⟨D3, e3, r3, a24, a25, a26, m3⟩ := r_starts (hT0.sm m2 (by simp) (fun k => by simp))
  have h23 : D3.1 (11, 0, 0, 0) 23 = nI (alN A) := by rw [m3.i (by simp), m2.i (by simp)]; exact h4
  have st : RSt D3 (taped A) (alN A) 0 0 0 0 := ⟨r3, by rw [m3.i (by simp)]; exact x22, a24, a26, by rw [m3.i (by simp), m2.i (by simp)]; exact h11⟩
  have m03 : Sm (rqS (alN A)) D D3 := by
    refine (m2.mono (fun la k e => ?_)).trans (m3.mono (fun la k e => ?_))
    · by_cases c : la = (11, 0, 0, 0)
      · rw [c] at e ⊢
        simp [rqS, rcS, rxS, rrS, skT] at e ⊢
        omega
      · simp [c]
    · by_cases c : la = (11, 0, 0, 0)
      · rw [c] at e ⊢
        simp [rqS, rcS, rxS, rrS, skT] at e ⊢
        omega
      · simp [c]
  have rqm : ∀ {E E' : Dt}, Sm (rqS (alN A)) E E' → Sm mS E E' := fun m => m.mono (fun la k e => by
    simp only [mS, beq_eq_false_iff_ne] at e
    have hn : ∀ q, la ≠ (11, 0, q, 0) := fun q x => e (by rw [x])
    simp only [rqS, rcS, rxS, rrS, skT, Bool.or_eq_false_iff, Bool.and_eq_false_iff, beq_eq_false_iff_ne]
    exact ⟨⟨⟨⟨⟨Or.inl (hn 0), Or.inl ⟨hn 31, hn 32⟩⟩, Or.inl (hn 0), hn 37⟩, Or.inl ⟨⟨hn 34, hn 35⟩, hn 36⟩⟩, Or.inl (hn 0)⟩, Or.inl (hn 33)⟩)
  rw [e3, vbd_s]
  -- how it ends
  have fin : ∀ (E : Dt) (v : Int32) (p : Nat) (f : Nat), RP E (taped A) p (nI f) → f < 100000 → E.1 (11, 0, 0, 0) 22 = nI (alN A) → E.1 (11, 0, 0, 0) 23 = nI (alN A) → ∃ E', (fun l1_12 D13 => (bnd (setI D13 (11, 0, 0, 0) 19 (0 : Int32)) (fun D14 => (grd (inB (D14.1 (11, 0, 0, 0) 22) 6 = true) (bnd (setI D14 (11, 0, 33, 0) ((D14.1 (11, 0, 0, 0) 22).toNatClampNeg) l1_12) (fun D16 => (if (D16.1 (11, 0, 0, 0) 21) = 0 then (F_X11_rule_b79  (D16.1 (11, 0, 0, 0) 23) (1 : Int32) D16) else (F_X11_rule_b79  (D16.1 (11, 0, 0, 0) 23) (0 : Int32) D16)))))))) v E = some ((if f = 0 then nI (alN A) else -2 - nI f), E') ∧ E'.1 (11, 0, 0, 0) 19 = 0 ∧ E'.1 (11, 0, 0, 0) 23 = nI (if f = 0 then alN A + 1 else alN A) ∧ E'.1 (11, 0, 33, 0) (alN A) = v ∧ (∀ q k, q ≠ 0 → q ≠ 33 → E'.1 (11, 0, q, 0) k = E.1 (11, 0, q, 0) k) ∧ Sm (rqS (alN A)) E E' := by
    intro E v p f hE hf y22 y23
    have z22 : (setI E (11, 0, 0, 0) 19 0).1 (11, 0, 0, 0) 22 = nI (alN A) := by rw [gI_k (by decide)]; exact y22
    have z23 : (setI (setI E (11, 0, 0, 0) 19 0) (11, 0, 33, 0) (alN A) v).1 (11, 0, 0, 0) 23 = nI (alN A) := by rw [gI_q (by decide), gI_k (by decide)]; exact y23
    have z21 : (setI (setI E (11, 0, 0, 0) 19 0) (11, 0, 33, 0) (alN A) v).1 (11, 0, 0, 0) 21 = nI f := by rw [gI_q (by decide), gI_k (by decide)]; exact hE.2.2
    have b79 : ∀ (a : Nat), ∃ E', F_X11_rule_b79 (nI (alN A)) (nI a) (setI (setI E (11, 0, 0, 0) 19 0) (11, 0, 33, 0) (alN A) v) = (if nI f ≤ 0 then some (nI (alN A + a) - 1, E') else some (-2 - nI f, E')) ∧ E'.1 (11, 0, 0, 0) 19 = 0 ∧ E'.1 (11, 0, 0, 0) 23 = nI (alN A + a) ∧ E'.1 (11, 0, 33, 0) (alN A) = v ∧ (∀ q k, q ≠ 0 → q ≠ 33 → E'.1 (11, 0, q, 0) k = E.1 (11, 0, q, 0) k) ∧ Sm (rqS (alN A)) E E' := by
      intro a
      refine ⟨setI (setI (setI E (11, 0, 0, 0) 19 0) (11, 0, 33, 0) (alN A) v) (11, 0, 0, 0) 23 (nI (alN A + a)), ?_, ?_, gI_s, ?_, fun q k hq hq3 => ?_, ((Sm.sI (by simp [rqS])).trans (Sm.sI (by simp [rqS]))).trans (Sm.sI (by simp [rqS]))⟩
      · rw [F_X11_rule_b79, nI_add, bnd_e, gI_s, gI_k (by decide), z21]
      · rw [gI_k (by decide), gI_q (by decide), gI_s]
      · rw [gI_q (by decide), gI_s]
      · rw [gI_q hq, gI_q hq3, gI_q hq]
    show ∃ E', bnd _ _ = _ ∧ _
    rw [bnd_e, z22, grd_t (inBe hN (by decide)), nIc (by omega), bnd_e, z21, z23]
    by_cases c0 : f = 0
    · obtain ⟨E', e, g1, g2, g3, g4, g5⟩ := b79 1
      subst c0
      rw [if_pos rfl, show F_X11_rule_b79 (nI (alN A)) 1 _ = _ from e, if_pos (show nI 0 ≤ (0 : Int32) by decide), nI_pred]
      exact ⟨E', rfl, g1, g2, g3, g4, g5⟩
    · obtain ⟨E', e, g1, g2, g3, g4, g5⟩ := b79 0
      rw [if_neg (nI_ne0 (by omega) (by omega)), show F_X11_rule_b79 (nI (alN A)) 0 _ = _ from e, if_neg (nI_nle (by omega) (by omega)), if_neg c0, if_neg c0]
      exact ⟨E', rfl, g1, g2, g3, g4, g5⟩
  have hr := r_rLoop (kk := (fun l1_12 D13 => (bnd (setI D13 (11, 0, 0, 0) 19 (0 : Int32)) (fun D14 => (grd (inB (D14.1 (11, 0, 0, 0) 22) 6 = true) (bnd (setI D14 (11, 0, 33, 0) ((D14.1 (11, 0, 0, 0) 22).toNatClampNeg) l1_12) (fun D16 => (if (D16.1 (11, 0, 0, 0) 21) = 0 then (F_X11_rule_b79  (D16.1 (11, 0, 0, 0) 23) (1 : Int32) D16) else (F_X11_rule_b79  (D16.1 (11, 0, 0, 0) 23) (0 : Int32) D16))))))))) hT hN 13 2000 0 0 0 0 D3 (by omega) (by omega) (by decide) (Nat.zero_le _) (by omega) (by omega) st a25
  have keep : ∀ {E : Dt}, Sm (rcS (300 * alN A) (12 * alN A)) D3 E → E.1 (11, 0, 0, 0) 22 = nI (alN A) ∧ E.1 (11, 0, 0, 0) 23 = nI (alN A) := fun m => ⟨by rw [m.i (by simp [rcS, rxS, rrS, skT])]; exact st.2.1, by rw [m.i (by simp [rcS, rxS, rrS, skT])]; exact h23⟩
  have old : ∀ {E : Dt}, Sm (rqS (alN A)) D E → ∀ r, r < alN A → MR E r (alR A r) := fun m r hr => (h5 r hr).rq (hA.2.2.2.1 r hr) hr m
  cases ev : pRl (taped A) 13 0 (sbk (taped A) 0) 0 with
  | inl f =>
    rw [ev] at hr
    obtain ⟨D4, p4, v, e4, r4, f1, f2, m4⟩ := hr
    obtain ⟨k1, k2⟩ := keep m4
    obtain ⟨D5, e5, g1, g2, g3, g4, g5⟩ := fin D4 v p4 f r4 f2 k1 k2
    rw [if_neg (by omega)] at e5 g2
    have mm := (m03.trans (rc_rq m4)).trans g5
    simp only
    rw [show F_X11_rule_b27 _ 2000 0 1 D3 = _ from e4, show _ = _ from e5]
    exact ⟨D5, rfl, hM.rq mm g1 g2 (old mm), rqm mm⟩
  | inr ls =>
    rw [ev] at hr
    obtain ⟨D4, e4, ⟨p4, r4⟩, d2, d3, m4⟩ := hr
    obtain ⟨k1, k2⟩ := keep m4
    obtain ⟨D5, e5, g1, g2, g3, g4, g5⟩ := fin D4 (nI (0 + ls.length)) p4 0 r4 (by decide) k1 k2
    rw [if_pos rfl] at e5 g2
    have mm := (m03.trans (rc_rq m4)).trans g5
    simp only
    intro F G hFG
    rw [show F_X11_rule_b27 _ 2000 0 1 D3 = _ from e4, show _ = _ from e5]
    refine ⟨D5, rfl, hM.rq mm g1 g2 (fun r hr => ?_), rqm mm⟩
    show MR D5 r (if r = alN A then _ else alR A r)
    by_cases c : r = alN A
    · rw [if_pos c, c]
      obtain ⟨wf1, wf2⟩ := rlOf_wf (F := F) (G := G) hL (sbk_le (Nat.zero_le _)) ev hFG
      refine ⟨by rw [g3, Nat.zero_add]; rfl, fun cc hcc => ?_⟩
      obtain ⟨y1, y2, y3⟩ := d2 cc hcc
      rw [Nat.add_zero] at y1 y2 y3
      refine ⟨by rw [g4 34 _ (by decide) (by decide)]; exact y1, by rw [g4 35 _ (by decide) (by decide)]; exact y2, by rw [g4 36 _ (by decide) (by decide)]; exact y3, fun k hk => ?_⟩
      obtain ⟨x, _, _, _, gle, _, _⟩ := cl_at (F := F) (G := G) ls 0 cc hcc (fun i hi => by rw [Nat.zero_add]; exact hFG i hi)
      have hk' : k < eA ls 0 cc := hk
      have hkl : k < (cat ls).length := by omega
      obtain ⟨s1, s2⟩ := d3 k hkl
      rw [Nat.add_zero] at s1 s2
      obtain ⟨t1, t2⟩ := hFG k hkl
      rw [g4 31 _ (by decide) (by decide), g4 32 _ (by decide) (by decide), s1, s2]
      exact ⟨by show _ = cm (F k); rw [t1], by show _ = G k; rw [t2]⟩
    · rw [if_neg c]
      exact old mm r (by have : r < alN A + 1 := hr; omega)
theorem p_rule : Cal F_X10_rule F_X11_rule := by
  intro D A hA hC hM
  by_cases hN : alN A < 6
  · have hc := c_rule hA hN hC
    have hT := okTp hA
    have cm' : ∀ {D1 : Dt}, Sm cS D D1 → RM D1 A := fun m => hM.fr m
    cases e : pRl (taped A) 13 0 (sbk (taped A) 0) 0 with
    | inl f =>
      rw [e] at hc
      obtain ⟨D1, e1, c1, m1⟩ := hc
      have hr := r_rule hA hN (cm' m1)
      rw [e] at hr
      obtain ⟨D2, e2, r2, m2⟩ := hr
      refine ⟨_, D1, D2, _, e1, e2, ?_, c1.fr m2, r2⟩
      obtain ⟨h1, h2, h3, h4, h5, h6⟩ := hA
      exact ⟨h1, h2, h3, h4, Nat.zero_le _, h6⟩
    | inr ls =>
      rw [e] at hc
      obtain ⟨D1, F, G, e1, hFG, c1, m1⟩ := hc
      have hr := r_rule hA hN (cm' m1)
      rw [e] at hr
      obtain ⟨D2, e2, r2, m2⟩ := hr F G hFG
      refine ⟨_, D1, D2, _, e1, e2, ?_, c1.fr m2, r2⟩
      obtain ⟨h1, h2, h3, h4, h5, h6⟩ := hA
      have up : ∀ {W : Wo}, okW W (alN A) → okW W (alN A + 1) := fun {W} o => by
        obtain ⟨o1, o2, o3, o4, o5, o6, o7, o8, o9, o10, o11⟩ := o
        refine ⟨o1, o2, o3, o4, o5, o6, o7, o8, o9, ?_, o11⟩
        rcases o10 with x | ⟨r, hr, x⟩
        · exact Or.inl x
        · exact Or.inr ⟨r, by omega, x⟩
      refine ⟨up h1, fun k W hk hW => up (h2 k W hk hW), by show alN A + 1 ≤ 6; omega, fun r hr => ?_, Nat.zero_le _, h6⟩
      show RWf (if r = alN A then _ else alR A r)
      by_cases c : r = alN A
      · rw [if_pos c]
        exact rlOf_wf hT.1 (sbk_le (Nat.zero_le _)) e hFG
      · rw [if_neg c]
        exact h4 r (by have : r < alN A + 1 := hr; omega)
  · have h6 : alN A = 6 := by have := hA.2.2.1; omega
    have a5 : D.1 (10, 0, 0, 0) 5 = nI (alN A) := hC.2.2.2.2.1
    have a23 : D.1 (11, 0, 0, 0) 23 = nI (alN A) := hM.2.2.2.1
    refine ⟨-1, D, D, A, ?_, ?_, hA, hC, hM⟩
    · rw [F_X10_rule, a5, h6, if_neg (by decide)]
    · rw [F_X11_rule, a23, h6, if_pos (by decide)]
