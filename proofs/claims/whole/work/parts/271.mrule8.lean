theorem r_test {T : Tp} {s p c n : Nat} {D : Dt} (hT : okT T) (hs : s < 6) (hp : p ≤ tpL T) (hc : c ≤ 60) (hb : 3 * n ≤ 6 * c + sbk T p) (h : RSt D T s p 0 c n) (h25 : D.1 (11, 0, 0, 0) 25 = 0) : RxD T s n D (pTst T (pFct T 10) (sbk T p) c) (F_X11_test D) := by
  have hL := hT.1
  have m : Sm skT D (setI D (11, 0, 0, 0) 27 0) := Sm.sI (by simp [skT])
  have S1 : SkS (setI D (11, 0, 0, 0) 27 0) (phys [(10, false, false, 0)]) (10 - (10 - 0)) := ⟨by rw [gI_s]; rfl, trivial, by rw [gI_k (by decide)]; exact h25⟩
  rw [F_X11_test, bnd_e]
  have hI := r_TB hT hs 2000 true 10 false false 0 [] p c n _ (by omega) hp hc ⟨rfl, Nat.zero_le _⟩ (Nat.zero_le _) (by
    rw [if_pos rfl]
    show 3 * (n + 0) + 0 ≤ _
    omega) (h.st m) S1
  rw [if_pos rfl] at hI
  refine RxD.pre (RxD.to hI ?_) (st_rx m)
  unfold Sp pTst
  rw [if_pos rfl]
  simp only [Kc]
  refine pB_cg (fun q1 c1 l1 _ => ?_)
  rw [show nots 0 ++ anL false = [] from rfl, pB_nil]
  exact pB_r
def rcS (b j : Nat) : LA → Nat → Bool := fun la k => rxS b la k || ((la == (11, 0, 34, 0) || la == (11, 0, 35, 0) || la == (11, 0, 36, 0)) && decide (j ≤ k))
theorem rx_rc {b j : Nat} {D D' : Dt} (s : Sm (rxS b) D D') : Sm (rcS b j) D D' := s.mono (fun la k e => (Bool.or_eq_false_iff.mp e).1)
theorem rc_w {b b' j j' : Nat} {D D' : Dt} (h : b ≤ b') (hj : j ≤ j') (s : Sm (rcS b' j') D D') : Sm (rcS b j) D D' := s.mono (fun la k e => by
  obtain ⟨e1, e2⟩ := Bool.or_eq_false_iff.mp e
  obtain ⟨e3, e4⟩ := Bool.or_eq_false_iff.mp e1
  refine Bool.or_eq_false_iff.mpr ⟨Bool.or_eq_false_iff.mpr ⟨?_, e4⟩, ?_⟩
  · simp only [rrS, Bool.or_eq_false_iff, Bool.and_eq_false_iff, decide_eq_false_iff_not] at e3 ⊢
    refine ⟨e3.1, ?_⟩
    rcases e3.2 with x | x
    · exact Or.inl x
    · exact Or.inr (by omega)
  · simp only [Bool.and_eq_false_iff, decide_eq_false_iff_not] at e2 ⊢
    rcases e2 with x | x
    · exact Or.inl x
    · exact Or.inr (by omega))
theorem rc_s {b j i q : Nat} {v : Int32} {D : Dt} (hq : q = 34 ∨ q = 35 ∨ q = 36) (h : j ≤ i) : Sm (rcS b j) D (setI D (11, 0, q, 0) i v) := Sm.sI (by
  rcases hq with rfl | rfl | rfl <;> simp [rcS, h])
theorem RSt.w {D : Dt} {T : Tp} {s p c n q k : Nat} {f v : Int32} (h : RSt D T s p f c n) (h1 : q ≠ 0) (h2 : q ≠ 30) : RSt (setI D (11, 0, q, 0) k v) T s p f c n := ⟨h.1.w h1 h2, by rw [gI_q (fun x => h1 x.symm)]; exact h.2.1, by rw [gI_q (fun x => h1 x.symm)]; exact h.2.2.1, by rw [gI_q (fun x => h1 x.symm)]; exact h.2.2.2.1, by rw [gI_q (fun x => h1 x.symm)]; exact h.2.2.2.2⟩
def RcC (T : Tp) (s cl n : Nat) (D : Dt) (x : Nat ⊕ (Nat × Nat × Cl2)) (res : Option Dt) : Prop := match x with
  | .inl f => ∃ D' p, res = some D' ∧ RP D' T p (nI f) ∧ p ≤ 2000 ∧ 0 < f ∧ f < 100000 ∧ Sm (rcS (300 * s + n) (12 * s + cl)) D D'
  | .inr (q1, c1, l1, l2) => ∃ D' p, res = some D' ∧ RSt D' T s p 0 c1 (n + (l1 ++ l2).length) ∧ sbk T p = q1 ∧ p ≤ tpL T ∧ SgM D' (300 * s + n) (l1 ++ l2) ∧ D'.1 (11, 0, 0, 0) 25 = 0 ∧ D'.1 (11, 0, 34, 0) (12 * s + cl) = nI n ∧ D'.1 (11, 0, 35, 0) (12 * s + cl) = nI (n + l1.length) ∧ D'.1 (11, 0, 36, 0) (12 * s + cl) = nI (n + (l1 ++ l2).length) ∧ Sm (rcS (300 * s + n) (12 * s + cl)) D D'
theorem r_rClause {T : Tp} {s cl p c n : Nat} {D : Dt} (hT : okT T) (hs : s < 6) (hcl : cl ≤ 12) (hp : p ≤ tpL T) (hc : c ≤ 60) (hb : 3 * n ≤ 6 * c + sbk T p) (h : RSt D T s p 0 c n) (h25 : D.1 (11, 0, 0, 0) 25 = 0) : RcC T s cl n D (pCl T cl (sbk T p) c) (F_X11_ruleClause (nI cl) D) := by
  have hL := hT.1
  obtain ⟨D1, e1, r1, m1⟩ := r_blk hT (by omega) h.1
  have h1 := h.p r1 (p20_21 m1)
  have mm1 : Sm (rrS (300 * s + n)) D D1 := p21_rr (p20_21 m1)
  have x25 : D1.1 (11, 0, 0, 0) 25 = 0 := by rw [mm1.i (by rw [rr_00]; decide)]; exact h25
  have hq := sbk_le hp
  rw [F_X11_ruleClause, e1, vbd_s, bnd_e]
  generalize sbk T p = q at hq hb r1 h1 ⊢
  rw [show F_X11_stood 5 D1 = _ from r_word (k := 13) hT (by omega) (by decide) h1.1, cbd_s, h1.1.2.1]
  have k12 : (nI cl = (12 : Int32)) = (cl = 12) := propext ⟨fun e => (nI_eq (b := 12) (by omega) (by decide)).mp e, fun e => by rw [e]; rfl⟩
  simp only [k12]
  unfold pCl
  by_cases k33 : kd T q = 33
  · rw [i1t k33, if_neg (fun x => x k33)]
    by_cases c12 : 12 ≤ cl
    · obtain ⟨D2, e2, r2, m2⟩ := r_fails (x := q) (c := 4) h1.1
      rw [ft_0] at r2
      rw [if_pos c12, if_pos (show cl = 12 by omega), show F_X11_fails 4 (nI q) D1 = _ from e2, vbd_s]
      exact ⟨D2, q, rfl, r2, by omega, by omega, by omega, rx_rc (rr_rx (mm1.trans (p21_rr (m21 m2))))⟩
    · have hlt := kd_lt (T := T) (q := q) (by omega)
      obtain ⟨u1, u2⟩ := nq_gt hlt
      have hnx : nx T q = q + 3 := kd_nx (k := 13) (by decide) k33
      have hxl := nx_le hq
      have hsb : sbk T (q + 3) = nq T q := by unfold nq; rw [hnx]
      obtain ⟨h2, m2⟩ := h1.s20 (p' := q + 3)
      have ix : (12 : Int32) * nI s + nI cl = nI (12 * s + cl) := by rw [show (12 : Int32) = nI 12 from rfl, pk_mul, nI_add]
      have hi72 := inBe (show 12 * s + cl < 72 by omega) (by decide)
      rw [if_neg c12, if_neg (show ¬ cl = 12 by omega), show nI q + 3 = nI (q + 3) from nI_add q 3, bnd_e]
      have x25b : (setI D1 (11, 0, 0, 0) 20 (nI (q + 3))).1 (11, 0, 0, 0) 25 = 0 := by rw [gI_k (by decide)]; exact x25
      generalize setI D1 (11, 0, 0, 0) 20 (nI (q + 3)) = D2 at h2 m2 x25b ⊢
      rw [h2.2.1, ix, bnd_e, grd_t hi72, nIc (by omega), h2.2.2.1, bnd_e]
      have h3 := h2.w (q := 34) (k := 12 * s + cl) (v := nI n) (by decide) (by decide)
      have m3 : Sm (rcS (300 * s + n) (12 * s + cl)) D2 (setI D2 (11, 0, 34, 0) (12 * s + cl) (nI n)) := rc_s (Or.inl rfl) (Nat.le_refl _)
      have x34 : (setI D2 (11, 0, 34, 0) (12 * s + cl) (nI n)).1 (11, 0, 34, 0) (12 * s + cl) = nI n := gI_s
      have x25c : (setI D2 (11, 0, 34, 0) (12 * s + cl) (nI n)).1 (11, 0, 0, 0) 25 = 0 := by rw [gI_q (by decide)]; exact x25b
      generalize setI D2 (11, 0, 34, 0) (12 * s + cl) (nI n) = D3 at h3 m3 x34 x25c ⊢
      have m03 : Sm (rcS (300 * s + n) (12 * s + cl)) D D3 := ((rx_rc (rr_rx mm1)).trans (rx_rc (rr_rx (p21_rr m2)))).trans m3
      have hv := r_sum hT hs (show q + 3 ≤ tpL T by omega) hc (n := n) (by rw [hsb]; omega) h3
      rw [hsb] at hv
      -- the end of a clause
      have b104 : ∀ (E : Dt) (p' c' N : Nat) (f : Int32), RSt E T s p' f c' N → ∃ D', F_X11_ruleClause_b104 (nI cl) (nI (12 * s + cl)) E = some D' ∧ RSt D' T s p' f c' N ∧ D'.1 (11, 0, 36, 0) (12 * s + cl) = nI N ∧ (∀ z k, z ≠ 36 → D'.1 (11, 0, z, 0) k = E.1 (11, 0, z, 0) k) ∧ Sm (rcS (300 * s + n) (12 * s + cl)) E D' := by
        intro E p' c' N f hE
        rw [F_X11_ruleClause_b104, grd_t hi72, nIc (by omega), hE.2.2.1, bnd_e]
        exact ⟨_, rfl, hE.w (by decide) (by decide), gI_s, fun z k hz => gI_q hz, rc_s (Or.inr (Or.inr rfl)) (Nat.le_refl _)⟩
      have fl : ∀ (E : Dt) (p' f : Nat), RP E T p' (nI f) → p' ≤ 2000 → 0 < f → f < 100000 → Sm (rcS (300 * s + n) (12 * s + cl)) D E → ∃ D' p, F_X11_ruleClause_b104 (nI cl) (nI (12 * s + cl)) E = some D' ∧ RP D' T p (nI f) ∧ p ≤ 2000 ∧ 0 < f ∧ f < 100000 ∧ Sm (rcS (300 * s + n) (12 * s + cl)) D D' := by
        intro E p' f hE hp' hf1 hf2 hm
        rw [F_X11_ruleClause_b104, grd_t hi72, nIc (by omega), bnd_e]
        exact ⟨_, p', rfl, hE.w (by decide) (by decide), hp', hf1, hf2, hm.trans (rc_s (Or.inr (Or.inr rfl)) (Nat.le_refl _))⟩
      cases ev : pSum T (nq T q) c with
      | inl f =>
        rw [ev] at hv
        obtain ⟨D4, p4, c4, n4, e4, r4, a1, a2, a3, a4, m4⟩ := hv
        have hne : ¬ nI f = 0 := nI_ne0 (by omega) (by omega)
        have h5 := r4.w (q := 35) (k := 12 * s + cl) (v := D4.1 (11, 0, 0, 0) 24) (by decide) (by decide)
        rw [e4, vbd_s, bnd_e, h5.1.2.2, if_neg hne]
        exact fl _ p4 f h5.1 (by omega) a3 a4 ((m03.trans (rx_rc (rr_rx m4))).trans (rc_s (Or.inr (Or.inl rfl)) (Nat.le_refl _)))
      | inr y =>
        obtain ⟨q1, c1, l1⟩ := y
        obtain ⟨v1, v2, v3, v4, v5⟩ := slen hL u2 hc ev
        rw [ev] at hv
        obtain ⟨D4, e4, p4, d1, d2, d3, d4, d5, d6⟩ := hv
        have hp4 := d4 rfl
        subst hp4
        have h5 := d1.w (q := 35) (k := 12 * s + cl) (v := nI (n + l1.length)) (by decide) (by decide)
        have x34d : D4.1 (11, 0, 34, 0) (12 * s + cl) = nI n := by rw [d6.i (by simp [rrS])]; exact x34
        have x25d : D4.1 (11, 0, 0, 0) 25 = 0 := by rw [d6.i (by rw [rr_00]; decide)]; exact x25c
        rw [e4, vbd_s, d1.2.2.1, bnd_e, h5.1.2.2, if_pos rfl]
        have m5 : Sm (rcS (300 * s + n) (12 * s + cl)) D4 (setI D4 (11, 0, 35, 0) (12 * s + cl) (nI (n + l1.length))) := rc_s (Or.inr (Or.inl rfl)) (Nat.le_refl _)
        have y34 : (setI D4 (11, 0, 35, 0) (12 * s + cl) (nI (n + l1.length))).1 (11, 0, 34, 0) (12 * s + cl) = nI n := by rw [gI_q (by decide)]; exact x34d
        have y35 : (setI D4 (11, 0, 35, 0) (12 * s + cl) (nI (n + l1.length))).1 (11, 0, 35, 0) (12 * s + cl) = nI (n + l1.length) := gI_s
        have y25 : (setI D4 (11, 0, 35, 0) (12 * s + cl) (nI (n + l1.length))).1 (11, 0, 0, 0) 25 = 0 := by rw [gI_q (by decide)]; exact x25d
        have ySg : SgM (setI D4 (11, 0, 35, 0) (12 * s + cl) (nI (n + l1.length))) (300 * s + n) l1 := fun i hi => by rw [gI_q (by decide), gI_q (by decide)]; exact d5 i hi
        generalize setI D4 (11, 0, 35, 0) (12 * s + cl) (nI (n + l1.length)) = D5 at h5 m5 y34 y35 y25 ySg ⊢
        have m05 := (m03.trans (rx_rc (rr_rx d6))).trans m5
        obtain ⟨D6, e6, r6, m6⟩ := r_blk hT (by omega) h5.1
        rw [d2] at r6
        have h6 := h5.p r6 (p20_21 m6)
        have w16 : F_X11_stood 16 D6 = some ((if kd T p4 = 34 then 1 else 0), D6) := r_word (k := 14) hT (by omega) (by decide) h6.1
        have z : ∀ q k, q ≠ 0 → D6.1 (11, 0, q, 0) k = D5.1 (11, 0, q, 0) k := fun q k hq => p21_15 (p20_21 m6) q k hq
        have z25 : D6.1 (11, 0, 0, 0) 25 = 0 := by rw [(p20_21 m6).i (by simp [p21])]; exact y25
        rw [F_X11_takes, grd_t (by decide), e6, vbd_s, w16, cbd_s]
        simp only
        by_cases k34 : kd T p4 = 34
        · have hlt4 := kd_lt (T := T) (q := p4) (by omega)
          obtain ⟨u3, u4⟩ := nq_gt hlt4
          have hnx4 : nx T p4 = p4 + 2 := kd_nx (k := 14) (by decide) k34
          have hxl4 := nx_le v2
          have hsb4 : sbk T (p4 + 2) = nq T p4 := by unfold nq; rw [hnx4]
          obtain ⟨h7, m7⟩ := h6.s20 (p' := p4 + 2)
          rw [if_pos k34, if_pos k34, if_neg (show ¬ (1 : Int32) = 0 by decide), F_X11_takes_b27, h6.1.2.1, show nI p4 + sLen 16 = nI (p4 + 2) from nI_add p4 2, bnd_e, grd_t (Or.inr rfl), cbd_s, if_neg (show ¬ (1 : Int32) = 0 by decide)]
          have z7 : ∀ q k, q ≠ 0 → (setI D6 (11, 0, 0, 0) 20 (nI (p4 + 2))).1 (11, 0, q, 0) k = D5.1 (11, 0, q, 0) k := fun q k hq => by rw [gI_q hq]; exact z q k hq
          have z725 : (setI D6 (11, 0, 0, 0) 20 (nI (p4 + 2))).1 (11, 0, 0, 0) 25 = 0 := by rw [gI_k (by decide)]; exact z25
          generalize setI D6 (11, 0, 0, 0) 20 (nI (p4 + 2)) = D7 at h7 m7 z7 z725 ⊢
          have ht := r_test hT hs (show p4 + 2 ≤ tpL T by omega) v4 (n := n + l1.length) (by rw [hsb4]; omega) h7 z725
          rw [hsb4] at ht
          have m07 := (m05.trans (rx_rc (rr_rx (p21_rr (p20_21 m6))))).trans (rx_rc (rr_rx (p21_rr m7)) : Sm (rcS (300 * s + n) (12 * s + cl)) D6 D7)
          cases ev2 : pTst T (pFct T 10) (nq T p4) c1 with
          | inl f =>
            rw [ev2] at ht
            obtain ⟨D8, p8, e8, r8, b1, b2, b3, m8⟩ := ht
            rw [e8, vbd_s]
            exact fl D8 p8 f r8 b1 b2 b3 (m07.trans (rc_w (by omega) (Nat.le_refl _) (rx_rc m8)))
          | inr y2 =>
            obtain ⟨q2, c2, l2⟩ := y2
            rw [ev2] at ht
            obtain ⟨D8, e8, p8, f1, f2, f3, f4, f5, f6⟩ := ht
            obtain ⟨D9, e9, h9, a36, ao, m9⟩ := b104 D8 p8 c2 _ 0 f1
            have t34 : ∀ q, q = 34 ∨ q = 35 → D8.1 (11, 0, q, 0) (12 * s + cl) = D5.1 (11, 0, q, 0) (12 * s + cl) := fun q hq => by
              rcases hq with rfl | rfl
              · rw [f5.i (by simp [rxS, rrS, skT])]; exact z7 34 _ (by decide)
              · rw [f5.i (by simp [rxS, rrS, skT])]; exact z7 35 _ (by decide)
            have f4' : SgM D8 (300 * s + n + l1.length) l2 := by rw [Nat.add_assoc]; exact f4
            have s1 : SgM D8 (300 * s + n) (l1 ++ l2) := SgM.app (SgM.sx (fun i hi => by rw [z7 31 _ (by decide), z7 32 _ (by decide)]; exact ySg i hi) f5 (by omega)) f4'
            rw [e8, vbd_s, e9]
            refine ⟨D9, p8, rfl, by rw [List.length_append, ← Nat.add_assoc]; exact h9, f2, f3, fun i hi => ?_, ?_, ?_, ?_, ?_, (m07.trans (rc_w (by omega) (Nat.le_refl _) (rx_rc f5))).trans m9⟩
            · rw [ao 31 _ (by decide), ao 32 _ (by decide)]; exact s1 i hi
            · rw [ao 0 _ (by decide)]; exact f6
            · rw [ao 34 _ (by decide), t34 34 (Or.inl rfl)]; exact y34
            · rw [ao 35 _ (by decide), t34 35 (Or.inr rfl)]; exact y35
            · rw [List.length_append, ← Nat.add_assoc]; exact a36
        · obtain ⟨h7, m7⟩ := h6.s20 (p' := p4)
          rw [if_neg k34, if_neg k34, if_pos rfl, F_X11_takes_b27, h6.1.2.1, show nI p4 + 0 = nI p4 from nI_add p4 0, bnd_e, grd_t (Or.inl rfl), cbd_s, if_pos rfl]
          obtain ⟨D9, e9, h9, a36, ao, m9⟩ := b104 _ p4 c1 _ 0 h7
          rw [e9]
          refine ⟨D9, p4, rfl, by rw [List.append_nil]; exact h9, d2, v2, fun i hi => ?_, ?_, ?_, ?_, by rw [List.append_nil]; exact a36, ((m05.trans (rx_rc (rr_rx (p21_rr (p20_21 m6))))).trans (rx_rc (rr_rx (p21_rr m7)) : Sm (rcS (300 * s + n) (12 * s + cl)) _ _)).trans m9⟩
          · rw [ao 31 _ (by decide), ao 32 _ (by decide), gI_q (by decide), gI_q (by decide), z 31 _ (by decide), z 32 _ (by decide), List.append_nil]
            rw [List.append_nil] at hi
            exact ySg i hi
          · rw [ao 0 _ (by decide), gI_k (by decide)]; exact z25
          · rw [ao 34 _ (by decide), gI_q (by decide), z 34 _ (by decide)]; exact y34
          · rw [ao 35 _ (by decide), gI_q (by decide), z 35 _ (by decide)]; exact y35
  · obtain ⟨D2, e2, r2, m2⟩ := r_fails (x := q) (c := 0) h1.1
    rw [ft_0] at r2
    rw [i1f k33, if_pos k33, show F_X11_fails 0 (nI q) D1 = _ from e2, vbd_s]
    exact ⟨D2, q, rfl, r2, by omega, by omega, by omega, rx_rc (rr_rx (mm1.trans (p21_rr (m21 m2))))⟩
