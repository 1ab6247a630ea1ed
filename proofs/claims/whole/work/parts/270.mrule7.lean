theorem r_TB {T : Tp} {s : Nat} (hT : okT T) (hs : s < 6) : ∀ fu e r w a k rest p c n D, tpL T + 3 ≤ fu + sbk T p → p ≤ tpL T → c ≤ 60 → lvOk ((r, w, a, k) :: rest) → (phys ((r, w, a, k) :: rest)).length ≤ sbk T p → 3 * (n + ow ((r, w, a, k) :: rest)) + (if e = true then 0 else 1) ≤ 6 * c + sbk T p → RSt D T s p 0 c n → SkS D (phys ((r, w, a, k) :: rest)) (10 - (r - k)) → RxD T s n D (Sp T e (r, w, a, k) rest (sbk T p) c) (F_X11_test_b9 fu (if e = true then 1 else 0) 1 D) := by
  have hL := hT.1
  intro fu
  induction fu with
  | zero =>
    intro e r w a k rest p c n D hf hp
    have := sbk_le hp
    omega
  | succ fu ih =>
    intro e r w a k rest p c n D hf hp hc hlv hlen hb h hS
    have hq := sbk_le hp
    have hqi : sbk T (sbk T p) = sbk T p := spE_idem
    obtain ⟨lr, lk⟩ := lv1 hlv
    have lr : r ≤ 10 := lr
    have lk : k ≤ r := lk
    have how : ow ((r, w, a, k) :: rest) = k + (anL a).length + (oL w).length + ow rest := rfl
    cases e with
    | true =>
      rw [if_pos rfl, Nat.add_zero] at hb
      rw [if_pos rfl, F_X11_test_b9, if_neg (show ¬ (1 : Int32) = 0 by decide), h.1.2.2, if_pos rfl, if_neg (show ¬ (1 : Int32) = 0 by decide)]
      obtain ⟨D1, e1, r1, m1⟩ := r_blk hT (by omega) h.1
      have h1 := h.p r1 (p20_21 m1)
      have mm1 : Sm (rrS (300 * s + n)) D D1 := p21_rr (p20_21 m1)
      have S1 := hS.rr mm1
      refine RxD.pre ?_ (rr_rx mm1)
      generalize sbk T p = q at hf hq hqi hlen hb r1 h1 ⊢
      have h91 : ((if q < tpL T then nI (tpB T q) else -1) = (91 : Int32)) = (kd T q = 5) := sgn_c (c := 91) hT rfl (by decide) (by decide) (by decide) (by decide)
      rw [F_X11_fact, e1, vbd_s, show F_X11_stood 17 D1 = _ from r_word (k := 15) hT (by omega) (by decide) h1.1, cbd_s]
      unfold Sp
      rw [if_pos rfl]
      simp only []
      by_cases k35 : kd T q = 35
      · -- not
        have hlt := kd_lt (T := T) (q := q) (by omega)
        obtain ⟨g1, g2⟩ := nq_gt hlt
        have hnx : nx T q = q + 3 := kd_nx (k := 15) (by decide) k35
        have hn3 : q + 3 ≤ nq T q := by
          have := sbk_ge (T := T) (p := nx T q)
          unfold nq
          omega
        have hxl := nx_le hq
        obtain ⟨o1, o2⟩ := r_opn (b := 300 * s + n) (x := 9) (Or.inl rfl) (show 10 - (r - k) ≤ 10 by omega) (show (phys ((r, w, a, k) :: rest)).length < 402 by omega) h1 S1
        rw [i1t k35]
        by_cases hr : r - k = 0
        · obtain ⟨D2, e2, r2, m2⟩ := o1 (by omega)
          obtain ⟨r3, m3⟩ := r2.s20 (p' := q + 3)
          have hne : ¬ nI (1 + 8 * q + 2) = 0 := nI_ne0 (by omega) (by omega)
          obtain ⟨fu, rfl⟩ : ∃ g, fu = g + 1 := ⟨fu - 1, by omega⟩
          rw [e2, vbd_s, r2.2.1, show nI q + 3 = nI (q + 3) from nI_add q 3, bnd_e, cbd_s, if_pos rfl, F_X11_test_b36, r_b9_f hne r3, hr, pFct, if_pos (Or.inr k35)]
          exact ⟨_, q + 3, rfl, r3, by omega, by omega, by omega, m2.trans (rr_rx (p21_rr (p20_21 m3)))⟩
        · obtain ⟨D2, e2, h2, S2, m2⟩ := o2 (by omega)
          obtain ⟨h3, m3⟩ := h2.s20 (p' := q + 3)
          rw [e2, vbd_s, h2.1.2.1, show nI q + 3 = nI (q + 3) from nI_add q 3, bnd_e, cbd_s, if_pos rfl, F_X11_test_b36]
          have S3 := S2.rr (b := 300 * s + n) (p21_rr m3)
          generalize setI D2 (11, 0, 0, 0) 20 (nI (q + 3)) = D3 at h3 m3 S3 ⊢
          have hsb : sbk T (q + 3) = nq T q := by unfold nq; rw [hnx]
          have hp9 : phys ((r, w, a, k + 1) :: rest) = 9 :: phys ((r, w, a, k) :: rest) := by rw [phys_c, phys_c]; rfl
          have hI := ih true r w a (k + 1) rest (q + 3) c n D3 (by rw [hsb]; omega) (by omega) hc (lvT hlv rfl (by show k + 1 ≤ r; omega)) (by rw [hsb, hp9, List.length_cons]; omega) (by
            rw [hsb, if_pos rfl]
            show 3 * (n + (k + 1 + (anL a).length + (oL w).length + ow rest)) + 0 ≤ _
            omega) h3 (by rw [hp9, show 10 - (r - (k + 1)) = 10 - (r - k) + 1 by omega]; exact S3)
          rw [hsb, if_pos rfl] at hI
          refine RxD.pre (RxD.to hI ?_) ((st_rx m2).trans (rr_rx (p21_rr m3)))
          unfold Sp
          rw [if_pos rfl]
          simp only []
          obtain ⟨r', hr'⟩ : ∃ g, r - k = g + 1 := ⟨r - k - 1, by omega⟩
          rw [hr', pFct, if_neg (by omega), if_pos k35, pB_as, show r - (k + 1) = r' by omega]
          refine pB_cg (fun q1 c1 l1 _ => ?_)
          simp only [Kc]
          rw [show nots (k + 1) ++ anL a = [(35, 0)] ++ (nots k ++ anL a) from rfl, pB_ap]
      · rw [i1f k35, r_sgn hT (by omega) h1.1, cbd_s]
        simp only [h91]
        by_cases k5 : kd T q = 5
        · -- a bracket opens
          have hlt := kd_lt (T := T) (q := q) (by omega)
          obtain ⟨g1, g2⟩ := nq_gt hlt
          have hnx : nx T q = q + 1 := kd_c1 (c := 91) hT rfl (by decide) (by decide) (by decide) (by decide) k5
          obtain ⟨o1, o2⟩ := r_opn (b := 300 * s + n) (x := 12) (Or.inr rfl) (show 10 - (r - k) ≤ 10 by omega) (show (phys ((r, w, a, k) :: rest)).length < 402 by omega) h1 S1
          rw [if_pos k5]
          by_cases hr : r - k = 0
          · obtain ⟨D2, e2, r2, m2⟩ := o1 (by omega)
            obtain ⟨r3, m3⟩ := r2.s20 (p' := q + 1)
            have hne : ¬ nI (1 + 8 * q + 2) = 0 := nI_ne0 (by omega) (by omega)
            obtain ⟨fu, rfl⟩ : ∃ g, fu = g + 1 := ⟨fu - 1, by omega⟩
            rw [e2, vbd_s, r2.2.1, nI_1, bnd_e, cbd_s, if_pos rfl, F_X11_test_b36, r_b9_f hne r3, hr, pFct, if_pos (Or.inl k5)]
            exact ⟨_, q + 1, rfl, r3, by omega, by omega, by omega, m2.trans (rr_rx (p21_rr (p20_21 m3)))⟩
          · obtain ⟨D2, e2, h2, S2, m2⟩ := o2 (by omega)
            obtain ⟨h3, m3⟩ := h2.s20 (p' := q + 1)
            rw [e2, vbd_s, h2.1.2.1, nI_1, bnd_e, cbd_s, if_pos rfl, F_X11_test_b36]
            have S3 := S2.rr (b := 300 * s + n) (p21_rr m3)
            generalize setI D2 (11, 0, 0, 0) 20 (nI (q + 1)) = D3 at h3 m3 S3 ⊢
            have hsb : sbk T (q + 1) = nq T q := by unfold nq; rw [hnx]
            have hp9 : phys ((r - k - 1, false, false, 0) :: (r, w, a, k) :: rest) = 12 :: phys ((r, w, a, k) :: rest) := by rw [phys_c]; rfl
            have hI := ih true (r - k - 1) false false 0 ((r, w, a, k) :: rest) (q + 1) c n D3 (by rw [hsb]; omega) (by omega) hc ⟨by show r - k - 1 ≤ 10; omega, Nat.zero_le _, by show r - k - 1 + k + 1 = r; omega, hlv⟩ (by rw [hsb, hp9, List.length_cons]; omega) (by
              rw [hsb, if_pos rfl]
              show 3 * (n + (0 + 0 + 0 + ow ((r, w, a, k) :: rest))) + 0 ≤ _
              omega) h3 (by rw [hp9, show 10 - (r - k - 1 - 0) = 10 - (r - k) + 1 by omega]; exact S3)
            rw [hsb, if_pos rfl] at hI
            refine RxD.pre (RxD.to hI ?_) ((st_rx m2).trans (rr_rx (p21_rr m3)))
            unfold Sp
            rw [if_pos rfl]
            simp only []
            obtain ⟨r', hr'⟩ : ∃ g, r - k = g + 1 := ⟨r - k - 1, by omega⟩
            rw [hr', pFct, if_pos k5, pB_as, show r' + 1 - 1 - 0 = r' by omega, show r' + 1 - 1 = r' by omega]
            unfold pTst
            rw [pB_as]
            refine pB_cg (fun q1 c1 l1 _ => ?_)
            rw [Kc]
            simp only []
            rw [show nots 0 ++ anL false = [] from rfl, pB_nil]
            refine pB_cg (fun q2 c2 l2 _ => ?_)
            rw [if_neg (show ¬ ((r, w, a, k) :: rest).isEmpty = true by simp)]
            by_cases k6 : kd T q2 = 6
            · rw [if_pos k6, if_pos k6, pB_nil]
            · rw [if_neg k6, if_neg k6]
              rfl
        · -- a comparison
          rw [if_neg k5]
          have hv := r_cmp hT hs hq hc (n := n) (by rw [hqi]; omega) h1
          rw [hqi] at hv
          have hpf : pFct T (r - k) q c = pCmp T q c := by
            cases r - k with
            | zero => rw [pFct, if_neg (fun x => x.elim k5 k35)]
            | succ g => rw [pFct, if_neg k5, if_neg k35]
          rw [hpf]
          cases ev : pCmp T q c with
          | inl f =>
            rw [ev] at hv
            obtain ⟨D2, p2, e2, r2, b1, b2, b3, m2⟩ := hv
            have hne : ¬ nI f = 0 := nI_ne0 (by omega) (by omega)
            obtain ⟨fu, rfl⟩ : ∃ g, fu = g + 1 := ⟨fu - 1, by omega⟩
            rw [e2, vbd_s, cbd_s, if_neg (show ¬ (1 : Int32) = 0 by decide), F_X11_test_b36, r_b9_f hne r2]
            exact ⟨D2, p2, rfl, r2, b1, b2, b3, rr_rx m2⟩
          | inr y =>
            obtain ⟨q1, c1, l1⟩ := y
            obtain ⟨v1, v2, v3, v4⟩ := pCmp_lt hL hq hc ev
            rw [ev] at hv
            obtain ⟨D2, e2, p2, d1, d2, d3, d4, d5, d6⟩ := hv
            rw [e2, vbd_s, cbd_s, if_neg (show ¬ (1 : Int32) = 0 by decide), F_X11_test_b36]
            have hI := ih false r w a k rest p2 c1 (n + l1.length) D2 (by rw [d2]; omega) d3 v3 hlv (by rw [d2]; omega) (by
              rw [d2, if_neg (by decide)]
              omega) d1 (S1.rr d6)
            rw [d2, if_neg (show ¬ false = true by decide)] at hI
            unfold Sp at hI
            rw [if_neg (show ¬ false = true by decide)] at hI
            exact RxD.seq (f := fun q1 c1 => Kc T ((r, w, a, k) :: rest) q1 c1) d5 (rr_rx d6) hI
    | false =>
      rw [if_neg (show ¬ false = true by decide)] at hb
      rw [if_neg (show ¬ false = true by decide), F_X11_test_b9, if_neg (show ¬ (1 : Int32) = 0 by decide), h.1.2.2, if_pos rfl, if_pos rfl]
      unfold Sp
      rw [if_neg (show ¬ false = true by decide)]
      have ha1 : (anL a).length = n1 a := by cases a <;> rfl
      have hw1 : (oL w).length = n1 w := by cases w <;> rfl
      have hn1 : ∀ b : Bool, n1 b ≤ 1 := fun b => by cases b <;> decide
      have hna := hn1 a
      have hnw := hn1 w
      rw [how, ha1, hw1] at hb
      rw [phys_c] at hS hlen
      simp only [List.length_append, List.length_replicate] at hlen
      -- not
      have hd9 : ¬ (List.replicate (n1 a) 10 ++ (List.replicate (n1 w) 11 ++ below rest)).headD (-1) = (9 : Int32) := by
        cases a
        · cases w
          · exact below_h (by decide) (by decide)
          · show ¬ (11 : Int32) = 9
            decide
        · show ¬ (10 : Int32) = 9
          decide
      have hd10 : ¬ (List.replicate (n1 w) 11 ++ below rest).headD (-1) = (10 : Int32) := by
        cases w
        · exact below_h (by decide) (by decide)
        · show ¬ (11 : Int32) = 10
          decide
      obtain ⟨D1, e1, h1, S1, g1, m1⟩ := r_ans (T := T) (s := s) (p := p) (c := c) (x := 9) (x0 := 35) (a1 := 9) hs (by decide) hd9 k 2000 n (10 - r) D (by omega) (by omega) (by simp only [List.length_append, List.length_replicate]; omega) (by omega) (by omega) (by rw [if_pos rfl, show 10 - r + k = 10 - (r - k) by omega]; exact hS) h
      obtain ⟨D2, e2, r2, m2⟩ := r_blk hT (by omega) h1.1
      have h2 := h1.p r2 (p20_21 m2)
      have S2 := S1.rr (b := 300 * s + (n + k)) (p21_rr (p20_21 m2))
      obtain ⟨D3, e3, h3, S3, g3, m3⟩ := r_ans (T := T) (s := s) (p := sbk T p) (c := c) (x := 10) (x0 := 36) (a1 := 10) hs (by decide) hd10 (n1 a) 2000 (n + k) (10 - r) D2 (by omega) (by omega) (by simp only [List.length_append, List.length_replicate]; omega) (by omega) (by omega) (by rw [if_neg (by decide)]; exact S2) h2
      rw [F_X11_answers, e1, vbd_s, e2, vbd_s]
      have mm : Sm (rxS (300 * s + n)) D D3 := (m1.trans (rr_rx (p21_rr (p20_21 m2)))).trans (rx_w (by omega) m3)
      have gg : SgM D3 (300 * s + n) (nots k ++ anL a) := by
        have a1 : SgM D3 (300 * s + n) (nots k) := (g1.sx (b := 300 * s + (n + k)) (rr_rx (p21_rr (p20_21 m2))) (by rw [List.length_replicate]; omega)).sx m3 (by rw [List.length_replicate]; omega)
        refine SgM.app a1 ?_
        rw [show (nots k).length = k from List.length_replicate, anL_r, Nat.add_assoc]
        exact g3
      have hll : (nots k ++ anL a).length = k + n1 a := by rw [List.length_append, show (nots k).length = k from List.length_replicate, ha1]
      generalize sbk T p = q at hf hq hqi hlen hb r2 h2 h3 e3 ⊢
      have w18 : F_X11_stood 18 D2 = some ((if kd T q = 36 then 1 else 0), D2) := r_word (k := 16) hT (by omega) (by decide) h2.1
      have w19 : F_X11_stood 19 D2 = some ((if kd T q = 37 then 1 else 0), D2) := r_word (k := 17) hT (by omega) (by decide) h2.1
      rw [w18, cbd_s, w19, cbd_s, F_X11_answers, e3, vbd_s]
      simp only [Kc]
      refine RxD.seq gg mm ?_
      rw [hll, pTL_e hL (pFct_gd hL r) hq hc]
      by_cases k36 : kd T q = 36
      · -- and
        have hlt := kd_lt (T := T) (q := q) (by omega)
        obtain ⟨u1, u2⟩ := nq_gt hlt
        have hnx : nx T q = q + 3 := kd_nx (k := 16) (by decide) k36
        have hn3 : q + 3 ≤ nq T q := by
          have := sbk_ge (T := T) (p := nx T q)
          unfold nq
          omega
        have hxl := nx_le hq
        obtain ⟨D4, e4, S4, m4⟩ := r_opn2 (x := 10) (Or.inl rfl) (by simp only [List.length_append, List.length_replicate]; omega) S3
        have h4 := h3.st m4
        obtain ⟨h5, m5⟩ := h4.s20 (p' := q + 3)
        rw [i1t k36, if_pos k36, F_X11_test_b82, if_neg (show ¬ kd T q = 37 by omega), if_pos rfl, F_X11_test_b93, if_pos k36, if_neg (show ¬ (1 : Int32) = 0 by decide), F_X11_test_b105, e4, vbd_s, if_neg (show ¬ (1 : Int32) = 0 by decide), F_X11_test_b122, h4.1.2.1, show nI q + 3 = nI (q + 3) from nI_add q 3, bnd_e, F_X11_test_b199]
        have S5 := S4.rr (b := 300 * s + (n + (k + n1 a))) (p21_rr m5)
        generalize setI D4 (11, 0, 0, 0) 20 (nI (q + 3)) = D5 at h5 m5 S5 ⊢
        have hsb : sbk T (q + 3) = nq T q := by unfold nq; rw [hnx]
        have hp9 : phys ((r, w, true, 0) :: rest) = 10 :: (List.replicate (n1 w) 11 ++ below rest) := by rw [phys_c]; rfl
        have hI := ih true r w true 0 rest (q + 3) c (n + (k + n1 a)) D5 (by rw [hsb]; omega) (by omega) hc (lvT hlv rfl (Nat.zero_le _)) (by rw [hsb, hp9]; simp only [List.length_cons, List.length_append, List.length_replicate]; omega) (by
          rw [hsb, if_pos rfl]
          show 3 * (n + (k + n1 a) + (0 + 1 + (oL w).length + ow rest)) + 0 ≤ _
          omega) (by rw [← Nat.add_assoc]; exact h5) (by rw [hp9]; exact S5)
        rw [hsb, if_pos rfl] at hI
        refine RxD.pre (RxD.to hI ?_) ((st_rx m4).trans (rr_rx (p21_rr m5)))
        unfold Sp
        rw [if_pos rfl, pB_as]
        refine pB_cg (fun q1 c1 l1 _ => ?_)
        simp only [Kc]
        rw [pB_as]
        rfl
      · rw [i1f k36, if_neg k36]
        have hd11 : ¬ (below rest).headD (-1) = (11 : Int32) := below_h (by decide) (by decide)
        obtain ⟨D4, e4, h4, S4, g4, m4⟩ := r_ans (T := T) (s := s) (p := q) (c := c) (x := 11) (x0 := 37) (a1 := 11) hs (by decide) hd11 (n1 w) 2000 (n + k + n1 a) (10 - r) D3 (by omega) (by omega) (by omega) (by omega) (by omega) (by rw [if_neg (by decide)]; exact S3) h3
        rw [← oL_r] at g4
        rw [Nat.add_assoc n k] at g4 h4 m4
        by_cases k37 : kd T q = 37
        · -- or
          have hlt := kd_lt (T := T) (q := q) (by omega)
          obtain ⟨u1, u2⟩ := nq_gt hlt
          have hnx : nx T q = q + 2 := kd_nx (k := 17) (by decide) k37
          have hn3 : q + 2 ≤ nq T q := by
            have := sbk_ge (T := T) (p := nx T q)
            unfold nq
            omega
          have hxl := nx_le hq
          obtain ⟨D5, e5, S5, m5⟩ := r_opn2 (x := 11) (Or.inr rfl) (by omega) S4
          have h5 := h4.st m5
          obtain ⟨h6, m6⟩ := h5.s20 (p' := q + 2)
          rw [i1t k37, if_pos k37, F_X11_test_b82, if_pos k37, if_neg (show ¬ (1 : Int32) = 0 by decide), F_X11_answers, e4, vbd_s, F_X11_test_b93, if_neg k36, if_pos rfl, F_X11_test_b105, e5, vbd_s, if_pos rfl, F_X11_test_b122, h5.1.2.1, show nI q + 2 = nI (q + 2) from nI_add q 2, bnd_e, F_X11_test_b199, pB_as]
          refine RxD.seq g4 m4 ?_
          rw [hw1]
          have S6 := S5.rr (b := 300 * s + (n + (k + n1 a) + n1 w)) (p21_rr m6)
          generalize setI D5 (11, 0, 0, 0) 20 (nI (q + 2)) = D6 at h6 m6 S6 ⊢
          have hsb : sbk T (q + 2) = nq T q := by unfold nq; rw [hnx]
          have hp9 : phys ((r, true, false, 0) :: rest) = 11 :: below rest := by rw [phys_c]; rfl
          have hI := ih true r true false 0 rest (q + 2) c (n + (k + n1 a) + n1 w) D6 (by rw [hsb]; omega) (by omega) hc (lvT hlv rfl (Nat.zero_le _)) (by rw [hsb, hp9, List.length_cons]; omega) (by
            rw [hsb, if_pos rfl]
            show 3 * (n + (k + n1 a) + n1 w + (0 + 0 + 1 + ow rest)) + 0 ≤ _
            omega) h6 (by rw [hp9]; exact S6)
          rw [hsb, if_pos rfl] at hI
          refine RxD.pre (RxD.to hI ?_) ((st_rx m5).trans (rr_rx (p21_rr m6)))
          unfold Sp
          rw [if_pos rfl, pB_as]
          refine pB_cg (fun q1 c1 l1 _ => ?_)
          simp only [Kc]
          rw [show nots 0 ++ anL false = [] from rfl, pB_nil]
        · -- the end of a level
          rw [i1f k37, if_neg k37, F_X11_answers, e4, vbd_s]
          refine RxD.seq g4 m4 ?_
          rw [hw1, r_top (by omega) S4, cbd_s]
          cases rest with
          | nil =>
            obtain ⟨fu, rfl⟩ : ∃ g, fu = g + 1 := ⟨fu - 1, by omega⟩
            rw [if_neg (show ¬ (below []).headD (-1) = (12 : Int32) by decide), F_X11_test_b199, F_X11_test_b9, if_pos rfl, if_pos (show ([] : List Lv).isEmpty = true from rfl)]
            have hr10 : r = 10 := hlv.1
            exact ⟨D4, rfl, q, h4, hqi, hq, fun i hi => absurd hi (Nat.not_lt_zero i), Sm.refl, by rw [S4.2.2, hr10]; rfl⟩
          | cons y ys =>
            obtain ⟨yr, yw, ya, yk⟩ := y
            have h93 : ((if q < tpL T then nI (tpB T q) else -1) = (93 : Int32)) = (kd T q = 6) := sgn_c (c := 93) hT rfl (by decide) (by decide) (by decide) (by decide)
            have hlv2 : r + yk + 1 = yr := hlv.2.2.1
            have hlvY : lvOk ((yr, yw, ya, yk) :: ys) := hlv.2.2.2
            obtain ⟨yb1, yb2⟩ := lv1 hlvY
            have yb1 : yr ≤ 10 := yb1
            have hbl : below ((yr, yw, ya, yk) :: ys) = 12 :: phys ((yr, yw, ya, yk) :: ys) := rfl
            rw [hbl] at S4 hlen
            simp only [List.length_cons] at hlen
            rw [hbl, if_pos (show (12 :: phys ((yr, yw, ya, yk) :: ys)).headD (-1) = (12 : Int32) from rfl), r_sgn hT (by omega) h4.1, cbd_s, if_neg (show ¬ ((yr, yw, ya, yk) :: ys).isEmpty = true by simp)]
            simp only [h93]
            -- one place on, one level less
            have b164 : ∀ (E : Dt) (g : Int32) (N : Nat), RSt E T s q g c N → SkS E (12 :: phys ((yr, yw, ya, yk) :: ys)) (10 - r) → ∃ E', (∀ K : Int32 → Int32 → Dt → Option Dt, F_X11_test_b164 K 0 1 E = K 0 1 E') ∧ RSt E' T s (q + 1) g c N ∧ SkS E' (phys ((yr, yw, ya, yk) :: ys)) (10 - (yr - yk)) ∧ Sm (rxS (300 * s + (n + (k + n1 a) + n1 w))) E E' := by
              intro E g N hE hSE
              obtain ⟨h5, m5⟩ := hE.s20 (p' := q + 1)
              have S5 := hSE.rr (b := 300 * s + (n + (k + n1 a) + n1 w)) (p21_rr m5)
              have hE20 := hE.1.2.1
              generalize hE1 : setI E (11, 0, 0, 0) 20 (nI (q + 1)) = E1 at h5 m5 S5
              have x27 : E1.1 (11, 0, 0, 0) 27 = nI ((phys ((yr, yw, ya, yk) :: ys)).length + 1) := S5.1
              have x25 : (setI E1 (11, 0, 0, 0) 27 (nI (phys ((yr, yw, ya, yk) :: ys)).length)).1 (11, 0, 0, 0) 25 = nI (10 - (yr - yk) + 1) := by
                rw [gI_k (by decide), show 10 - (yr - yk) + 1 = 10 - r by omega]
                exact S5.2.2
              have m6 : Sm skT E1 (setI (setI E1 (11, 0, 0, 0) 27 (nI (phys ((yr, yw, ya, yk) :: ys)).length)) (11, 0, 0, 0) 25 (nI (10 - (yr - yk)))) := (Sm.sI (by simp [skT])).trans (Sm.sI (by simp [skT]))
              refine ⟨_, fun K => ?_, h5.st m6, ⟨by rw [gI_k (by decide), gI_s], Stk.cg (fun j => by rw [gI, if_neg (by simp), gI, if_neg (by simp)]) _ S5.2.1.2, gI_s⟩, (rr_rx (p21_rr m5)).trans (st_rx m6)⟩
              rw [F_X11_test_b164, hE20, nI_1, bnd_e, hE1, x27, nI_pred, bnd_e, x25, nI_pred, bnd_e, F_X11_test_b199]
            by_cases k6 : kd T q = 6
            · have hlt := kd_lt (T := T) (q := q) (by omega)
              obtain ⟨u1, u2⟩ := nq_gt hlt
              have hnx : nx T q = q + 1 := kd_c1 (c := 93) hT rfl (by decide) (by decide) (by decide) (by decide) k6
              have hsb : sbk T (q + 1) = nq T q := by unfold nq; rw [hnx]
              obtain ⟨D5, e5, h5, S5, m5⟩ := b164 D4 0 _ h4 S4
              rw [if_pos k6, if_pos k6, e5]
              have hI := ih false yr yw ya yk ys (q + 1) c (n + (k + n1 a) + n1 w) D5 (by rw [hsb]; omega) (by omega) hc hlvY (by rw [hsb]; omega) (by
                rw [hsb, if_neg (show ¬ false = true by decide)]
                omega) h5 S5
              rw [hsb, if_neg (show ¬ false = true by decide)] at hI
              unfold Sp at hI
              rw [if_neg (show ¬ false = true by decide)] at hI
              exact RxD.pre hI m5
            · obtain ⟨D5, e5, r5, m5⟩ := r_fails (x := q) (c := 0) h4.1
              rw [ft_0] at r5
              have h5 := h4.p r5 (m21 m5)
              obtain ⟨D6, e6, h6, S6, m6⟩ := b164 D5 _ _ h5 (S4.rr (b := 300 * s + (n + (k + n1 a) + n1 w)) (p21_rr (m21 m5)))
              have hne : ¬ nI (1 + 8 * q + 0) = 0 := nI_ne0 (by omega) (by omega)
              obtain ⟨fu, rfl⟩ : ∃ g, fu = g + 1 := ⟨fu - 1, by omega⟩
              rw [if_neg k6, if_neg k6, h4.1.2.1, show F_X11_fails 0 (nI q) D4 = _ from e5, vbd_s, e6, r_b9_f hne h6.1]
              exact ⟨D6, q + 1, rfl, h6.1, by omega, by omega, by omega, (rr_rx (p21_rr (m21 m5))).trans m6⟩
