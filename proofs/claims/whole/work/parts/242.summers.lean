/-! ===== SUMMERS ===== -/
theorem CfC.smx {S : LA → Nat → Bool} {D D' : Dt} {q : Nat} {c : Cf} (h : CfC D q c) (hs : Sm S D D') (e8 : ∀ k, k < 6 → S (8, q, 0, 0) k = false) (e5 : ∀ x a b k, S (5, x, a, b) k = false) (e3 : ∀ j a k, a < 8 → S (3, j, a, 0) k = false) : CfC D' q c := by
  obtain ⟨x, h1, h2, h3, h4, h5, h6, h7, h8, h9, h10, h11⟩ := h
  refine ⟨x, ?_, h2, h3, ?_, ?_, ?_, ?_, ?_, ?_, ?_, ?_⟩
  · rw [hs.r (e8 0 (by decide)), h1]
  · rw [hs.i (e5 _ _ _ _), h4]
  · rw [hs.i (e5 _ _ _ _), h5]
  · intro k v hk hv
    rw [hs.i (e5 _ _ _ _), hs.i (e5 _ _ _ _)]
    exact h6 k v hk hv
  · rcases h7 with ⟨a, b⟩ | ⟨j, R, a, b, d, e, f⟩
    · exact Or.inl ⟨a, by rw [hs.r (e8 1 (by decide)), b]⟩
    · exact Or.inr ⟨j, R, a, by rw [hs.r (e8 1 (by decide)), b], d, e, f.sm hs (fun q' k hq => e3 j q' k hq)⟩
  · rw [hs.i (e8 2 (by decide)), h8]
  · rw [hs.i (e8 3 (by decide)), h9]
  · rw [hs.i (e8 4 (by decide)), h10]
  · rw [hs.i (e8 5 (by decide)), h11]
theorem qc_one {A : Al} {D D' : Dt} {c : Cf} {i : Nat} {s : St} (h : QC A D c i s) (m : Sm (fun la _ => la.1 == 1) D D') : QC A D' c i s := by
  refine ⟨h.1.scr (m.mono (fun la k e => ?_)), h.2.1.smx m (fun k _ => by simp) (fun _ _ _ _ => by simp) (fun _ _ _ _ => by simp), ?_, ?_⟩
  · simp only [qS, Bool.or_eq_false_iff] at e
    exact e.1.1.2
  · rw [m.i (by simp)]; exact h.2.2.1
  · rw [rdS_sm m (fun q k => by simp)]; exact h.2.2.2
def nxD (x : Nat) : Nat := (x * 1103515245 + 12345) % 2 ^ 31
theorem nxD_b (x : Nat) : nxD x < 2147483648 := Nat.mod_lt _ (by decide)
theorem c_next {x : Nat} {D : Dt} (h : x < 2147483648) : F_X1_nextDrawn (nI x) D = some (nI (nxD x), D) := by
  rw [F_X1_nextDrawn, nI_l h, show (1103515245 : Int64) = lN 1103515245 from rfl, lN_mul, show (12345 : Int64) = lN 12345 from rfl, lN_add, show (2147483647 : Int64) = lN (2 ^ 31 - 1) from rfl, fb_maskL, lN_i]
  rfl
theorem sh16 {y : Nat} (h : y < 2147483648) : nI y >>> ((16 : Int32) &&& 31) = nI (y / 65536) := pk_shrN h _ 16 (by decide)
theorem r_draws {x m : Nat} {D : Dt} (h : x < 2147483648) (hm : 0 < m) (hm2 : m < 1000) (hx : D.1 (11, 0, 2, 0) 7 = nI x) : F_X11_draws (nI m) D = some (nI (nxD x / 65536 % m), setI D (11, 0, 2, 0) 7 (nI (nxD x))) := by
  have hb := nxD_b x
  rw [F_X11_draws, hx, nI_l h, show (1103515245 : Int64) = lN 1103515245 from rfl, lN_mul, show (12345 : Int64) = lN 12345 from rfl, lN_add, show (2147483648 : Int64) = lN (2 ^ 31) from rfl, pk_lRem (by omega) (by decide) (by decide), lN_i, show (x * 1103515245 + 12345) % 2 ^ 31 = nxD x from rfl, bnd_e, grd_t (nI_ne0 hm (by omega)), gI_s, show (65536 : Int32) = nI 65536 from rfl, pk_div hb (by decide) (by decide), pk_rem (by omega) hm (by omega)]
def suD (N p x : Nat) (s : St) : Nat × St := if p ≤ nxD x / 65536 % 100 ∨ N = 0 then (nxD x, s) else (nxD (nxD x), pAddS s (nxD (nxD x) / 65536 % N) 1)
def su1 (c : Cf) (p : Nat) (y : Nat × St × Int32) : Nat × St × Int32 := ((suD (cfN c) p y.1 y.2.1).1, wS c (suD (cfN c) p y.1 y.2.1).2, y.2.2 + wN c (suD (cfN c) p y.1 y.2.1).2)
theorem itr_c {σ : Type} {f : σ → σ} {s : σ} : ∀ n, itr (fun _ => f) (n + 1) s = itr (fun _ => f) n (f s)
  | 0 => rfl
  | n + 1 => by rw [itr, itr_c n]; rfl
theorem suD_ok {N p x w : Nat} {s : St} (hN : N ≤ 5) (hg : Gd N s) (hw : s 5 1 = nI w) : (suD N p x s).1 < 2147483648 ∧ Gd N (suD N p x s).2 ∧ (suD N p x s).2 5 1 = nI w := by
  unfold suD
  by_cases c : p ≤ nxD x / 65536 % 100 ∨ N = 0
  · rw [if_pos c]
    exact ⟨nxD_b x, hg, hw⟩
  · rw [if_neg c]
    refine ⟨nxD_b _, hg.addS (Nat.mod_lt _ (by omega)) ⟨by decide, by decide⟩, ?_⟩
    show pAddS s (nxD (nxD x) / 65536 % N) 1 5 1 = _
    rw [pAddS, up_n (by omega), hw]
theorem su1_ok {c : Cf} {p w : Nat} {y : Nat × St × Int32} (hc : CfOk c) (hg : Gd (cfN c) y.2.1) (hw : y.2.1 5 1 = nI w) : (su1 c p y).1 < 2147483648 ∧ Gd (cfN c) (su1 c p y).2.1 ∧ (su1 c p y).2.1 5 1 = nI (w + 1) := by
  obtain ⟨a1, a2, a3⟩ := suD_ok (p := p) (x := y.1) hc.1 hg hw
  exact ⟨a1, a2.wS hc, wS_wk a3⟩
theorem itS_ok {c : Cf} {p : Nat} (hc : CfOk c) : ∀ n (w : Nat) (y : Nat × St × Int32), y.1 < 2147483648 → Gd (cfN c) y.2.1 → y.2.1 5 1 = nI w → (itr (fun _ => su1 c p) n y).1 < 2147483648 ∧ Gd (cfN c) (itr (fun _ => su1 c p) n y).2.1
  | 0, _, _, h, hg, _ => ⟨h, hg⟩
  | n + 1, w, y, h, hg, hw => by
    obtain ⟨a1, a2, a3⟩ := su1_ok (p := p) hc hg hw
    rw [itr_c]
    exact itS_ok hc n (w + 1) _ a1 a2 a3
theorem c_su108 {A : Al} {c : Cf} {a1 a2 a3 l1 l2 l3 l4 l5 : Int32} {kk : Int32 → Int32 → Int32 → Int32 → Int32 → Int32 → Dt → Option Dt} {j w : Nat} {D : Dt} {s : St} (h : QC A D c 105 s) (hch : cfC c = -1) (hw : s 5 1 = nI w) (hw2 : w < 100000) : ∃ D', F_X1_drawSummers_b108 a1 a2 a3 kk l1 l2 l3 l4 l5 (nI j) D = kk l1 l2 l3 l4 l5 (nI (j + 1)) D' ∧ QC A D' c 105 (wS c s) ∧ D'.1 (1, 0, 0, 0) 10 = D.1 (1, 0, 0, 0) 10 + wN c s ∧ D'.1 (1, 0, 0, 0) 11 = D.1 (1, 0, 0, 0) 11 ∧ Sm qS D D' := by
  obtain ⟨D1, e1, q1, m1⟩ := qc_pass (by decide) (by decide) h hch hw hw2
  rw [F_X1_drawSummers_b108, e1, cbd_s, bnd_e, bnd_e, nI_1]
  have m2 : Sm (fun la _ => la.1 == 1) D1 (setI D1 (1, 0, 0, 0) 10 (D.1 (1, 0, 0, 0) 10 + wN c s)) := Sm.sI (by simp)
  refine ⟨_, rfl, qc_one q1 m2, gI_s, ?_, (we_q (by decide) m1).trans (Sm.sI (by simp [qS]))⟩
  rw [gI, if_neg (by simp), m1.i (by simp [weS])]
theorem c_suLoop {A : Al} {c : Cf} {a1 a2 a3 l1 l5 : Int32} {kk : Int32 → Int32 → Int32 → Int32 → Int32 → Dt → Option Dt} {n p w : Nat} (hok : CfOk c) (hcN : cfN c = shN (woH (alW A))) (hch : cfC c = -1) (hn : n ≤ 60) (hp : p ≤ 100) (hw : w ≤ 999) : ∀ (m fu j : Nat) (E : Dt) (y : Nat × St × Int32), j + m = n → m < fu → QC A E c 105 y.2.1 → y.1 < 2147483648 → Gd (cfN c) y.2.1 → y.2.1 5 1 = nI (w + j) → E.1 (1, 0, 0, 0) 10 = y.2.2 → ∃ D', F_X1_drawSummers_b39 a1 a2 a3 kk fu l1 (nI n) (nI p) (nI y.1) l5 (nI j) E = kk l1 (nI n) (nI p) (nI (itr (fun _ => su1 c p) m y).1) l5 D' ∧ QC A D' c 105 (itr (fun _ => su1 c p) m y).2.1 ∧ D'.1 (1, 0, 0, 0) 10 = (itr (fun _ => su1 c p) m y).2.2 ∧ D'.1 (1, 0, 0, 0) 11 = E.1 (1, 0, 0, 0) 11 ∧ Sm qS E D' := by
  have h5 := hok.1
  intro m
  induction m with
  | zero =>
    intro fu j E y hj hf h hy hg hwk h10
    obtain ⟨fu, rfl⟩ : ∃ g, fu = g + 1 := ⟨fu - 1, by omega⟩
    rw [F_X1_drawSummers_b39, if_pos (nI_le (by omega) (by omega))]
    exact ⟨E, rfl, h, h10, rfl, Sm.refl⟩
  | succ m ih =>
    intro fu j E y hj hf h hy hg hwk h10
    obtain ⟨fu, rfl⟩ : ∃ g, fu = g + 1 := ⟨fu - 1, by omega⟩
    have hb := nxD_b y.1
    have hb2 := nxD_b (nxD y.1)
    have hlt : nxD y.1 / 65536 % 100 < 100 := Nat.mod_lt _ (by decide)
    obtain ⟨o1, o2, o3⟩ := suD_ok (p := p) (x := y.1) hok.1 hg hwk
    obtain ⟨u1, u2, u3⟩ := su1_ok (p := p) hok hg hwk
    rw [F_X1_drawSummers_b39, if_neg (nI_ge (by omega) (by omega)), c_next hy, cbd_s, sh16 hb, show (100 : Int32) = nI 100 from rfl, pk_rem (by omega) (by decide) (by decide), h.1.n, ← hcN]
    have fin : ∀ E1 : Dt, QC A E1 c 105 (suD (cfN c) p y.1 y.2.1).2 → E1.1 (1, 0, 0, 0) 10 = y.2.2 → E1.1 (1, 0, 0, 0) 11 = E.1 (1, 0, 0, 0) 11 → Sm qS E E1 → ∃ D', F_X1_drawSummers_b108 a1 a2 a3 (fun l1_17 l2_18 l3_19 l4_20 l5_21 l6_22 D23 => (F_X1_drawSummers_b39 a1 a2 a3 kk fu l1_17 l2_18 l3_19 l4_20 l5_21 l6_22 D23)) l1 (nI n) (nI p) (nI (suD (cfN c) p y.1 y.2.1).1) l5 (nI j) E1 = kk l1 (nI n) (nI p) (nI (itr (fun _ => su1 c p) (m + 1) y).1) l5 D' ∧ QC A D' c 105 (itr (fun _ => su1 c p) (m + 1) y).2.1 ∧ D'.1 (1, 0, 0, 0) 10 = (itr (fun _ => su1 c p) (m + 1) y).2.2 ∧ D'.1 (1, 0, 0, 0) 11 = E.1 (1, 0, 0, 0) 11 ∧ Sm qS E D' := by
      intro E1 q1 x10 x11 s1
      obtain ⟨E2, e2, q2, y10, y11, s2⟩ := c_su108 (a1 := a1) (a2 := a2) (a3 := a3) (l1 := l1) (l2 := nI n) (l3 := nI p) (l4 := nI (suD (cfN c) p y.1 y.2.1).1) (l5 := l5) (j := j) (kk := fun l1_17 l2_18 l3_19 l4_20 l5_21 l6_22 D23 => (F_X1_drawSummers_b39 a1 a2 a3 kk fu l1_17 l2_18 l3_19 l4_20 l5_21 l6_22 D23)) q1 hch o3 (by omega)
      obtain ⟨E3, e3, q3, z10, z11, s3⟩ := ih fu (j + 1) E2 (su1 c p y) (by omega) (by omega) q2 u1 u2 (by rw [u3]; rfl) (by rw [y10, x10]; rfl)
      rw [itr_c]
      exact ⟨E3, by rw [e2]; exact e3, q3, z10, by rw [z11, y11, x11], (s1.trans s2).trans s3⟩
    by_cases c1 : p ≤ nxD y.1 / 65536 % 100
    · have hs : suD (cfN c) p y.1 y.2.1 = (nxD y.1, y.2.1) := by unfold suD; rw [if_pos (Or.inl c1)]
      rw [if_pos (nI_le c1 (by omega))]
      rw [hs] at fin
      exact fin E h h10 rfl Sm.refl
    · rw [if_neg (nI_ge (by omega) (by omega))]
      by_cases c2 : cfN c = 0
      · have hs : suD (cfN c) p y.1 y.2.1 = (nxD y.1, y.2.1) := by unfold suD; rw [if_pos (Or.inr c2)]
        rw [if_pos (by rw [c2]; decide)]
        rw [hs] at fin
        exact fin E h h10 rfl Sm.refl
      · have hs : suD (cfN c) p y.1 y.2.1 = (nxD (nxD y.1), pAddS y.2.1 (nxD (nxD y.1) / 65536 % cfN c) 1) := by unfold suD; rw [if_neg (by rintro (x | x); exact c1 x; exact c2 x)]
        have hk : nxD (nxD y.1) / 65536 % cfN c < cfN c := Nat.mod_lt _ (by omega)
        rw [if_neg (nI_nle (by omega) (by omega)), c_next hb, cbd_s, h.1.n, ← hcN, grd_t (nI_ne0 (by omega) (by omega)), sh16 hb2, pk_rem (by omega) (by omega) (by omega)]
        obtain ⟨E1, e1, r1, m1⟩ := c_addSun (D := E) (i := 105) (k := nxD (nxD y.1) / 65536 % cfN c) (v := 1) (V6 (by decide)) (by omega)
        have q1 := qc_st (by decide) h m1 r1
        rw [h.2.2.2] at q1
        rw [e1, vbd_s]
        rw [hs] at fin
        exact fin E1 q1 (by rw [m1.i (by simp [stS])]; exact h10) (m1.i (by simp [stS])) (st_q (by decide) m1)
theorem qg_d {A : Al} {D0 D : Dt} {f h i c o d v : Int32} {s : St} (g : QG A D0 D f h i c o d s) : QG A D0 (setI D (11, 0, 2, 0) 7 v) f h i c o v s := by
  obtain ⟨g1, g2, g3, g4, g5, g6, g7, g8, g9, g10⟩ := g
  have m : Sm (fun la k => la == (11, 0, 2, 0) && k == 7) D (setI D (11, 0, 2, 0) 7 v) := Sm.sI (by simp)
  refine ⟨g1, g2.trans (Sm.sI (by simp [qmS])), fun q k hq hk => ?_, ?_, ?_, ?_, ?_, ?_, ?_, gI_s⟩
  · rw [m.i (by simp)]; exact g3 q k hq hk
  · rw [m.i (by simp)]; exact g4
  · rw [m.i (by simp)]; exact g5
  · rw [m.i (by simp)]; exact g6
  · rw [m.i (by simp)]; exact g7
  · rw [m.i (by simp)]; exact g8
  · rw [rdM_sm m (fun q k _ _ => by simp) (fun k hk => by have : ¬ k = 4 := by omega
                                                          simp [this])]; exact g9
theorem r_drawsSun {A : Al} {D0 D : Dt} {f h i o : Int32} {s : St} {x p : Nat} (hA : okA A) (hx : x < 2147483648) (hp : p ≤ 100) (g : QG A D0 D f h i (-1) o (nI x) s) : ∃ D', F_X11_drawsSun (nI p) D = some D' ∧ QG A D0 D' f h i (-1) o (nI (suD (shN (woH (alW A))) p x s).1) (suD (shN (woH (alW A))) p x s).2 := by
  have hn := hA.1.1
  have hb := nxD_b x
  have hlt : nxD x / 65536 % 100 < 100 := Nat.mod_lt _ (by decide)
  have g1 := qg_d (v := nI (nxD x)) g
  rw [F_X11_drawsSun, show (100 : Int32) = nI 100 from rfl, r_draws hx (by decide) (by decide) g.2.2.2.2.2.2.2.2.2, cbd_s, qg_n g1]
  generalize hD1 : setI D (11, 0, 2, 0) 7 (nI (nxD x)) = D1 at g1
  by_cases c1 : p ≤ nxD x / 65536 % 100
  · have hs : suD (shN (woH (alW A))) p x s = (nxD x, s) := by unfold suD; rw [if_pos (Or.inl c1)]
    rw [if_pos (nI_le c1 (by omega)), hs]
    exact ⟨D1, rfl, g1⟩
  · rw [if_neg (nI_ge (by omega) (by omega))]
    by_cases c2 : shN (woH (alW A)) = 0
    · have hs : suD (shN (woH (alW A))) p x s = (nxD x, s) := by unfold suD; rw [if_pos (Or.inr c2)]
      rw [hs, if_pos (by rw [c2]; decide)]
      exact ⟨D1, rfl, g1⟩
    · have hs : suD (shN (woH (alW A))) p x s = (nxD (nxD x), pAddS s (nxD (nxD x) / 65536 % shN (woH (alW A))) 1) := by unfold suD; rw [if_neg (by rintro (y | y); exact c1 y; exact c2 y)]
      have hk : nxD (nxD x) / 65536 % shN (woH (alW A)) < shN (woH (alW A)) := Nat.mod_lt _ (by omega)
      rw [hs, if_neg (nI_nle (by omega) (by omega)), r_draws hb (by omega) (by omega) g1.2.2.2.2.2.2.2.2.2, cbd_s, grd_t (inBe (by omega) (by decide)), nIc (by omega), r_upTo, cbd_s, bnd_e]
      have g2 := qg_d (v := nI (nxD (nxD x))) g1
      generalize setI D1 (11, 0, 2, 0) 7 (nI (nxD (nxD x))) = D2 at g2 ⊢
      refine ⟨_, rfl, qg_st g2 (Sm.sI (stM_r 0 (by decide) (by decide))) ?_⟩
      rw [mw_sun (by omega), m_sun (by omega), show rdM D2 = s from g2.2.2.2.2.2.2.2.2.1]
      rfl
theorem r_suLoop {A : Al} {D0 : Dt} {f o a1 a2 a3 a4 l1 l4 l5 l7 l9 : Int32} {kk : Int32 → Int32 → Int32 → Int32 → Int32 → Int32 → Int32 → Int32 → Dt → Option (Int32 × Dt)} {n p w : Nat} (hA : okA A) (hf : isF A f) (hn : n ≤ 60) (hp : p ≤ 100) (hw : w ≤ 999) : ∀ (m fu j : Nat) (E : Dt) (y : Nat × St × Int32), j + m = n → m < fu → QG A D0 E f 0 0 (-1) o (nI y.1) y.2.1 → y.1 < 2147483648 → Gd (shN (woH (alW A))) y.2.1 → y.2.1 5 1 = nI (w + j) → ∃ D', F_X11_summers_b100 a1 a2 a3 a4 kk fu l1 (nI n) (nI p) l4 l5 l7 y.2.2 l9 (nI j) E = kk l1 (nI n) (nI p) l4 l5 l7 (itr (fun _ => su1 (cfX A f 0 0 (-1) o) p) m y).2.2 l9 D' ∧ QG A D0 D' f 0 0 (-1) o (nI (itr (fun _ => su1 (cfX A f 0 0 (-1) o) p) m y).1) (itr (fun _ => su1 (cfX A f 0 0 (-1) o) p) m y).2.1 := by
  intro m
  induction m with
  | zero =>
    intro fu j E y hj hf' g hy hg hwk
    obtain ⟨fu, rfl⟩ : ∃ g, fu = g + 1 := ⟨fu - 1, by omega⟩
    rw [F_X11_summers_b100, if_pos (nI_le (by omega) (by omega))]
    exact ⟨E, rfl, g⟩
  | succ m ih =>
    intro fu j E y hj hf' g hy hg hwk
    obtain ⟨fu, rfl⟩ : ∃ g, fu = g + 1 := ⟨fu - 1, by omega⟩
    obtain ⟨o1, o2, o3⟩ := suD_ok (p := p) (x := y.1) hA.1.1 hg hwk
    obtain ⟨u1, u2, u3⟩ := su1_ok (c := cfX A f 0 0 (-1) o) (p := p) (y := y) (cfX_ok hA) hg hwk
    obtain ⟨E1, e1, g1⟩ := r_drawsSun hA hy hp g
    obtain ⟨E2, e2, g2⟩ := qg_goes hA hf g1 o2 o3 (by omega)
    rw [F_X11_summers_b100, if_neg (nI_ge (by omega) (by omega)), e1, vbd_s, e2, cbd_s, bnd_e, bnd_e, nI_1]
    obtain ⟨E3, e3, g3⟩ := ih fu (j + 1) E2 (su1 (cfX A f 0 0 (-1) o) p y) (by omega) (by omega) g2 u1 u2 u3
    rw [itr_c]
    exact ⟨E3, e3, g3⟩
def suO (c : Cf) (p n : Nat) (s : St) (z : Nat × Int32 × Int32) : Nat × Int32 × Int32 := ((itr (fun _ => su1 c p) n (z.1, s, z.2.2)).1, z.2.1 + totS (itr (fun _ => su1 c p) n (z.1, s, z.2.2)).2.1 3, (itr (fun _ => su1 c p) n (z.1, s, z.2.2)).2.2)
theorem p_summers (a b v u : Int32) : Cal (F_X10_summers a b v u) (F_X11_summers a b v u) := by
  refine cal_of (fun A hA => ?_)
  have hn := hA.1.1
  by_cases ht : (woH (alW A)).1 = true
  · by_cases c1 : (1 : Int32) ≤ a ∧ a ≤ 10
    · obtain ⟨M, hM, rfl⟩ := nI_of2 (x := a) (M := 10) (n := 10) rfl (fun g => by have := c1.1; rw [fa_lt] at g; rw [fa_le] at this; have : (0 : Int32).toInt = 0 := rfl; have : (1 : Int32).toInt = 1 := rfl; omega) c1.2
      by_cases c2 : (1 : Int32) ≤ b ∧ b ≤ 60
      · obtain ⟨n, hn2, rfl⟩ := nI_of2 (x := b) (M := 60) (n := 60) rfl (fun g => by have := c2.1; rw [fa_lt] at g; rw [fa_le] at this; have : (0 : Int32).toInt = 0 := rfl; have : (1 : Int32).toInt = 1 := rfl; omega) c2.2
        by_cases c3 : (0 : Int32) ≤ v ∧ v ≤ 100
        · obtain ⟨p, hp, rfl⟩ := nI_of2 (x := v) (M := 100) (n := 100) rfl (fun g => (fa_of_lt g).2.1 c3.1) c3.2
          by_cases c4 : (0 : Int32) ≤ u ∧ u ≤ 1
          · obtain ⟨w, hw, ew⟩ := wk0 hA
            obtain ⟨x0, hx0, ex0⟩ := nI_of (x := woD (alW A)) (fun g => (fa_of_lt g).2.1 hA.1.2.2.2.2.2.2.2.2.2.2)
            have hzb : ∀ m, (itr (fun _ => suO (cf0 A) p n (woS (alW A))) m (x0, 0, 0)).1 < 2147483648 := by
              intro m
              induction m with
              | zero => exact hx0
              | succ m ih => exact (itS_ok (c := cf0 A) (cfX_ok hA) n w (_, woS (alW A), _) ih (gd0 hA) ew).1
            refine cal_ask hA (if u = 0 then (itr (fun _ => suO (cf0 A) p n (woS (alW A))) M (x0, 0, 0)).2.1 else (itr (fun _ => suO (cf0 A) p n (woS (alW A))) M (x0, 0, 0)).2.2) (fun D h => ?_) (fun D h => ?_)
            · have s0 : Sm qS D (setI (setI D (1, 0, 0, 0) 11 0) (1, 0, 0, 0) 10 0) := (Sm.sI (by simp [qS])).trans (Sm.sI (by simp [qS]))
              rw [F_X10_summers, c_isSpan h, cbd_s, i1t ⟨ht, c2⟩, c_within, cbd_s, i1t c1, c_within, cbd_s, i1t c3, c_within, cbd_s, i1t c4, F_X1_drawSummers, bnd_e, bnd_e, bnd_e, h.1.2.2.2.2.2.2.2.2.2, ex0]
              have key : ∀ (m fu j : Nat) (E : Dt), j + m = M → m < fu → RC E A → E.1 (1, 0, 0, 0) 11 = (itr (fun _ => suO (cf0 A) p n (woS (alW A))) j (x0, 0, 0)).2.1 → E.1 (1, 0, 0, 0) 10 = (itr (fun _ => suO (cf0 A) p n (woS (alW A))) j (x0, 0, 0)).2.2 → ∃ D', F_X1_drawSummers_b22 (nI M) (nI n) (nI p) fu (nI M) (nI n) (nI p) (nI (itr (fun _ => suO (cf0 A) p n (woS (alW A))) j (x0, 0, 0)).1) (nI j) E = some D' ∧ D'.1 (1, 0, 0, 0) 11 = (itr (fun _ => suO (cf0 A) p n (woS (alW A))) M (x0, 0, 0)).2.1 ∧ D'.1 (1, 0, 0, 0) 10 = (itr (fun _ => suO (cf0 A) p n (woS (alW A))) M (x0, 0, 0)).2.2 ∧ Sm qS E D' := by
                intro m
                induction m with
                | zero =>
                  intro fu j E hj hf h h11 h10
                  obtain ⟨fu, rfl⟩ : ∃ g, fu = g + 1 := ⟨fu - 1, by omega⟩
                  have : j = M := by omega
                  subst this
                  rw [F_X1_drawSummers_b22, if_pos (nI_le (Nat.le_refl _) (by omega))]
                  exact ⟨E, rfl, h11, h10, Sm.refl⟩
                | succ m ih =>
                  intro fu j E hj hf h h11 h10
                  obtain ⟨fu, rfl⟩ : ∃ g, fu = g + 1 := ⟨fu - 1, by omega⟩
                  have hz := hzb j
                  generalize hZ : itr (fun _ => suO (cf0 A) p n (woS (alW A))) j (x0, 0, 0) = Z at h11 h10 hz
                  have hZ1 : itr (fun _ => suO (cf0 A) p n (woS (alW A))) (j + 1) (x0, 0, 0) = suO (cf0 A) p n (woS (alW A)) Z := by rw [itr, hZ]
                  obtain ⟨D1, e1, q1, s1, _, k1⟩ := qc_startx hA ht h
                  rw [F_X1_drawSummers_b22, if_neg (nI_ge (by omega) (by omega)), e1, vbd_s]
                  obtain ⟨D2, e2, q2, y10, y11, s2⟩ := c_suLoop (A := A) (c := cf0 A) (a1 := nI M) (a2 := nI n) (a3 := nI p) (l1 := nI M) (l5 := nI j) (p := p) (w := w) (n := n) (kk := (fun l1_45 l2_46 l3_47 l4_48 l5_49 D50 => (cbd (F_X10_total (6, 105, 4, 0) D50) (fun r52 D53 => (bnd (setI D53 (1, 0, 0, 0) 11 ((D50.1 (1, 0, 0, 0) 11) + r52)) (fun D54 => (bnd (l5_49 + (1 : Int32)) (fun v55 => (F_X1_drawSummers_b22 (nI M) (nI n) (nI p) fu l1_45 l2_46 l3_47 l4_48 v55 D54))))))))) (cfX_ok hA) rfl rfl hn2 hp hw n 2000 0 D1 (Z.1, woS (alW A), Z.2.2) (by omega) (by omega) q1 hz (gd0 hA) ew (by rw [k1 _ _ rfl]; exact h10)
                  have e2' := e2
                  simp only at e2'
                  rw [show (0 : Int32) = nI 0 from rfl, e2', show F_X10_total (6, 105, 4, 0) D2 = _ from c_totS 3 (V6 (by decide)) (by decide), cbd_s, bnd_e, bnd_e, nI_1, q2.2.2.2, y11, k1 _ _ rfl, h11]
                  have m3 : Sm qS D2 (setI D2 (1, 0, 0, 0) 11 (Z.2.1 + totS (itr (fun _ => su1 (cf0 A) p) n (Z.1, woS (alW A), Z.2.2)).2.1 3)) := Sm.sI (by simp [qS])
                  obtain ⟨D3, e3, z11, z10, s3⟩ := ih fu (j + 1) _ (by omega) (by omega) (q2.1.scr m3) (by rw [hZ1, gI_s]; rfl) (by rw [hZ1, gI, if_neg (by simp), y10]; rfl)
                  rw [hZ1] at e3
                  exact ⟨D3, e3, z11, z10, ((s1.trans s2).trans m3).trans s3⟩
              obtain ⟨D2, e2, z11, z10, s2⟩ := key M 2000 0 _ (by omega) (by omega) (h.scr s0) (by rw [gI, if_neg (by simp), gI_s]; rfl) (by rw [gI_s]; rfl)
              rw [show F_X1_drawSummers_b22 (nI M) (nI n) (nI p) 2000 (nI M) (nI n) (nI p) (nI x0) 0 _ = _ from e2, vbd_s, z11, z10]
              simp only [if_so]
              exact ⟨D2, rfl, s0.trans s2⟩
            · obtain ⟨D1, e1, g1⟩ := qg_start h
              have h7 : D.1 (11, 0, 2, 0) 7 = nI x0 := by rw [← ex0]; exact h.1.2.2.2.2.2.1
              rw [F_X11_summers, r_isTable, cbd_s]
              simp only [there_m hA h]
              rw [i1t ht, r_in_1_10, cbd_s, i1t c1, r_in_1_60, cbd_s, i1t c2, r_in_0_100, cbd_s, i1t c3, r_in_0_1, cbd_s, i1t c4, bnd_e, h7, e1, vbd_s]
              have key : ∀ (m fu j : Nat) (E : Dt), j + m = M → m < fu → QG A D E (woC (alW A)) 0 0 (-1) (-1) (woD (alW A)) (woS (alW A)) → ∃ D' o, F_X11_summers_b82 (nI M) (nI n) (nI p) u (fun l4_51 l5_52 l7_53 l8_54 D55 => (bnd (setI D55 (11, 0, 2, 0) 7 l5_52) (fun D56 => (if l4_51 = 0 then (some (l7_53, D56)) else (some (l8_54, D56)))))) fu (nI M) (nI n) (nI p) u (nI x0) (nI (itr (fun _ => suO (cf0 A) p n (woS (alW A))) j (x0, 0, 0)).1) (itr (fun _ => suO (cf0 A) p n (woS (alW A))) j (x0, 0, 0)).2.1 (itr (fun _ => suO (cf0 A) p n (woS (alW A))) j (x0, 0, 0)).2.2 (nI j) E = some ((if u = 0 then (itr (fun _ => suO (cf0 A) p n (woS (alW A))) M (x0, 0, 0)).2.1 else (itr (fun _ => suO (cf0 A) p n (woS (alW A))) M (x0, 0, 0)).2.2), D') ∧ QG A D D' (woC (alW A)) 0 0 (-1) o (woD (alW A)) (woS (alW A)) := by
                intro m
                induction m with
                | zero =>
                  intro fu j E hj hf g
                  obtain ⟨fu, rfl⟩ : ∃ g, fu = g + 1 := ⟨fu - 1, by omega⟩
                  have : j = M := by omega
                  subst this
                  rw [F_X11_summers_b82, if_pos (nI_le (Nat.le_refl _) (by omega)), bnd_e, ← ex0]
                  simp only [if_so]
                  exact ⟨_, _, rfl, qg_d g⟩
                | succ m ih =>
                  intro fu j E hj hf g
                  obtain ⟨fu, rfl⟩ : ∃ g, fu = g + 1 := ⟨fu - 1, by omega⟩
                  have hz := hzb j
                  generalize hZ : itr (fun _ => suO (cf0 A) p n (woS (alW A))) j (x0, 0, 0) = Z at hz
                  have hZ1 : itr (fun _ => suO (cf0 A) p n (woS (alW A))) (j + 1) (x0, 0, 0) = suO (cf0 A) p n (woS (alW A)) Z := by rw [itr, hZ]
                  have g2 := qg_d (v := nI Z.1) g
                  rw [F_X11_summers_b82, if_neg (nI_ge (by omega) (by omega)), bnd_e]
                  obtain ⟨E3, e3, g3⟩ := r_suLoop (A := A) (D0 := D) (f := woC (alW A)) (o := -1) (a1 := nI M) (a2 := nI n) (a3 := nI p) (a4 := u) (l1 := nI M) (l4 := u) (l5 := nI x0) (l7 := Z.2.1) (l9 := nI j) (p := p) (w := w) (n := n) (kk := (fun l1_34 l2_35 l3_36 l4_37 l5_38 l7_39 l8_40 l9_41 D42 => (cbd (F_X11_allOf (11, 0, 6, 0) D42) (fun r44 D45 => (bnd (l7_39 + r44) (fun v46 => (bnd (D45.1 (11, 0, 2, 0) 7) (fun v47 => (vbd (F_X11_laysBack  D45) (fun D49 => (bnd (l9_41 + (1 : Int32)) (fun v50 => (F_X11_summers_b82 (nI M) (nI n) (nI p) u (fun l4_51 l5_52 l7_53 l8_54 D55 => (bnd (setI D55 (11, 0, 2, 0) 7 l5_52) (fun D56 => (if l4_51 = 0 then (some (l7_53, D56)) else (some (l8_54, D56)))))) fu l1_34 l2_35 l3_36 l4_37 l5_38 v47 v46 l8_40 v50 D49))))))))))))) hA (okF hA) hn2 hp hw n 2000 0 _ (Z.1, woS (alW A), Z.2.2) (by omega) (by omega) g2 hz (gd0 hA) ew
                  obtain ⟨E4, e4, g4⟩ := qg_lays g3
                  have hs3 : rdM E3 = _ := g3.2.2.2.2.2.2.2.2.1
                  have hd3 : E3.1 (11, 0, 2, 0) 7 = _ := g3.2.2.2.2.2.2.2.2.2
                  have hgd := (itS_ok (c := cf0 A) (p := p) (cfX_ok hA) n w (Z.1, woS (alW A), Z.2.2) hz (gd0 hA) ew).2
                  rw [show F_X11_summers_b100 (nI M) (nI n) (nI p) u _ 2000 (nI M) (nI n) (nI p) u (nI x0) Z.2.1 Z.2.2 (nI j) 0 _ = _ from e3]
                  rw [show F_X11_allOf (11, 0, 6, 0) E3 = _ from r_totS 3 (by decide) hA.1.1 (qg_n g3) (by rw [hs3]; exact hgd), cbd_s, bnd_e, bnd_e, e4, vbd_s, bnd_e, nI_1, hs3, hd3]
                  have := ih fu (j + 1) E4 (by omega) (by omega) g4
                  rw [hZ1] at this
                  exact this
              exact key M 2000 0 D1 (by omega) (by omega) g1
          · refine cal_no hA (-1) (fun D h => ?_) (fun D h => ?_)
            · rw [F_X10_summers, c_isSpan h, cbd_s, i1t ⟨ht, c2⟩, c_within, cbd_s, i1t c1, c_within, cbd_s, i1t c3, c_within, cbd_s, i1f c4]
            · rw [F_X11_summers, r_isTable, cbd_s]
              simp only [there_m hA h]
              rw [i1t ht, r_in_1_10, cbd_s, i1t c1, r_in_1_60, cbd_s, i1t c2, r_in_0_100, cbd_s, i1t c3, r_in_0_1, cbd_s, i1f c4]
        · refine cal_no hA (-1) (fun D h => ?_) (fun D h => ?_)
          · rw [F_X10_summers, c_isSpan h, cbd_s, i1t ⟨ht, c2⟩, c_within, cbd_s, i1t c1, c_within, cbd_s, i1f c3]
          · rw [F_X11_summers, r_isTable, cbd_s]
            simp only [there_m hA h]
            rw [i1t ht, r_in_1_10, cbd_s, i1t c1, r_in_1_60, cbd_s, i1t c2, r_in_0_100, cbd_s, i1f c3]
      · refine cal_no hA (-1) (fun D h => ?_) (fun D h => ?_)
        · rw [F_X10_summers, c_isSpan h, cbd_s, i1f (fun x => c2 x.2)]
        · rw [F_X11_summers, r_isTable, cbd_s]
          simp only [there_m hA h]
          rw [i1t ht, r_in_1_10, cbd_s, i1t c1, r_in_1_60, cbd_s, i1f c2]
    · refine cal_no hA (-1) (fun D h => ?_) (fun D h => ?_)
      · rw [F_X10_summers, c_isSpan h, cbd_s]
        by_cases c2 : (1 : Int32) ≤ b ∧ b ≤ 60
        · rw [i1t ⟨ht, c2⟩, c_within, cbd_s, i1f c1]
        · rw [i1f (fun x => c2 x.2)]
      · rw [F_X11_summers, r_isTable, cbd_s]
        simp only [there_m hA h]
        rw [i1t ht, r_in_1_10, cbd_s, i1f c1]
  · refine cal_no hA (-1) (fun D h => ?_) (fun D h => ?_)
    · rw [F_X10_summers, c_isSpan h, cbd_s, i1f (fun x => ht x.1)]
    · rw [F_X11_summers, r_isTable, cbd_s]
      simp only [there_m hA h]
      rw [i1f ht]
