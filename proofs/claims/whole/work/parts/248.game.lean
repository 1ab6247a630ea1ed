/-! ===== GAME ===== -/
def gmI (x y : Nat) : Int32 := ((1 : Int32) <<< (nI x &&& 31)) ||| ((1 : Int32) <<< (nI y &&& 31))
def gmC (A : Al) (x y : Nat) : Cf := cfX A (woC (alW A)) 0 (gmI x y) (-1) (-1)
def gmV (f m : Bool) (no yes : Int32) : Int32 := if m = true then (if f = true then (if yes ≤ no then no else yes) else (if no ≤ yes then no else yes)) else no
def gmF (f m : Bool) (no yes : Int32) : Int32 := if m = true then (if f = true then (if yes ≤ no then 0 else 1) else (if no ≤ yes then 0 else 1)) else 0
def gmB (x y k : Nat) : Nat := if k % 2 = 0 then x else y
def gm (A : Al) (x y : Nat) : Nat → Nat → St → Int32
  | 0, _, s => s 3 x - s 3 y
  | r + 1, k, s => gmV (decide (k % 2 = 0)) (pMay s (gmB x y k) (gmB y x k)) (gm A x y r (k + 1) (wS (gmC A x y) s)) (gm A x y r (k + 1) (wS (gmC A x y) (pBuy s (gmB x y k) (gmB y x k))))
def vl (A : Al) (x y r : Nat) : Nat → Nat → St → Nat → Int32
  | 0, k, s, _ => gm A x y r k s
  | p + 1, k, s, c => if c / 2 ^ p % 2 = 1 then (if pMay s (gmB x y k) (gmB y x k) = true then vl A x y r p (k + 1) (wS (gmC A x y) (pBuy s (gmB x y k) (gmB y x k))) c else -100000) else vl A x y r p (k + 1) (wS (gmC A x y) s) c
def btr (f : Bool) (a b : Int32) : Int32 := if b = -100000 then a else if f = true then (if b ≤ a then a else b) else (if b ≤ a then b else a)
theorem gmB_lt {x y k N : Nat} (hx : x < N) (hy : y < N) : gmB x y k < N := by unfold gmB; split <;> assumption
theorem gm_b {A : Al} {x y : Nat} (hA : okA A) (hx : x < shN (woH (alW A))) (hy : y < shN (woH (alW A))) : ∀ r k s, Gd (shN (woH (alW A))) s → -9999 ≤ (gm A x y r k s).toInt ∧ (gm A x y r k s).toInt ≤ 9999
  | 0, k, s, h => by
    have h1 := (h.1 x).2.2.2
    have h2 := (h.1 y).2.2.2
    rw [gm, bw_sub h1 h2 (by decide) (by decide)]
    have := h1.1
    have := h1.2
    have := h2.1
    have := h2.2
    omega
  | r + 1, k, s, h => by
    have h1 := gm_b hA hx hy r (k + 1) _ (h.wS (c := gmC A x y) (cfX_ok hA))
    rw [gm, gmV]
    by_cases c : pMay s (gmB x y k) (gmB y x k) = true
    · have h2 := gm_b hA hx hy r (k + 1) _ ((h.buy (gmB_lt hx hy) (gmB_lt hy hx) c).wS (c := gmC A x y) (cfX_ok hA))
      rw [if_pos c]
      split
      · split
        · exact h1
        · exact h2
      · split
        · exact h1
        · exact h2
    · rw [if_neg c]
      exact h1
theorem gm_ne {A : Al} {x y : Nat} (hA : okA A) (hx : x < shN (woH (alW A))) (hy : y < shN (woH (alW A))) (r k : Nat) (s : St) (h : Gd (shN (woH (alW A))) s) : ¬ gm A x y r k s = -100000 := fun e => by
  have := (gm_b hA hx hy r k s h).1
  rw [e] at this
  exact absurd this (by decide)
theorem btr_gm {f : Bool} {no yes : Int32} (h : ¬ yes = -100000) : btr f no yes = gmV f true no yes := by
  unfold btr gmV
  rw [if_neg h]
  cases f with
  | true => simp only [if_true]
  | false =>
    simp only [Bool.false_eq_true, if_false, if_true]
    by_cases c1 : yes ≤ no
    · rw [if_pos c1]
      by_cases c2 : no ≤ yes
      · rw [if_pos c2]
        rw [fa_le] at c1 c2
        rw [fa_eq]
        omega
      · rw [if_neg c2]
    · rw [if_neg c1, if_pos]
      rw [fa_le] at *
      omega
theorem vl_s (A : Al) (x y r p k : Nat) (s : St) (c : Nat) : vl A x y r (p + 1) k s c = if c / 2 ^ p % 2 = 1 then (if pMay s (gmB x y k) (gmB y x k) = true then vl A x y r p (k + 1) (wS (gmC A x y) (pBuy s (gmB x y k) (gmB y x k))) c else -100000) else vl A x y r p (k + 1) (wS (gmC A x y) s) c := by rw [vl]
theorem vl_0 (A : Al) (x y r k : Nat) (s : St) (c : Nat) : vl A x y r 0 k s c = gm A x y r k s := by rw [vl]
theorem vl_red {A : Al} {x y r : Nat} (hA : okA A) (hx : x < shN (woH (alW A))) (hy : y < shN (woH (alW A))) : ∀ p q s c, Gd (shN (woH (alW A))) s → btr (decide ((q + p) % 2 = 0)) (vl A x y r (p + 1) q s (2 * c)) (vl A x y r (p + 1) q s (2 * c + 1)) = vl A x y (r + 1) p q s c
  | 0, q, s, c, h => by
    have e0 : 2 * c / 2 ^ 0 % 2 = 0 := by rw [Nat.pow_zero, Nat.div_one]; omega
    have e1 : (2 * c + 1) / 2 ^ 0 % 2 = 1 := by rw [Nat.pow_zero, Nat.div_one]; omega
    rw [vl_s A x y r 0 q s (2 * c), vl_s A x y r 0 q s (2 * c + 1), e0, e1, if_neg (by decide), if_pos rfl, vl_0, vl_0, vl_0, gm, Nat.add_zero]
    by_cases c1 : pMay s (gmB x y q) (gmB y x q) = true
    · rw [if_pos c1, c1]
      exact btr_gm (gm_ne hA hx hy _ _ _ ((h.buy (gmB_lt hx hy) (gmB_lt hy hx) c1).wS (c := gmC A x y) (cfX_ok hA)))
    · rw [if_neg c1, btr, if_pos rfl, gmV, if_neg c1]
  | p + 1, q, s, c, h => by
    have e0 : 2 * c / 2 ^ (p + 1) % 2 = c / 2 ^ p % 2 := by rw [Nat.pow_succ, Nat.mul_comm (2 ^ p) 2, Nat.mul_div_mul_left _ _ (by decide)]
    have e1 : (2 * c + 1) / 2 ^ (p + 1) % 2 = c / 2 ^ p % 2 := by rw [Nat.pow_succ, Nat.mul_comm (2 ^ p) 2, ← Nat.div_div_eq_div_mul, show (2 * c + 1) / 2 = c by omega]
    have ih := fun s h => vl_red (r := r) hA hx hy p (q + 1) s c h
    rw [show q + 1 + p = q + (p + 1) by omega] at ih
    rw [vl_s A x y r (p + 1) q s (2 * c), vl_s A x y r (p + 1) q s (2 * c + 1), vl_s A x y (r + 1) p q s c, e0, e1]
    by_cases c1 : c / 2 ^ p % 2 = 1
    · rw [if_pos c1, if_pos c1, if_pos c1]
      by_cases c2 : pMay s (gmB x y q) (gmB y x q) = true
      · rw [if_pos c2, if_pos c2, if_pos c2]
        exact ih _ ((h.buy (gmB_lt hx hy) (gmB_lt hy hx) c2).wS (c := gmC A x y) (cfX_ok hA))
      · rw [if_neg c2, if_neg c2, if_neg c2]
        rfl
    · rw [if_neg c1, if_neg c1, if_neg c1]
      exact ih _ (h.wS (c := gmC A x y) (cfX_ok hA))
/-! the class -/
def gmQ (A : Al) (D : Dt) (x y k : Nat) (s : St) : Prop := RC D A ∧ CfC D 1 (gmC A x y) ∧ D.1 (8, 1, 0, 0) 6 = 0 ∧ rdS D (106 + k) = s
def gmW (k : Nat) (D D' : Dt) : Prop := (∀ i, i ≤ k → rdS D' (106 + i) = rdS D (106 + i)) ∧ Sm qS D D'
theorem gmW.trans {k : Nat} {D D1 D2 : Dt} (h : gmW k D D1) (g : gmW k D1 D2) : gmW k D D2 := ⟨fun i hi => (g.1 i hi).trans (h.1 i hi), h.2.trans g.2⟩
theorem gm_w {k : Nat} {D D' : Dt} (m : Sm (weS 1 (106 + (k + 1))) D D') : gmW k D D' := ⟨fun i hi => rdS_sm m (fun q j => by simp [weS]; omega), we_q (by omega) m⟩
theorem c_play72 {A : Al} {D : Dt} {x y k n w r b sl : Nat} {s : St} {l6 : Int32} {rc : Int32 → Int32 → Int32 → Int32 → Dt → Option (Int32 × Dt)} (hA : okA A) (hb : b < shN (woH (alW A))) (hsl : sl < shN (woH (alW A))) (hk : k + 1 ≤ n) (hn : n ≤ 4) (hw : w ≤ 2000) (hg : Gd (shN (woH (alW A))) s) (hwk : s 5 1 = nI w) (hrc : ∀ E s, Gd (shN (woH (alW A))) s → s 5 1 = nI (w + 1) → gmQ A E x y (k + 1) s → ∃ D', rc (nI (k + 1)) (nI n) (nI x) (nI y) E = some (gm A x y r (k + 1) s, D') ∧ gmQ A D' x y (k + 1) s ∧ gmW (k + 1) E D') (h : gmQ A D x y k s) : ∃ D', F_X1_playOn_b72 rc (nI k) (nI n) (nI x) (nI y) (nI k) (nI n) (nI x) (nI y) l6 (nI b) (nI sl) D = some (gmV (decide (¬ l6 = 0)) (pMay s b sl) (gm A x y r (k + 1) (wS (gmC A x y) s)) (gm A x y r (k + 1) (wS (gmC A x y) (pBuy s b sl))), D') ∧ gmQ A D' x y k s ∧ gmW k D D' ∧ (k = 0 → D'.1 (1, 0, 0, 0) 10 = gmF (decide (¬ l6 = 0)) (pMay s b sl) (gm A x y r (k + 1) (wS (gmC A x y) s)) (gm A x y r (k + 1) (wS (gmC A x y) (pBuy s b sl)))) := by
  have h5 := hA.1.1
  have hVk : V (6, 106 + k, 0, 0) = true := V6 (by omega)
  have hV : V (6, 106 + (k + 1), 0, 0) = true := V6 (by omega)
  obtain ⟨h1, h2, h3, h4⟩ := h
  rw [F_X1_playOn_b72, nI_1, nIc (k := k) (by omega), nIc (k := k + 1) (by omega), grd_t hVk, grd_t (inBe (by omega) (by decide))]
  obtain ⟨D1, e1, r1, m1⟩ := c_copyFrom (D := D) (i := 106 + (k + 1)) (j := 106 + k) hV hVk
  rw [e1, vbd_s]
  have q1 : QC A D1 (gmC A x y) (106 + (k + 1)) s := ⟨h1.scr (st_q (by omega) m1), h2.sm (i := 106 + (k + 1)) (stS_we m1), by rw [m1.i stS_8]; exact h3, by rw [r1, h4]⟩
  obtain ⟨D2, e2, q2, m2⟩ := qc_pass (by omega) (by omega) q1 rfl hwk (by omega)
  rw [e2, cbd_s]
  have f2 : gmW k D D2 := (gm_w (stS_we m1)).trans (gm_w m2)
  obtain ⟨D3, e3, ⟨u1, u2, u3, u4⟩, f3⟩ := hrc D2 (wS (gmC A x y) s) (hg.wS (c := gmC A x y) (cfX_ok hA)) (wS_wk hwk) q2
  rw [e3, cbd_s]
  have f3' : gmW k D D3 := f2.trans ⟨fun i hi => f3.1 i (by omega), f3.2⟩
  have r3 : rdS D3 (106 + k) = s := by rw [f3'.1 k (Nat.le_refl _)]; exact h4
  rw [c_mayBuy hVk (by omega) (by omega), cbd_s, r3]
  have en : ∀ (E : Dt) (v l : Int32), gmQ A E x y k s → gmW k D E → ∃ D', F_X1_playOn_b197 rc (nI k) (nI n) (nI x) (nI y) (nI k) v l E = some (v, D') ∧ gmQ A D' x y k s ∧ gmW k D D' ∧ (k = 0 → D'.1 (1, 0, 0, 0) 10 = l) := by
    intro E v l q f
    rw [F_X1_playOn_b197]
    by_cases c : k = 0
    · have mo : Sm (fun la _ => la.1 == 1) E (setI E (1, 0, 0, 0) 10 l) := Sm.sI (by simp)
      have mq : Sm qS E (setI E (1, 0, 0, 0) 10 l) := Sm.sI (by simp [qS])
      rw [if_pos (by rw [c]; rfl), bnd_e]
      refine ⟨_, rfl, ⟨q.1.scr mq, q.2.1.smx mo (fun k _ => by simp) (fun _ _ _ _ => by simp) (fun _ _ _ _ => by simp), ?_, ?_⟩, f.trans ⟨fun i _ => rdS_sm mo (fun q k => by simp), mq⟩, fun _ => gI_s⟩
      · rw [mo.i (by simp)]; exact q.2.2.1
      · rw [rdS_sm mo (fun q k => by simp)]; exact q.2.2.2
    · rw [if_neg (nI_ne0 (by omega) (by omega))]
      exact ⟨E, rfl, q, f, fun z => absurd z c⟩
  by_cases c1 : pMay s b sl = true
  · rw [c1, i1t rfl]
    obtain ⟨D4, e4, r4, m4⟩ := c_copyFrom (D := D3) (i := 106 + (k + 1)) (j := 106 + k) hV hVk
    rw [e4, vbd_s]
    obtain ⟨D5, e5, r5, m5⟩ := c_buy (D := D4) (i := 106 + (k + 1)) (a := b) (b := sl) hV (by omega) (by omega)
    rw [e5, vbd_s]
    have hgb := hg.buy hb hsl c1
    have hwb : pBuy s b sl 5 1 = nI w := by rw [wk_buy, hwk]
    have q5 : QC A D5 (gmC A x y) (106 + (k + 1)) (pBuy s b sl) := ⟨(u1.scr (st_q (by omega) m4)).scr (st_q (by omega) m5), (u2.sm (i := 106 + (k + 1)) (stS_we m4)).sm (i := 106 + (k + 1)) (stS_we m5), by rw [m5.i stS_8, m4.i stS_8]; exact u3, by rw [r5, r4, r3]⟩
    obtain ⟨D6, e6, q6, m6⟩ := qc_pass (by omega) (by omega) q5 rfl hwb (by omega)
    rw [e6, cbd_s]
    obtain ⟨D7, e7, ⟨v1, v2, v3, v4⟩, f7⟩ := hrc D6 (wS (gmC A x y) (pBuy s b sl)) (hgb.wS (c := gmC A x y) (cfX_ok hA)) (wS_wk hwb) q6
    rw [e7, cbd_s]
    have f7' : gmW k D D7 := (((f3'.trans (gm_w (stS_we m4))).trans (gm_w (stS_we m5))).trans (gm_w m6)).trans ⟨fun i hi => f7.1 i (by omega), f7.2⟩
    have q7 : gmQ A D7 x y k s := ⟨v1, v2, v3, by rw [f7'.1 k (Nat.le_refl _)]; exact h4⟩
    simp only [F_X1_playOn_b190]
    by_cases c2 : l6 = 0
    · simp only [gmV, gmF, c2, not_true, decide_false, if_true, Bool.false_eq_true, if_false]
      by_cases c3 : gm A x y r (k + 1) (wS (gmC A x y) s) ≤ gm A x y r (k + 1) (wS (gmC A x y) (pBuy s b sl))
      · rw [if_pos c3, if_pos c3, if_pos c3]
        exact en D7 _ _ q7 f7'
      · rw [if_neg c3, if_neg c3, if_neg c3]
        exact en D7 _ _ q7 f7'
    · simp only [gmV, gmF, c2, not_false_eq_true, decide_true, if_true, if_false]
      by_cases c3 : gm A x y r (k + 1) (wS (gmC A x y) (pBuy s b sl)) ≤ gm A x y r (k + 1) (wS (gmC A x y) s)
      · rw [if_pos c3, if_pos c3, if_pos c3]
        exact en D7 _ _ q7 f7'
      · rw [if_neg c3, if_neg c3, if_neg c3]
        exact en D7 _ _ q7 f7'
  · rw [i1f c1]
    simp only [gmV, gmF, if_neg c1]
    exact en D3 _ _ ⟨u1, u2, u3, r3⟩ f3'
theorem c_play {A : Al} {x y n w : Nat} (hA : okA A) (hx : x < shN (woH (alW A))) (hy : y < shN (woH (alW A))) (hn : n ≤ 4) (hw : w ≤ 999) : ∀ r fu k D s, k + r = n → r < fu → Gd (shN (woH (alW A))) s → s 5 1 = nI (w + k) → gmQ A D x y k s → ∃ D', F_X1_playOn_f fu (nI k) (nI n) (nI x) (nI y) D = some (gm A x y r k s, D') ∧ gmQ A D' x y k s ∧ gmW k D D' ∧ (k = 0 → ∀ r', r = r' + 1 → D'.1 (1, 0, 0, 0) 10 = gmF true (pMay s x y) (gm A x y r' 1 (wS (gmC A x y) s)) (gm A x y r' 1 (wS (gmC A x y) (pBuy s x y)))) := by
  have h5 := hA.1.1
  intro r
  induction r with
  | zero =>
    intro fu k D s hk hf hg hwk h
    obtain ⟨fu, rfl⟩ : ∃ g, fu = g + 1 := ⟨fu - 1, by omega⟩
    rw [F_X1_playOn_f, FG_X1_playOn, grd_t (inBe (by omega) (by decide)), if_pos (nI_le (by omega) (by omega)), F_X1_playOn_b18, nIc (k := k) (by omega), grd_t (V6 (by omega)), grd_t (inBe (by omega) (by decide)), grd_t (inBe (by omega) (by decide)), nIc (k := x) (by omega), nIc (k := y) (by omega), s_barn (by omega), s_barn (by omega), h.2.2.2]
    exact ⟨D, rfl, h, ⟨fun _ _ => rfl, Sm.refl⟩, fun _ r' e => absurd e (by omega)⟩
  | succ r ih =>
    intro fu k D s hk hf hg hwk h
    obtain ⟨fu, rfl⟩ : ∃ g, fu = g + 1 := ⟨fu - 1, by omega⟩
    have hVk : V (6, 106 + k, 0, 0) = true := V6 (by omega)
    have hrc : ∀ E s, Gd (shN (woH (alW A))) s → s 5 1 = nI (w + k + 1) → gmQ A E x y (k + 1) s → ∃ D', F_X1_playOn_f fu (nI (k + 1)) (nI n) (nI x) (nI y) E = some (gm A x y r (k + 1) s, D') ∧ gmQ A D' x y (k + 1) s ∧ gmW (k + 1) E D' := fun E s hg hwk q => by
      obtain ⟨D', e, q', f', _⟩ := ih fu (k + 1) E s (by omega) (by omega) hg hwk q
      exact ⟨D', e, q', f'⟩
    rw [F_X1_playOn_f, FG_X1_playOn, grd_t (inBe (by omega) (by decide)), if_neg (nI_ge (by omega) (by omega)), if_pos (show nI k < (4 : Int32) from nI_lt (b := 4) (by omega) (by decide)), show (2 : Int32) = nI 2 from rfl, pk_rem (by omega) (by decide) (by decide)]
    simp only [F_X1_playOn_b46, F_X1_playOn_b59, nIc (show k < 2147483648 by omega), grd_t hVk, if_true]
    by_cases c : k % 2 = 0
    · rw [if_pos (by rw [c]; rfl), if_neg (by decide), if_neg (by decide)]
      obtain ⟨D', e, q, f, fl⟩ := c_play72 (l6 := 1) (w := w + k) (r := r) hA hx hy (by omega) hn (by omega) hg hwk hrc h
      refine ⟨D', ?_, q, f, fun hk0 r' hr' => ?_⟩
      · rw [e, gm, gmB, gmB, if_pos c, if_pos c]
        simp [c]
      · have hrr : r = r' := by omega
        subst hrr
        subst hk0
        rw [fl rfl]
        rfl
    · rw [if_neg (nI_ne0 (by omega) (by omega))]
      obtain ⟨D', e, q, f, fl⟩ := c_play72 (l6 := 0) (w := w + k) (r := r) hA hy hx (by omega) hn (by omega) hg hwk hrc h
      refine ⟨D', ?_, q, f, fun hk0 => absurd hk0 (by intro z; rw [z] at c; exact c rfl)⟩
      rw [e, gm, gmB, gmB, if_neg c, if_neg c]
      simp [c]
