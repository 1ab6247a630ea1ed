theorem r_better {f : Bool} {a b : Int32} {D : Dt} : F_X11_better a b (if f = true then 1 else 0) D = some (btr f a b, D) := by
  unfold F_X11_better btr F_X11_better_b20
  by_cases c1 : b = -100000
  · rw [if_pos c1, if_pos c1]
  · rw [if_neg c1, if_neg c1]
    by_cases c2 : b ≤ a
    · cases f <;> simp [c2]
    · cases f <;> simp [c2]
theorem qg_42 {A : Al} {D0 D : Dt} {f d v i o : Int32} {s : St} (g : QG A D0 D f 0 i (-1) o d s) : QG A D0 (setI D (11, 0, 0, 0) 42 v) f 0 v (-1) o d s := by
  have g2 := qg_0 (D' := setI D (11, 0, 0, 0) 42 v) g (Sm.sI (by simp))
  have z1 : (setI D (11, 0, 0, 0) 42 v).1 (11, 0, 0, 0) 39 = 0 := by rw [gI, if_neg (by simp)]; exact g.2.2.2.2.1
  have z2 : (setI D (11, 0, 0, 0) 42 v).1 (11, 0, 0, 0) 42 = v := gI_s
  have z3 : (setI D (11, 0, 0, 0) 42 v).1 (11, 0, 0, 0) 40 = -1 := by rw [gI, if_neg (by simp)]; exact g.2.2.2.2.2.2.1
  rw [z1, z2, z3] at g2
  exact ⟨g2.1, g2.2.1, g2.2.2.1, g2.2.2.2.1, g2.2.2.2.2.1, g2.2.2.2.2.2.1, g2.2.2.2.2.2.2.1, Or.inl rfl, g2.2.2.2.2.2.2.2.2⟩
def gmG (A : Al) (D0 D : Dt) (x y : Nat) (s : St) : Prop := QG A D0 D (woC (alW A)) 0 (gmI x y) (-1) (-1) (woD (alW A)) s
theorem r_play93 {A : Al} {D0 D : Dt} {x y w j : Nat} {s : St} {a1 a2 a3 a4 l1 l2 l3 l4 l5 : Int32} {kk : Int32 → Int32 → Int32 → Int32 → Int32 → Int32 → Dt → Option (Int32 × Dt)} (hA : okA A) (g : gmG A D0 D x y s) (hg : Gd (shN (woH (alW A))) s) (hw : s 5 1 = nI w) (hw2 : w < 100000) : ∃ D', F_X11_playOf_b93 a1 a2 a3 a4 kk l1 l2 l3 l4 l5 (nI j) D = kk l1 l2 l3 l4 l5 (nI (j + 1)) D' ∧ gmG A D0 D' x y (wS (gmC A x y) s) ∧ Sm moS D D' := by
  obtain ⟨D', e, g', m⟩ := qg_goesx hA (okF hA) g hg hw hw2
  rw [F_X11_playOf_b93, e, cbd_s, bnd_e, nI_1]
  exact ⟨D', rfl, g', m⟩
theorem r_play54 {A : Al} {D0 D : Dt} {x y w k n code p b sl : Nat} {s : St} {a1 a2 a3 a4 : Int32} {kk : Int32 → Int32 → Int32 → Int32 → Int32 → Int32 → Dt → Option (Int32 × Dt)} (hA : okA A) (hb : b < shN (woH (alW A))) (hsl : sl < shN (woH (alW A))) (hk : k + (p + 1) = n) (hn : n ≤ 4) (hcd : code < 16) (g : gmG A D0 D x y s) (hg : Gd (shN (woH (alW A))) s) (hw : s 5 1 = nI w) (hw2 : w < 100000) : ∃ l5 D' s', F_X11_playOf_b54 a1 a2 a3 a4 kk (nI x) (nI y) (nI n) (nI code) 1 (nI k) (nI b) (nI sl) D = kk (nI x) (nI y) (nI n) (nI code) l5 (nI (k + 1)) D' ∧ gmG A D0 D' x y s' ∧ Sm moS D D' ∧ ((code / 2 ^ p % 2 = 1 ∧ pMay s b sl = true ∧ l5 = 1 ∧ s' = wS (gmC A x y) (pBuy s b sl)) ∨ (code / 2 ^ p % 2 = 1 ∧ pMay s b sl = false ∧ l5 = 0) ∨ (¬ code / 2 ^ p % 2 = 1 ∧ l5 = 1 ∧ s' = wS (gmC A x y) s)) := by
  have h5 := hA.1.1
  have hi : nI n - 1 - nI k = nI p := by
    rw [show nI n - 1 = nI (n - 1) from pk_sub (b := 1) (by omega), pk_sub (by omega)]
    congr 1
    omega
  have hs : rdM D = s := g.2.2.2.2.2.2.2.2.1
  rw [F_X11_playOf_b54, hi, r_has, cbd_s, has_tb code (by omega) p (by omega)]
  by_cases c1 : code / 2 ^ p % 2 = 1
  · have ht : tb code p = true := by simp [tb, c1]
    rw [i1t ht, r_canBuy (by omega) (by omega), cbd_s, hs, show D.1 (11, 0, 0, 0) 39 = 0 from g.2.2.2.2.1, has0 sl (by omega)]
    cases c2 : pMay s b sl with
    | true =>
      simp only [Bool.not_false, Bool.and_true, if_true]
      rw [if_neg (by decide)]
      obtain ⟨D1, e1, r1, m1⟩ := r_buys (D := D) (a := b) (b := sl) (by omega) (by omega)
      rw [e1, vbd_s]
      rw [hs] at r1
      have g1 : gmG A D0 D1 x y (pBuy s b sl) := qg_st g m1 r1
      obtain ⟨D2, e2, g2, m2⟩ := r_play93 (kk := (fun l1_34 l2_35 l3_36 l4_37 l5_38 l6_39 D40 => (kk l1_34 l2_35 l3_36 l4_37 l5_38 l6_39 D40))) (a1 := a1) (a2 := a2) (a3 := a3) (a4 := a4) (l1 := nI x) (l2 := nI y) (l3 := nI n) (l4 := nI code) (l5 := 1) (j := k) hA g1 (hg.buy hb hsl c2) (by rw [wk_buy]; exact hw) hw2
      rw [e2]
      exact ⟨1, D2, _, rfl, g2, (stM_mo m1).trans m2, Or.inl ⟨c1, trivial, rfl, rfl⟩⟩
    | false =>
      simp only [Bool.not_false, Bool.and_true, Bool.false_eq_true, if_false, if_true]
      obtain ⟨D2, e2, g2, m2⟩ := r_play93 (kk := (fun l1_34 l2_35 l3_36 l4_37 l5_38 l6_39 D40 => (kk l1_34 l2_35 l3_36 l4_37 l5_38 l6_39 D40))) (a1 := a1) (a2 := a2) (a3 := a3) (a4 := a4) (l1 := nI x) (l2 := nI y) (l3 := nI n) (l4 := nI code) (l5 := 0) (j := k) hA g hg hw hw2
      rw [e2]
      exact ⟨0, D2, _, rfl, g2, m2, Or.inr (Or.inl ⟨c1, trivial, rfl⟩)⟩
  · have ht : ¬ tb code p = true := by simp [tb, c1]
    rw [i1f ht]
    obtain ⟨D2, e2, g2, m2⟩ := r_play93 (kk := (fun l1_34 l2_35 l3_36 l4_37 l5_38 l6_39 D40 => (kk l1_34 l2_35 l3_36 l4_37 l5_38 l6_39 D40))) (a1 := a1) (a2 := a2) (a3 := a3) (a4 := a4) (l1 := nI x) (l2 := nI y) (l3 := nI n) (l4 := nI code) (l5 := 1) (j := k) hA g hg hw hw2
    rw [e2]
    exact ⟨1, D2, _, rfl, g2, m2, Or.inr (Or.inr ⟨c1, rfl, rfl⟩)⟩
theorem r_playLoop {A : Al} {D0 : Dt} {a1 a2 a3 a4 : Int32} {kk : Int32 → Int32 → Int32 → Dt → Option (Int32 × Dt)} {x y n w code : Nat} (hA : okA A) (hx : x < shN (woH (alW A))) (hy : y < shN (woH (alW A))) (hn : n ≤ 4) (hw : w ≤ 999) (hcd : code < 16) : ∀ p fu k E s, k + p = n → p + 1 < fu → gmG A D0 E x y s → Gd (shN (woH (alW A))) s → s 5 1 = nI (w + k) → ∃ can D' s', F_X11_playOf_b17 a1 a2 a3 a4 kk fu (nI x) (nI y) (nI n) (nI code) 1 (nI k) E = kk (nI x) (nI y) can D' ∧ gmG A D0 D' x y s' ∧ Sm moS E D' ∧ ((can = 1 ∧ s' 3 x - s' 3 y = vl A x y 0 p k s code) ∨ (can = 0 ∧ vl A x y 0 p k s code = -100000)) := by
  have h5 := hA.1.1
  intro p
  induction p with
  | zero =>
    intro fu k E s hk hf g hg hwk
    obtain ⟨fu, rfl⟩ : ∃ g, fu = g + 1 := ⟨fu - 1, by omega⟩
    rw [F_X11_playOf_b17, if_pos (nI_le (by omega) (by omega))]
    exact ⟨1, E, s, rfl, g, Sm.refl, Or.inl ⟨rfl, rfl⟩⟩
  | succ p ih =>
    intro fu k E s hk hf g hg hwk
    obtain ⟨fu, rfl⟩ : ∃ g, fu = g + 1 := ⟨fu - 1, by omega⟩
    rw [F_X11_playOf_b17, if_neg (nI_ge (by omega) (by omega)), if_neg (by decide), show (2 : Int32) = nI 2 from rfl, pk_rem (by omega) (by decide) (by decide)]
    simp only [F_X11_playOf_b40]
    rw [show (2 : Int32) = nI 2 from rfl, pk_rem (by omega) (by decide) (by decide)]
    have go : ∀ (kk' : Int32 → Int32 → Int32 → Int32 → Int32 → Int32 → Dt → Option (Int32 × Dt)), (∀ l1 l2 l3 l4 l5 l6 D, kk' l1 l2 l3 l4 l5 l6 D = F_X11_playOf_b17 a1 a2 a3 a4 kk fu l1 l2 l3 l4 l5 l6 D) → ∃ can D' s', F_X11_playOf_b54 a1 a2 a3 a4 kk' (nI x) (nI y) (nI n) (nI code) 1 (nI k) (nI (gmB x y k)) (nI (gmB y x k)) E = kk (nI x) (nI y) can D' ∧ gmG A D0 D' x y s' ∧ Sm moS E D' ∧ ((can = 1 ∧ s' 3 x - s' 3 y = vl A x y 0 (p + 1) k s code) ∨ (can = 0 ∧ vl A x y 0 (p + 1) k s code = -100000)) := by
      intro kk' hkk
      obtain ⟨l5, D1, s1, e1, g1, m1, ca⟩ := r_play54 (a1 := a1) (a2 := a2) (a3 := a3) (a4 := a4) (kk := kk') (k := k) (n := n) (code := code) (p := p) (b := gmB x y k) (sl := gmB y x k) hA (gmB_lt hx hy) (gmB_lt hy hx) hk hn hcd g hg hwk (by omega)
      rw [e1, hkk, vl_s]
      rcases ca with ⟨c1, c2, rfl, rfl⟩ | ⟨c1, c2, rfl⟩ | ⟨c1, rfl, rfl⟩
      · rw [if_pos c1, if_pos c2]
        obtain ⟨can, D', s', e, g', m', r'⟩ := ih fu (k + 1) D1 _ (by omega) (by omega) g1 ((hg.buy (gmB_lt hx hy) (gmB_lt hy hx) c2).wS (c := gmC A x y) (cfX_ok hA)) (wS_wk (by rw [wk_buy]; exact hwk))
        exact ⟨can, D', s', e, g', m1.trans m', r'⟩
      · rw [if_pos c1, if_neg (by rw [c2]; decide)]
        obtain ⟨fu, rfl⟩ : ∃ g, fu = g + 1 := ⟨fu - 1, by omega⟩
        rw [F_X11_playOf_b17, if_pos rfl, ite_self]
        exact ⟨0, D1, s1, rfl, g1, m1, Or.inr ⟨rfl, rfl⟩⟩
      · rw [if_neg c1]
        obtain ⟨can, D', s', e, g', m', r'⟩ := ih fu (k + 1) D1 _ (by omega) (by omega) g1 (hg.wS (c := gmC A x y) (cfX_ok hA)) (wS_wk hwk)
        exact ⟨can, D', s', e, g', m1.trans m', r'⟩
    by_cases c : k % 2 = 0
    · rw [if_pos (by rw [c]; rfl), if_pos (by rw [c]; rfl)]
      have e1 : gmB x y k = x := by unfold gmB; rw [if_pos c]
      have e2 : gmB y x k = y := by unfold gmB; rw [if_pos c]
      rw [e1, e2] at go
      exact go _ (fun _ _ _ _ _ _ _ => rfl)
    · rw [if_neg (nI_ne0 (by omega) (by omega)), if_neg (nI_ne0 (by omega) (by omega))]
      have e1 : gmB x y k = y := by unfold gmB; rw [if_neg c]
      have e2 : gmB y x k = x := by unfold gmB; rw [if_neg c]
      rw [e1, e2] at go
      exact go _ (fun _ _ _ _ _ _ _ => rfl)
theorem r_playOf {A : Al} {D0 D : Dt} {x y n w code : Nat} (hA : okA A) (hx : x < shN (woH (alW A))) (hy : y < shN (woH (alW A))) (hn : n ≤ 4) (hw : w ≤ 999) (ew : woS (alW A) 5 1 = nI w) (hcd : code < 16) (g : QG A D0 D (woC (alW A)) 0 0 (-1) (-1) (woD (alW A)) (woS (alW A))) : ∃ D', F_X11_playOf (nI x) (nI y) (nI n) (nI code) D = some (vl A x y 0 n 0 (woS (alW A)) code, D') ∧ QG A D0 D' (woC (alW A)) 0 0 (-1) (-1) (woD (alW A)) (woS (alW A)) ∧ (∀ q, D'.1 (11, 0, 52, 0) q = D.1 (11, 0, 52, 0) q) := by
  have h5 := hA.1.1
  rw [F_X11_playOf, bnd_e]
  have g1 : gmG A D0 (setI D (11, 0, 0, 0) 42 (gmI x y)) x y (woS (alW A)) := qg_42 g
  have x52 : ∀ q, (setI D (11, 0, 0, 0) 42 (gmI x y)).1 (11, 0, 52, 0) q = D.1 (11, 0, 52, 0) q := fun q => by rw [gI, if_neg (by simp)]
  obtain ⟨can, E, s', e, gE, mE, ca⟩ := r_playLoop (A := A) (D0 := D0) (a1 := nI x) (a2 := nI y) (a3 := nI n) (a4 := nI code) (kk := (fun l1_69 l2_70 l5_71 D72 => (bnd (setI D72 (11, 0, 0, 0) 42 (0 : Int32)) (fun D73 => (if l5_71 = 0 then (F_X11_playOf_b133 (nI x) (nI y) (nI n) (nI code) (-100000 : Int32) D73) else (grd (inB l1_69 5 = true) (grd (inB l2_70 5 = true) (F_X11_playOf_b133 (nI x) (nI y) (nI n) (nI code) ((D73.1 (11, 0, 6, 0) (l1_69.toNatClampNeg)) - (D73.1 (11, 0, 6, 0) (l2_70.toNatClampNeg))) D73)))))))) (w := w) (code := code) hA hx hy hn hw hcd n 2000 0 _ (woS (alW A)) (by omega) (by omega) g1 (gd0 hA) ew
  rw [show F_X11_playOf_b17 (nI x) (nI y) (nI n) (nI code) _ 2000 (nI x) (nI y) (nI n) (nI code) 1 0 (setI D (11, 0, 0, 0) 42 (((1 : Int32) <<< (nI x &&& 31)) ||| ((1 : Int32) <<< (nI y &&& 31)))) = _ from e, bnd_e]
  have g3 : QG A D0 (setI E (11, 0, 0, 0) 42 0) (woC (alW A)) 0 0 (-1) (-1) (woD (alW A)) s' := qg_42 gE
  have y5 : ∀ q, (setI E (11, 0, 0, 0) 42 0).1 (11, 0, 52, 0) q = E.1 (11, 0, 52, 0) q := fun q => by rw [gI, if_neg (by simp)]
  rw [nIc (k := x) (by omega), nIc (k := y) (by omega), m_barn (by omega), m_barn (by omega), show rdM (setI E (11, 0, 0, 0) 42 0) = s' from g3.2.2.2.2.2.2.2.2.1]
  generalize setI E (11, 0, 0, 0) 42 0 = E4 at g3 y5 ⊢
  obtain ⟨E5, e5, g5, k5, _⟩ := qg_laysx g3
  simp only [F_X11_playOf_b133, e5, vbd_s]
  have k52 : ∀ q, E5.1 (11, 0, 52, 0) q = D.1 (11, 0, 52, 0) q := fun q => by rw [k5 52 _ (by decide) (by decide), y5, mE.i (by simp [moS]), x52]
  rcases ca with ⟨rfl, h2⟩ | ⟨rfl, h2⟩
  · rw [if_neg (by decide), grd_t (inBe (by omega) (by decide)), grd_t (inBe (by omega) (by decide)), h2]
    exact ⟨E5, rfl, g5, k52⟩
  · rw [if_pos rfl, h2]
    exact ⟨E5, rfl, g5, k52⟩
/-- one layer of plays made out of the next -/
theorem r_layer {k : Nat} {a1 a2 a3 a4 l4 : Int32} {kk : Int32 → Int32 → Dt → Option (Int32 × Dt)} {D : Dt} {F : Nat → Int32} (hk : k ≤ 3) (hF : ∀ c, c < 2 ^ (k + 1) → D.1 (11, 0, 52, 0) c = F c) : ∃ D', F_X11_game_b98 a1 a2 a3 a4 kk 2000 l4 (nI k) 0 D = kk l4 (nI k) D' ∧ (∀ c, c < 2 ^ k → D'.1 (11, 0, 52, 0) c = btr (decide (k % 2 = 0)) (F (2 * c)) (F (2 * c + 1))) ∧ Sm (fun la _ => la == (11, 0, 52, 0)) D D' := by
  obtain ⟨hsh, _⟩ := sh_n k (by omega)
  have hp : 2 ^ k ≤ 8 := Nat.pow_le_pow_right (n := 2) (by decide) hk
  obtain ⟨D', ⟨p1, p2, p3⟩, e⟩ := lpC (fun fu j E => F_X11_game_b98 a1 a2 a3 a4 kk fu l4 (nI k) (nI j) E) (fun j E => (∀ c, c < j → E.1 (11, 0, 52, 0) c = btr (decide (k % 2 = 0)) (F (2 * c)) (F (2 * c + 1))) ∧ (∀ c, j ≤ c → c < 2 ^ (k + 1) → E.1 (11, 0, 52, 0) c = F c) ∧ Sm (fun la _ => la == (11, 0, 52, 0)) D E) (2 ^ k) (kk l4 (nI k))
    (fun fu j E hj hh => by
      obtain ⟨h1, h2, h3⟩ := hh
      have h2a := h2 (2 * j) (by omega) (by rw [Nat.pow_succ]; omega)
      have h2b := h2 (2 * j + 1) (by omega) (by rw [Nat.pow_succ]; omega)
      refine ⟨setI E (11, 0, 52, 0) j (btr (decide (k % 2 = 0)) (F (2 * j)) (F (2 * j + 1))), ⟨fun c hc => ?_, fun c hc hc2 => ?_, h3.trans (Sm.sI (by simp))⟩, ?_⟩
      · by_cases cc : c = j
        · rw [cc, gI_s]
        · rw [gI, if_neg (fun y => cc y.2)]
          exact h1 c (by omega)
      · rw [gI, if_neg (fun y => by have := y.2; omega)]
        exact h2 c (by omega) hc2
      · show F_X11_game_b98 a1 a2 a3 a4 kk (fu + 1) l4 (nI k) (nI j) E = F_X11_game_b98 a1 a2 a3 a4 kk fu l4 (nI k) (nI (j + 1)) _
        rw [F_X11_game_b98, hsh, if_neg (nI_ge hj (by omega)), show (2 : Int32) = nI 2 from rfl, pk_mul, nI_1, grd_t (inBe (by omega) (by decide)), grd_t (inBe (by omega) (by decide)), nIc (k := 2 * j) (by omega), nIc (k := 2 * j + 1) (by omega), h2a, h2b, pk_rem (by omega) (by decide) (by decide)]
        by_cases c : k % 2 = 0
        · rw [if_pos (by rw [c]; rfl), F_X11_game_b145, show (1 : Int32) = (if decide (k % 2 = 0) = true then (1 : Int32) else 0) by simp [c], r_better, cbd_s, grd_t (inBe (by omega) (by decide)), nIc (k := j) (by omega), bnd_e, bnd_e]
          simp [c, nI_1]
        · rw [if_neg (nI_ne0 (by omega) (by omega)), F_X11_game_b145, show F_X11_better (F (2 * j)) (F (2 * j + 1)) 0 E = F_X11_better (F (2 * j)) (F (2 * j + 1)) (if decide (k % 2 = 0) = true then (1 : Int32) else 0) E by simp [c], r_better, cbd_s, grd_t (inBe (by omega) (by decide)), nIc (k := j) (by omega), bnd_e, bnd_e, nI_1])
    (fun fu E hh => by
      show F_X11_game_b98 a1 a2 a3 a4 kk (fu + 1) l4 (nI k) (nI (2 ^ k)) E = _
      rw [F_X11_game_b98, hsh, if_pos (nI_le (Nat.le_refl _) (by omega))])
    (2 ^ k) 2000 0 D (by omega) (by omega) ⟨fun c hc => absurd hc (by omega), fun c _ hc => hF c hc, Sm.refl⟩
  exact ⟨D', e, p1, p3⟩
theorem p52_w {D D' : Dt} (m : Sm (fun la _ => la == (11, 0, 52, 0)) D D') : Sm (fun la _ => la.1 == 11 && decide (50 ≤ la.2.2.1 ∧ la.2.2.1 ≤ 54)) D D' := m.mono (fun la k e => by
  rw [beq_eq_false_iff_ne]
  rintro rfl
  simp at e)
theorem p_game (a b v u : Int32) : Cal (F_X10_game a b v u) (F_X11_game a b v u) := by
  refine cal_of (fun A hA => ?_)
  have h5 := hA.1.1
  by_cases c1 : inB a (shN (woH (alW A))) = true
  · obtain ⟨x, hx, rfl⟩ := inB_ex c1 (by omega)
    by_cases c2 : inB b (shN (woH (alW A))) = true
    · obtain ⟨y, hy, rfl⟩ := inB_ex c2 (by omega)
      by_cases hne : nI x = nI y
      · refine cal_no hA (-100000) (fun D h => ?_) (fun D h => ?_)
        · rw [F_X10_game, c_areTwo h5 h.n, cbd_s, i1f (fun g => g.2 hne)]
        · rw [F_X11_game, r_isLand h5 h.n, cbd_s, i1t c1, r_isLand h5 h.n, cbd_s, i1t c2, if_pos hne]
      · by_cases c3 : (1 : Int32) ≤ v ∧ v ≤ 4
        · obtain ⟨n, hn, rfl⟩ := nI_of2 (x := v) (M := 4) (n := 4) rfl (fun g => by have := c3.1; rw [fa_lt] at g; rw [fa_le] at this; have : (0 : Int32).toInt = 0 := rfl; have : (1 : Int32).toInt = 1 := rfl; omega) c3.2
          have hn1 : 1 ≤ n := by
            have := c3.1
            rw [fa_le, nI_toInt (by omega)] at this
            have : (1 : Int32).toInt = 1 := rfl
            omega
          obtain ⟨r, rfl⟩ : ∃ r, n = r + 1 := ⟨n - 1, by omega⟩
          by_cases c4 : (0 : Int32) ≤ u ∧ u ≤ 1
          · obtain ⟨w, hw, ew⟩ := wk0 hA
            refine cal_ask hA (if u = 0 then gm A x y (r + 1) 0 (woS (alW A)) else gmF true (pMay (woS (alW A)) x y) (gm A x y r 1 (wS (gmC A x y) (woS (alW A)))) (gm A x y r 1 (wS (gmC A x y) (pBuy (woS (alW A)) x y)))) (fun D h => ?_) (fun D h => ?_)
            · obtain ⟨D1, e1, q1, s1, z1⟩ := qc_start (i := 106) (by decide) (by decide) hA (land_there hA hx) h
              rw [F_X10_game, c_areTwo h5 h.n, cbd_s, i1t ⟨⟨c1, c2⟩, hne⟩, c_within, cbd_s, i1t c3, c_within, cbd_s, i1t c4, F_X1_play, e1, vbd_s, bnd_e]
              have m2 : Sm (fun la k => la == (8, 1, 0, 0) && decide (2 ≤ k)) D1 (setI D1 (8, 1, 0, 0) 3 (gmI x y)) := Sm.sI (by simp)
              have c5 := q1.2.1.set8 m2
              have f2 : (setI D1 (8, 1, 0, 0) 3 (gmI x y)).1 (8, 1, 0, 0) 2 = 0 ∧ (setI D1 (8, 1, 0, 0) 3 (gmI x y)).1 (8, 1, 0, 0) 4 = -1 ∧ (setI D1 (8, 1, 0, 0) 3 (gmI x y)).1 (8, 1, 0, 0) 5 = -1 ∧ (setI D1 (8, 1, 0, 0) 3 (gmI x y)).1 (8, 1, 0, 0) 6 = 0 := by
                obtain ⟨_, _, _, _, _, _, _, _, y2, _, y4, y5⟩ := q1.2.1
                refine ⟨?_, ?_, ?_, ?_⟩
                · rw [gI, if_neg (by simp)]; exact y2
                · rw [gI, if_neg (by simp)]; exact y4
                · rw [gI, if_neg (by simp)]; exact y5
                · rw [gI, if_neg (by simp)]; exact q1.2.2.1
              rw [f2.1, f2.2.1, f2.2.2.1, gI_s] at c5
              have c5' : CfC (setI D1 (8, 1, 0, 0) 3 (gmI x y)) 1 (gmC A x y) := c5
              have mq2 : Sm qS D1 (setI D1 (8, 1, 0, 0) 3 (gmI x y)) := Sm.sI (by simp [qS])
              have r2 : rdS (setI D1 (8, 1, 0, 0) 3 (gmI x y)) 106 = woS (alW A) := by rw [rdS_sI (by simp)]; exact q1.2.2.2
              obtain ⟨D3, e3, q3, w3, f3⟩ := c_play (w := w) hA hx hy hn hw (r + 1) 40 0 (setI D1 (8, 1, 0, 0) 3 (gmI x y)) (woS (alW A)) (by omega) (by omega) (gd0 hA) ew ⟨q1.1.scr mq2, c5', f2.2.2.2, r2⟩
              have hx10 : (setI D3 (1, 0, 0, 0) 11 (gm A x y (r + 1) 0 (woS (alW A)))).1 (1, 0, 0, 0) 10 = gmF true (pMay (woS (alW A)) x y) (gm A x y r 1 (wS (gmC A x y) (woS (alW A)))) (gm A x y r 1 (wS (gmC A x y) (pBuy (woS (alW A)) x y))) := by rw [gI, if_neg (by simp), f3 rfl r rfl]
              rw [show F_X1_playOn 0 (nI (r + 1)) (nI x) (nI y) (setI D1 (8, 1, 0, 0) 3 (((1 : Int32) <<< (nI x &&& 31)) ||| ((1 : Int32) <<< (nI y &&& 31)))) = _ from e3, cbd_s, bnd_e, vbd_s, gI_s, hx10]
              simp only [if_so]
              exact ⟨_, rfl, ((s1.trans mq2).trans w3.2).trans (Sm.sI (by simp [qS]))⟩
            · obtain ⟨D1, e1, g1⟩ := qg_start h
              rw [F_X11_game, r_isLand h5 h.n, cbd_s, i1t c1, r_isLand h5 h.n, cbd_s, i1t c2, if_neg hne, r_in_1_4, cbd_s, i1t c3, r_in_0_1, cbd_s, i1t c4, e1, vbd_s]
              obtain ⟨hsh, _⟩ := sh_n (r + 1) (by omega)
              have hp16 : 2 ^ (r + 1) ≤ 16 := Nat.pow_le_pow_right (n := 2) (by decide) hn
              have fin : ∀ E, QG A D E (woC (alW A)) 0 0 (-1) (-1) (woD (alW A)) (woS (alW A)) → (∀ c, c < 2 → E.1 (11, 0, 52, 0) c = vl A x y r 1 0 (woS (alW A)) c) → ∃ D' o, (fun l4_54 D55 => (if (D55.1 (11, 0, 52, 0) 1) = (-100000 : Int32) then (F_X11_game_b192 (nI x) (nI y) (nI (r + 1)) u l4_54 D55) else (if (D55.1 (11, 0, 52, 0) 1) ≤ (D55.1 (11, 0, 52, 0) 0) then (F_X11_game_b192 (nI x) (nI y) (nI (r + 1)) u l4_54 D55) else (F_X11_game_b193 (nI x) (nI y) (nI (r + 1)) u l4_54 (1 : Int32) D55)))) u E = some ((if u = 0 then gm A x y (r + 1) 0 (woS (alW A)) else gmF true (pMay (woS (alW A)) x y) (gm A x y r 1 (wS (gmC A x y) (woS (alW A)))) (gm A x y r 1 (wS (gmC A x y) (pBuy (woS (alW A)) x y)))), D') ∧ QG A D D' (woC (alW A)) 0 0 (-1) o (woD (alW A)) (woS (alW A)) := by
                intro E g hE
                refine ⟨E, -1, ?_, g⟩
                have e0 := hE 0 (by decide)
                have e1 := hE 1 (by decide)
                rw [vl_s, Nat.pow_zero, Nat.div_one, if_neg (by decide), vl_0] at e0
                rw [vl_s, Nat.pow_zero, Nat.div_one, if_pos (by decide), vl_0, show gmB x y 0 = x from rfl, show gmB y x 0 = y from rfl] at e1
                have hgm : gm A x y (r + 1) 0 (woS (alW A)) = gmV true (pMay (woS (alW A)) x y) (gm A x y r 1 (wS (gmC A x y) (woS (alW A)))) (gm A x y r 1 (wS (gmC A x y) (pBuy (woS (alW A)) x y))) := rfl
                simp only [F_X11_game_b192, F_X11_game_b193, hgm, gmV, gmF]
                rw [e0, e1]
                simp only [Nat.zero_add]
                by_cases d1 : pMay (woS (alW A)) x y = true
                · have hnn := gm_ne hA hx hy r 1 (wS (gmC A x y) (pBuy (woS (alW A)) x y)) (((gd0 hA).buy hx hy d1).wS (c := gmC A x y) (cfX_ok hA))
                  simp only [if_pos d1, if_neg hnn, if_true]
                  by_cases d2 : gm A x y r 1 (wS (gmC A x y) (pBuy (woS (alW A)) x y)) ≤ gm A x y r 1 (wS (gmC A x y) (woS (alW A)))
                  · simp only [if_pos d2, if_so]
                  · simp only [if_neg d2, if_neg (show ¬ (1 : Int32) = 0 by decide), if_so]
                · simp only [if_neg d1, if_true, if_so]
              have red : ∀ (m fu : Nat) (E : Dt), m ≤ r → m < fu → QG A D E (woC (alW A)) 0 0 (-1) (-1) (woD (alW A)) (woS (alW A)) → (∀ c, c < 2 ^ (m + 1) → E.1 (11, 0, 52, 0) c = vl A x y (r - m) (m + 1) 0 (woS (alW A)) c) → ∃ D' o, F_X11_game_b90 (nI x) (nI y) (nI (r + 1)) u (fun l4_54 D55 => (if (D55.1 (11, 0, 52, 0) 1) = (-100000 : Int32) then (F_X11_game_b192 (nI x) (nI y) (nI (r + 1)) u l4_54 D55) else (if (D55.1 (11, 0, 52, 0) 1) ≤ (D55.1 (11, 0, 52, 0) 0) then (F_X11_game_b192 (nI x) (nI y) (nI (r + 1)) u l4_54 D55) else (F_X11_game_b193 (nI x) (nI y) (nI (r + 1)) u l4_54 (1 : Int32) D55)))) fu u (nI m) E = some ((if u = 0 then gm A x y (r + 1) 0 (woS (alW A)) else gmF true (pMay (woS (alW A)) x y) (gm A x y r 1 (wS (gmC A x y) (woS (alW A)))) (gm A x y r 1 (wS (gmC A x y) (pBuy (woS (alW A)) x y)))), D') ∧ QG A D D' (woC (alW A)) 0 0 (-1) o (woD (alW A)) (woS (alW A)) := by
                intro m
                induction m with
                | zero =>
                  intro fu E hm hf g hE
                  obtain ⟨fu, rfl⟩ : ∃ g, fu = g + 1 := ⟨fu - 1, by omega⟩
                  rw [F_X11_game_b90, if_pos (by decide)]
                  exact fin E g (fun c hc => hE c hc)
                | succ m ih =>
                  intro fu E hm hf g hE
                  obtain ⟨fu, rfl⟩ : ∃ g, fu = g + 1 := ⟨fu - 1, by omega⟩
                  rw [F_X11_game_b90, if_neg (nI_nle (by omega) (by omega))]
                  obtain ⟨E1, e1, v1, m1⟩ := r_layer (k := m + 1) (a1 := nI x) (a2 := nI y) (a3 := nI (r + 1)) (a4 := u) (l4 := u) (kk := (fun l4_50 l5_51 D52 => (bnd (l5_51 + (-1 : Int32)) (fun v53 => (F_X11_game_b90 (nI x) (nI y) (nI (r + 1)) u (fun l4_54 D55 => (if (D55.1 (11, 0, 52, 0) 1) = (-100000 : Int32) then (F_X11_game_b192 (nI x) (nI y) (nI (r + 1)) u l4_54 D55) else (if (D55.1 (11, 0, 52, 0) 1) ≤ (D55.1 (11, 0, 52, 0) 0) then (F_X11_game_b192 (nI x) (nI y) (nI (r + 1)) u l4_54 D55) else (F_X11_game_b193 (nI x) (nI y) (nI (r + 1)) u l4_54 (1 : Int32) D55)))) fu l4_50 v53 D52))))) (D := E) (by omega) hE
                  rw [e1, bnd_e, show nI (m + 1) + (-1 : Int32) = nI m from pk_m1 _]
                  refine ih fu E1 (by omega) (by omega) (qg_w g (p52_w m1)) (fun c hc => ?_)
                  rw [v1 c hc, show r - m = (r - (m + 1)) + 1 by omega]
                  have := vl_red (r := r - (m + 1)) hA hx hy (m + 1) 0 (woS (alW A)) c (gd0 hA)
                  rw [Nat.zero_add] at this
                  exact this
              have key : ∀ (m fu c : Nat) (E : Dt), c + m = 2 ^ (r + 1) → m < fu → QG A D E (woC (alW A)) 0 0 (-1) (-1) (woD (alW A)) (woS (alW A)) → (∀ c', c' < c → E.1 (11, 0, 52, 0) c' = vl A x y 0 (r + 1) 0 (woS (alW A)) c') → ∃ D' o, F_X11_game_b55 (nI x) (nI y) (nI (r + 1)) u (fun l3_27 l4_28 D29 => (bnd (l3_27 - (1 : Int32)) (fun v30 => (F_X11_game_b90 (nI x) (nI y) (nI (r + 1)) u (fun l4_54 D55 => (if (D55.1 (11, 0, 52, 0) 1) = (-100000 : Int32) then (F_X11_game_b192 (nI x) (nI y) (nI (r + 1)) u l4_54 D55) else (if (D55.1 (11, 0, 52, 0) 1) ≤ (D55.1 (11, 0, 52, 0) 0) then (F_X11_game_b192 (nI x) (nI y) (nI (r + 1)) u l4_54 D55) else (F_X11_game_b193 (nI x) (nI y) (nI (r + 1)) u l4_54 (1 : Int32) D55)))) 2000 l4_28 v30 D29)))) fu (nI x) (nI y) (nI (r + 1)) u (nI c) E = some ((if u = 0 then gm A x y (r + 1) 0 (woS (alW A)) else gmF true (pMay (woS (alW A)) x y) (gm A x y r 1 (wS (gmC A x y) (woS (alW A)))) (gm A x y r 1 (wS (gmC A x y) (pBuy (woS (alW A)) x y)))), D') ∧ QG A D D' (woC (alW A)) 0 0 (-1) o (woD (alW A)) (woS (alW A)) := by
                intro m
                induction m with
                | zero =>
                  intro fu c E hc hf g hE
                  obtain ⟨fu, rfl⟩ : ∃ g, fu = g + 1 := ⟨fu - 1, by omega⟩
                  rw [F_X11_game_b55, hsh, if_pos (nI_le (by omega) (by omega)), bnd_e, nI_pred]
                  exact red r 2000 E (Nat.le_refl _) (by omega) g (fun c' hc' => by rw [Nat.sub_self]; exact hE c' (by omega))
                | succ m ih =>
                  intro fu c E hc hf g hE
                  obtain ⟨fu, rfl⟩ : ∃ g, fu = g + 1 := ⟨fu - 1, by omega⟩
                  obtain ⟨E1, e1, g1, k1⟩ := r_playOf (code := c) hA hx hy hn hw ew (by omega) g
                  rw [F_X11_game_b55, hsh, if_neg (nI_ge (by omega) (by omega)), e1, cbd_s, grd_t (inBe (by omega) (by decide)), nIc (by omega), bnd_e, bnd_e, nI_1]
                  have m2 : Sm (fun la _ => la == (11, 0, 52, 0)) E1 (setI E1 (11, 0, 52, 0) c (vl A x y 0 (r + 1) 0 (woS (alW A)) c)) := Sm.sI (by simp)
                  refine ih fu (c + 1) _ (by omega) (by omega) (qg_w g1 (p52_w m2)) (fun c' hc' => ?_)
                  by_cases cc : c' = c
                  · rw [cc, gI_s]
                  · rw [gI, if_neg (fun z => cc z.2), k1]
                    exact hE c' (by omega)
              exact key (2 ^ (r + 1)) 2000 0 D1 (by omega) (by omega) g1 (fun c' hc' => absurd hc' (by omega))
          · refine cal_no hA (-100000) (fun D h => ?_) (fun D h => ?_)
            · rw [F_X10_game, c_areTwo h5 h.n, cbd_s, i1t ⟨⟨c1, c2⟩, hne⟩, c_within, cbd_s, i1t c3, c_within, cbd_s, i1f c4]
            · rw [F_X11_game, r_isLand h5 h.n, cbd_s, i1t c1, r_isLand h5 h.n, cbd_s, i1t c2, if_neg hne, r_in_1_4, cbd_s, i1t c3, r_in_0_1, cbd_s, i1f c4]
        · refine cal_no hA (-100000) (fun D h => ?_) (fun D h => ?_)
          · rw [F_X10_game, c_areTwo h5 h.n, cbd_s, i1t ⟨⟨c1, c2⟩, hne⟩, c_within, cbd_s, i1f c3]
          · rw [F_X11_game, r_isLand h5 h.n, cbd_s, i1t c1, r_isLand h5 h.n, cbd_s, i1t c2, if_neg hne, r_in_1_4, cbd_s, i1f c3]
    · refine cal_no hA (-100000) (fun D h => ?_) (fun D h => ?_)
      · rw [F_X10_game, c_areTwo h5 h.n, cbd_s, i1f (fun g => c2 g.1.2)]
      · rw [F_X11_game, r_isLand h5 h.n, cbd_s, i1t c1, r_isLand h5 h.n, cbd_s, i1f c2]
  · refine cal_no hA (-100000) (fun D h => ?_) (fun D h => ?_)
    · rw [F_X10_game, c_areTwo h5 h.n, cbd_s, i1f (fun g => c1 g.1.1)]
    · rw [F_X11_game, r_isLand h5 h.n, cbd_s, i1f c1]
