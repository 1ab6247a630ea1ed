theorem nI_m1 (t : Nat) : nI t - 1 = moL t := by
  cases t with
  | zero => rfl
  | succ u => rw [nI_pred, moL_s]
theorem pWk_mt {c : Cf} {s : St} {se : Int32} : (pWk c true s se).2.2.1 = true := by
  have hB : ∀ a (y : Wq), y.2.2.1 = true → (wB1 c a y).2.2.1 = true := fun a y h => by
    have : (wB1 c a y).2.2.1 = pkM c y.2.2.1 y.1 a := by unfold wB1; split <;> rfl
    rw [this, pkM]
    split
    · rfl
    · exact h
  have st : ∀ n (y : Wq), y.2.2.1 = true → (itr (wB1 c) n y).2.2.1 = true := by
    intro n
    induction n with
    | zero => intro y h; exact h
    | succ n ih => intro y h; rw [itr_s]; exact hB _ _ (ih y h)
  exact st _ _ rfl
theorem stC_ge2 (a y : Ac) : y.1 ≤ (stC a y).1 := by
  unfold stC
  split
  · assumption
  · exact Int32.le_refl _
theorem pow_b {B r : Nat} (hB : B ≤ 6) (hr : r ≤ 4) : B ^ r ≤ 1296 := Nat.le_trans (Nat.pow_le_pow_left hB r) (Nat.pow_le_pow_right (n := 6) (by decide) hr)
theorem qg_goesR {A : Al} {D0 D : Dt} {d : Int32} {x t w : Nat} {s : St} {m : Bool} (hA : okA A) (hx : x < shN (woH (alW A))) (ht : t ≤ shN (woH (alW A))) (g : QG A D0 D (woC (alW A)) 0 0 (nI x) (moL t) d s) (hg : Gd (shN (woH (alW A))) s) (hw : s 5 1 = nI w) (hw2 : w < 100000) (h43 : D.1 (11, 0, 0, 0) 43 = if m then 0 else 1) : ∃ r D', F_X11_goes D = some (r, D') ∧ QG A D0 D' (woC (alW A)) 0 0 (nI x) (moL t) d (pWk (rwC A x t) m s 0).1 ∧ D'.1 (11, 0, 0, 0) 43 = (if (pWk (rwC A x t) m s 0).2.2.1 then 0 else 1) ∧ Sm moS D D' := by
  have h5 := hA.1.1
  have hs : rdM D = s := g.2.2.2.2.2.2.2.2.1
  have ho : moL t = -1 ∨ inB (moL t) (shN (woH (alW A))) = true := by
    unfold moL
    by_cases c : t = 0
    · rw [if_pos c]; exact Or.inl rfl
    · rw [if_neg c]; exact Or.inr (inBe (by omega) (by omega))
  obtain ⟨D', e, r, m', mo⟩ := r_goes (D := D) (w := w) (m := m) (c := rwC A x t) 0 (cfX_ok hA) (qg_cfm hA (okF hA) g (Or.inr ⟨rfl, rfl, ho⟩)) (by rw [hs]; exact hg) (by rw [hs]; exact hw) hw2 (Or.inr h43)
  rw [hs] at e r m'
  refine ⟨_, D', e, qg_mo g mo r, ?_, mo⟩
  rcases m' with y | y
  · exact absurd y (nI_nem1 (by omega))
  · exact y
theorem qg_41 {A : Al} {D0 D : Dt} {f d v o : Int32} {x : Nat} {s : St} (g : QG A D0 D f 0 0 (nI x) o d s) : QG A D0 (setI D (11, 0, 0, 0) 41 v) f 0 0 (nI x) v d s := by
  have g2 := qg_0 (D' := setI D (11, 0, 0, 0) 41 v) g (Sm.sI (by simp))
  have z1 : (setI D (11, 0, 0, 0) 41 v).1 (11, 0, 0, 0) 39 = 0 := by rw [gI, if_neg (by simp)]; exact g.2.2.2.2.1
  have z2 : (setI D (11, 0, 0, 0) 41 v).1 (11, 0, 0, 0) 42 = 0 := by rw [gI, if_neg (by simp)]; exact g.2.2.2.2.2.1
  have z3 : (setI D (11, 0, 0, 0) 41 v).1 (11, 0, 0, 0) 40 = nI x := by rw [gI, if_neg (by simp)]; exact g.2.2.2.2.2.2.1
  have z4 : (setI D (11, 0, 0, 0) 41 v).1 (11, 0, 0, 0) 41 = v := gI_s
  rw [z1, z2, z3, z4] at g2
  exact g2
theorem r_rowLoop {A : Al} {D0 : Dt} {d a1 a2 a3 a4 : Int32} {kk : Int32 → Dt → Option (Int32 × Dt)} {x n w code : Nat} (hA : okA A) (hx : x < shN (woH (alW A))) (hn : n ≤ 4) (hw : w ≤ 999) (hcd : code < 100000) : ∀ r fu k E s tr m, k + r = n → r < fu → (∃ o, QG A D0 E (woC (alW A)) 0 0 (nI x) o d s) → Gd (shN (woH (alW A))) s → s 5 1 = nI (w + k) → E.1 (11, 0, 0, 0) 43 = (if m = true then 0 else 1) → (∀ k', k' < k → E.1 (11, 0, 50, 0) k' = tr k') → ∃ D' s', F_X11_barnByRow_b17 a1 a2 a3 a4 kk fu (nI x) (nI n) (nI code) (nI ((shN (woH (alW A)) + 1) ^ r)) (nI k) E = kk (nI x) D' ∧ (∃ o, QG A D0 D' (woC (alW A)) 0 0 (nI x) o d s') ∧ (∀ q, D'.1 (11, 0, 51, 0) q = E.1 (11, 0, 51, 0) q) ∧ (m = true → D'.1 (11, 0, 0, 0) 43 = 0) ∧ (m = false → ((run A x (shN (woH (alW A)) + 1) r k s tr code).1 = -1 ∧ D'.1 (11, 0, 0, 0) 43 = 0) ∨ (D'.1 (11, 0, 0, 0) 43 = 1 ∧ s' 3 x = (run A x (shN (woH (alW A)) + 1) r k s tr code).1 ∧ ∀ k', k' < n → D'.1 (11, 0, 50, 0) k' = (run A x (shN (woH (alW A)) + 1) r k s tr code).2 k')) := by
  have h5 := hA.1.1
  generalize hB : shN (woH (alW A)) + 1 = B
  have hB6 : B ≤ 6 := by omega
  have hB0 : 0 < B := by omega
  intro r
  induction r with
  | zero =>
    intro fu k E s tr m hk hf g hg hwk h43 htr
    obtain ⟨fu, rfl⟩ : ∃ g, fu = g + 1 := ⟨fu - 1, by omega⟩
    rw [F_X11_barnByRow_b17, if_pos (nI_le (by omega) (by omega))]
    refine ⟨E, s, rfl, g, fun _ => rfl, fun hm => by rw [h43, if_pos hm], fun hm => Or.inr ⟨by rw [h43, hm]; rfl, rfl, fun k' hk' => ?_⟩⟩
    exact htr k' (by omega)
  | succ r ih =>
    intro fu k E s tr m hk hf g hg hwk h43 htr
    obtain ⟨fu, rfl⟩ : ∃ g, fu = g + 1 := ⟨fu - 1, by omega⟩
    obtain ⟨o, g⟩ := g
    have hp1 := pow_b hB6 (show r + 1 ≤ 4 by omega)
    have hp2 := pow_b hB6 (show r ≤ 4 by omega)
    have hpp : 0 < B ^ r := Nat.pow_pos hB0
    have hdiv : B ^ (r + 1) / B = B ^ r := by rw [Nat.pow_succ, Nat.mul_div_cancel _ hB0]
    have hdl : code / B ^ r ≤ code := Nat.div_le_self _ _
    have htB : code / B ^ r % B < B := Nat.mod_lt _ hB0
    rw [F_X11_barnByRow_b17, if_neg (nI_ge (by omega) (by omega)), qg_n g, nI_1, hB, grd_t (nI_ne0 (by omega) (by omega)), pk_div (by omega) hB0 (by omega), hdiv, bnd_e, grd_t (nI_ne0 hpp (by omega)), pk_div (by omega) hpp (by omega), pk_rem (by omega) hB0 (by omega), nI_m1, bnd_e, grd_t (inBe (show k < 4 by omega) (by decide)), nIc (by omega), bnd_e, gI_s]
    have hrun : run A x B (r + 1) k s tr code = if rwM A x (code / B ^ r % B) s = true then (-1, tr) else run A x B r (k + 1) (rwS A x (code / B ^ r % B) s) (put1 tr k (moL (code / B ^ r % B))) code := rfl
    generalize code / B ^ r % B = t at htB hrun ⊢
    have g1 := qg_41 (v := moL t) g
    have m2 : Sm (fun la _ => la.1 == 11 && decide (50 ≤ la.2.2.1 ∧ la.2.2.1 ≤ 54)) (setI E (11, 0, 0, 0) 41 (moL t)) (setI (setI E (11, 0, 0, 0) 41 (moL t)) (11, 0, 50, 0) k (moL t)) := Sm.sI (by simp)
    have g2 := qg_w g1 m2
    have x43 : (setI (setI E (11, 0, 0, 0) 41 (moL t)) (11, 0, 50, 0) k (moL t)).1 (11, 0, 0, 0) 43 = if m = true then 0 else 1 := by rw [gI, if_neg (by simp), gI, if_neg (by simp)]; exact h43
    have x50 : ∀ k', k' < k + 1 → (setI (setI E (11, 0, 0, 0) 41 (moL t)) (11, 0, 50, 0) k (moL t)).1 (11, 0, 50, 0) k' = put1 tr k (moL t) k' := fun k' hk' => by
      unfold put1
      by_cases c : k' = k
      · rw [c, gI_s, if_pos rfl]
      · rw [gI, if_neg (fun y => c y.2), gI, if_neg (by simp), if_neg c]
        exact htr k' (by omega)
    have x51 : ∀ q, (setI (setI E (11, 0, 0, 0) 41 (moL t)) (11, 0, 50, 0) k (moL t)).1 (11, 0, 51, 0) q = E.1 (11, 0, 51, 0) q := fun q => by rw [gI, if_neg (by simp), gI, if_neg (by simp)]
    generalize setI (setI E (11, 0, 0, 0) 41 (moL t)) (11, 0, 50, 0) k (moL t) = E2 at g2 x43 x50 x51 ⊢
    obtain ⟨r3, E3, e3, g3, y43, mo3⟩ := qg_goesR (m := m) hA hx (show t ≤ shN (woH (alW A)) by omega) g2 hg hwk (by omega) x43
    rw [e3, cbd_s, bnd_e, nI_1]
    have hg3 : Gd (shN (woH (alW A))) (pWk (rwC A x t) m s 0).1 := hg.wk (c := rwC A x t) (cfX_ok hA)
    obtain ⟨D', s', e4, g4, k4, t4, f4⟩ := ih fu (k + 1) E3 (pWk (rwC A x t) m s 0).1 (put1 tr k (moL t)) (pWk (rwC A x t) m s 0).2.2.1 (by omega) (by omega) ⟨_, g3⟩ hg3 (by rw [pWk_wk, hwk, nI_1]; rfl) y43 (fun k' hk' => by rw [mo3.i (by simp [moS])]; exact x50 k' hk')
    refine ⟨D', s', e4, g4, fun q => by rw [k4, mo3.i (by simp [moS]), x51], fun hm => ?_, fun hm => ?_⟩
    · subst hm
      exact t4 pWk_mt
    · subst hm
      rw [hrun]
      by_cases c : rwM A x t s = true
      · rw [if_pos c]
        exact Or.inl ⟨rfl, t4 c⟩
      · rw [if_neg c]
        exact f4 (by simpa [rwM] using c)
theorem qg_40 {A : Al} {D0 D : Dt} {f d v c o : Int32} {s : St} (g : QG A D0 D f 0 0 c o d s) (hv : v = -1 ∨ D.1 (11, 0, 0, 0) 41 = o) : QG A D0 (setI D (11, 0, 0, 0) 40 v) f 0 0 v o d s := by
  have g2 := qg_0 (D' := setI D (11, 0, 0, 0) 40 v) g (Sm.sI (by simp))
  have z1 : (setI D (11, 0, 0, 0) 40 v).1 (11, 0, 0, 0) 39 = 0 := by rw [gI, if_neg (by simp)]; exact g.2.2.2.2.1
  have z2 : (setI D (11, 0, 0, 0) 40 v).1 (11, 0, 0, 0) 42 = 0 := by rw [gI, if_neg (by simp)]; exact g.2.2.2.2.2.1
  have z3 : (setI D (11, 0, 0, 0) 40 v).1 (11, 0, 0, 0) 40 = v := gI_s
  have z4 : (setI D (11, 0, 0, 0) 40 v).1 (11, 0, 0, 0) 41 = D.1 (11, 0, 0, 0) 41 := by rw [gI, if_neg (by simp)]
  rw [z1, z2, z3, z4] at g2
  obtain ⟨g1, g2, g3, g4, g5, g6, g7, g8, g9, g10⟩ := g2
  refine ⟨g1, g2, g3, g4, g5, g6, g7, ?_, g9, g10⟩
  rcases hv with y | y
  · exact Or.inl y
  · exact Or.inr (z4.trans y)
theorem r_barnRow {A : Al} {D0 D : Dt} {x n w code : Nat} (hA : okA A) (hx : x < shN (woH (alW A))) (hn : n ≤ 4) (hw : w ≤ 999) (ew : woS (alW A) 5 1 = nI w) (hcd : code < 100000) (g : QG A D0 D (woC (alW A)) 0 0 (-1) (-1) (woD (alW A)) (woS (alW A))) : ∃ D', F_X11_barnByRow (nI x) (nI n) (nI code) (nI ((shN (woH (alW A)) + 1) ^ n)) D = some ((run A x (shN (woH (alW A)) + 1) n 0 (woS (alW A)) (fun _ => 0) code).1, D') ∧ QG A D0 D' (woC (alW A)) 0 0 (-1) (-1) (woD (alW A)) (woS (alW A)) ∧ (∀ q, D'.1 (11, 0, 51, 0) q = D.1 (11, 0, 51, 0) q) ∧ ((run A x (shN (woH (alW A)) + 1) n 0 (woS (alW A)) (fun _ => 0) code).1 = -1 ∨ ∀ k', k' < n → D'.1 (11, 0, 50, 0) k' = (run A x (shN (woH (alW A)) + 1) n 0 (woS (alW A)) (fun _ => 0) code).2 k') := by
  have h5 := hA.1.1
  rw [F_X11_barnByRow, bnd_e, bnd_e]
  have g0 : QG A D0 D (woC (alW A)) 0 0 (-1) (D.1 (11, 0, 0, 0) 41) (woD (alW A)) (woS (alW A)) := ⟨g.1, g.2.1, g.2.2.1, g.2.2.2.1, g.2.2.2.2.1, g.2.2.2.2.2.1, g.2.2.2.2.2.2.1, Or.inl rfl, g.2.2.2.2.2.2.2.2⟩
  have g1 := qg_40 (v := nI x) g0 (Or.inr rfl)
  have m2 : Sm (fun la k => la == (11, 0, 0, 0) && decide (39 ≤ k ∧ k ≤ 43)) (setI D (11, 0, 0, 0) 40 (nI x)) (setI (setI D (11, 0, 0, 0) 40 (nI x)) (11, 0, 0, 0) 43 1) := Sm.sI (by simp)
  have g2 := qg_0 g1 m2
  have z1 : (setI (setI D (11, 0, 0, 0) 40 (nI x)) (11, 0, 0, 0) 43 1).1 (11, 0, 0, 0) 39 = 0 := by rw [gI, if_neg (by simp)]; exact g1.2.2.2.2.1
  have z2 : (setI (setI D (11, 0, 0, 0) 40 (nI x)) (11, 0, 0, 0) 43 1).1 (11, 0, 0, 0) 42 = 0 := by rw [gI, if_neg (by simp)]; exact g1.2.2.2.2.2.1
  have z3 : (setI (setI D (11, 0, 0, 0) 40 (nI x)) (11, 0, 0, 0) 43 1).1 (11, 0, 0, 0) 40 = nI x := by rw [gI, if_neg (by simp)]; exact g1.2.2.2.2.2.2.1
  rw [z1, z2, z3] at g2
  have x51 : ∀ q, (setI (setI D (11, 0, 0, 0) 40 (nI x)) (11, 0, 0, 0) 43 1).1 (11, 0, 51, 0) q = D.1 (11, 0, 51, 0) q := fun q => by rw [gI, if_neg (by simp), gI, if_neg (by simp)]
  have x43 : (setI (setI D (11, 0, 0, 0) 40 (nI x)) (11, 0, 0, 0) 43 1).1 (11, 0, 0, 0) 43 = if false = true then 0 else 1 := gI_s
  obtain ⟨E, s', e, ⟨o, gE⟩, kE, _, fE⟩ := r_rowLoop (A := A) (D0 := D0) (a1 := nI x) (a2 := nI n) (a3 := nI code) (a4 := nI ((shN (woH (alW A)) + 1) ^ n)) (kk := (fun l1_14 D15 => (bnd (setI D15 (11, 0, 0, 0) 40 (-1 : Int32)) (fun D16 => (if (D16.1 (11, 0, 0, 0) 43) = 0 then (F_X11_barnByRow_b99 (nI x) (nI n) (nI code) (nI ((shN (woH (alW A)) + 1) ^ n)) (-1 : Int32) D16) else (grd (inB l1_14 5 = true) (F_X11_barnByRow_b99 (nI x) (nI n) (nI code) (nI ((shN (woH (alW A)) + 1) ^ n)) (D16.1 (11, 0, 6, 0) (l1_14.toNatClampNeg)) D16))))))) (x := x) (n := n) (w := w) (code := code) hA hx hn hw hcd n 2000 0 _ (woS (alW A)) (fun _ => 0) false (by omega) (by omega) ⟨_, g2⟩ (gd0 hA) ew x43 (fun k' hk' => absurd hk' (by omega))
  rw [show F_X11_barnByRow_b17 (nI x) (nI n) (nI code) (nI ((shN (woH (alW A)) + 1) ^ n)) _ 2000 (nI x) (nI n) (nI code) (nI ((shN (woH (alW A)) + 1) ^ n)) 0 _ = _ from e, bnd_e]
  have g3 := qg_40 (v := -1) gE (Or.inl rfl)
  have y43 : (setI E (11, 0, 0, 0) 40 (-1)).1 (11, 0, 0, 0) 43 = E.1 (11, 0, 0, 0) 43 := by rw [gI, if_neg (by simp)]
  have y6 : (setI E (11, 0, 0, 0) 40 (-1)).1 (11, 0, 6, 0) x = s' 3 x := by rw [m_barn (by omega), show rdM (setI E (11, 0, 0, 0) 40 (-1)) = s' from g3.2.2.2.2.2.2.2.2.1]
  have y5 : ∀ q k, q ≠ 0 → (setI E (11, 0, 0, 0) 40 (-1)).1 (11, 0, q, 0) k = E.1 (11, 0, q, 0) k := fun q k hq => by rw [gI, if_neg (by simp [hq])]
  rw [y43, nIc (by omega), y6]
  generalize setI E (11, 0, 0, 0) 40 (-1) = E4 at g3 y5 ⊢
  obtain ⟨E5, e5, g5, k5, _⟩ := qg_laysx g3
  have g5' : QG A D0 E5 (woC (alW A)) 0 0 (-1) (-1) (woD (alW A)) (woS (alW A)) := ⟨g5.1, g5.2.1, g5.2.2.1, g5.2.2.2.1, g5.2.2.2.2.1, g5.2.2.2.2.2.1, g5.2.2.2.2.2.2.1, Or.inl rfl, g5.2.2.2.2.2.2.2.2⟩
  have k51 : ∀ q, E5.1 (11, 0, 51, 0) q = D.1 (11, 0, 51, 0) q := fun q => by rw [k5 51 _ (by decide) (by decide), y5 51 _ (by decide), kE, x51]
  simp only [F_X11_barnByRow_b99, e5, vbd_s]
  rcases fE rfl with ⟨h1, h2⟩ | ⟨h1, h2, h3⟩
  · rw [if_pos h2]
    exact ⟨E5, by rw [h1], g5', k51, Or.inl h1⟩
  · rw [if_neg (by rw [h1]; decide), grd_t (inBe (by omega) (by decide))]
    exact ⟨E5, by rw [h2], g5', k51, Or.inr (fun k' hk' => by rw [k5 50 _ (by decide) (by decide), y5 50 _ (by decide)]; exact h3 k' hk')⟩
def rwA (A : Al) (x n c : Nat) : Ac := itr (fun c a => stC a (run A x (shN (woH (alW A)) + 1) n 0 (woS (alW A)) (fun _ => 0) c)) c (-1, fun _ => 0)
theorem rwA_pos {A : Al} {x n : Nat} (hA : okA A) : 0 ≤ (rwA A x n ((shN (woH (alW A)) + 1) ^ n)).1.toInt := by
  have hp : 0 < (shN (woH (alW A)) + 1) ^ n := Nat.pow_pos (by omega)
  obtain ⟨m, hm⟩ : ∃ m, (shN (woH (alW A)) + 1) ^ n = 1 + m := ⟨(shN (woH (alW A)) + 1) ^ n - 1, by omega⟩
  unfold rwA
  rw [hm, itr_add]
  have h1 := itC_ge (f := fun c => run A x (shN (woH (alW A)) + 1) n 0 (woS (alW A)) (fun _ => 0) (1 + c)) (a := itr (fun c a => stC a (run A x (shN (woH (alW A)) + 1) n 0 (woS (alW A)) (fun _ => 0) c)) 1 (-1, fun _ => 0)) m
  have h2 : (run A x (shN (woH (alW A)) + 1) n 0 (woS (alW A)) (fun _ => 0) 0).1 ≤ (itr (fun c a => stC a (run A x (shN (woH (alW A)) + 1) n 0 (woS (alW A)) (fun _ => 0) c)) 1 (-1, fun _ => 0)).1 := stC_ge2 _ _
  have h3 := run_0 (x := x) (B := shN (woH (alW A)) + 1) hA (by omega) n 0 (woS (alW A)) (fun _ => 0) (gd0 hA)
  rw [fa_le] at h1 h2
  omega
theorem c_findRow {A : Al} {D : Dt} {x n : Nat} (hA : okA A) (hx : x < shN (woH (alW A))) (hn : n ≤ 4) (h : RC D A) : ∃ D', F_X1_findRow (nI x) (nI n) D = some D' ∧ accC D' n (rwA A x n ((shN (woH (alW A)) + 1) ^ n)) ∧ Sm qS D D' := by
  have h5 := hA.1.1
  have ht := land_there hA hx
  obtain ⟨w, hw, ew⟩ := wk0 hA
  obtain ⟨D1, e1, q1, s1, z1⟩ := qc_start (i := 106) (by decide) (by decide) hA ht h
  rw [F_X1_findRow, e1, vbd_s, bnd_e, bnd_e]
  have m2 : Sm (fun la k => la == (8, 1, 0, 0) && decide (2 ≤ k)) D1 (setI D1 (8, 1, 0, 0) 4 (nI x)) := Sm.sI (by simp)
  have c2 := q1.2.1.set8 m2
  have f2 : (setI D1 (8, 1, 0, 0) 4 (nI x)).1 (8, 1, 0, 0) 2 = 0 ∧ (setI D1 (8, 1, 0, 0) 4 (nI x)).1 (8, 1, 0, 0) 3 = 0 ∧ (setI D1 (8, 1, 0, 0) 4 (nI x)).1 (8, 1, 0, 0) 5 = -1 := by
    obtain ⟨_, _, _, _, _, _, _, _, y2, y3, _, y5⟩ := q1.2.1
    refine ⟨?_, ?_, ?_⟩
    · rw [gI, if_neg (by simp)]; exact y2
    · rw [gI, if_neg (by simp)]; exact y3
    · rw [gI, if_neg (by simp)]; exact y5
  rw [f2.1, f2.2.1, f2.2.2, gI_s] at c2
  have c2' : CfC (setI D1 (8, 1, 0, 0) 4 (nI x)) 1 (rwC A x 0) := c2
  have mq2 : Sm qS D1 (setI D1 (8, 1, 0, 0) 4 (nI x)) := Sm.sI (by simp [qS])
  have r2 : rdS (setI D1 (8, 1, 0, 0) 4 (nI x)) 106 = woS (alW A) := by rw [rdS_sI (by simp)]; exact q1.2.2.2
  generalize setI D1 (8, 1, 0, 0) 4 (nI x) = D2 at c2' mq2 r2 ⊢
  have m3 : Sm (fun la _ => la.1 == 1) D2 (setI D2 (1, 0, 0, 0) 11 (-1)) := Sm.sI (by simp)
  have mq3 : Sm qS D2 (setI D2 (1, 0, 0, 0) 11 (-1)) := Sm.sI (by simp [qS])
  obtain ⟨D4, e4, ⟨_, _, _, _, a4⟩, f4⟩ := c_rows (w := w) hA hx hn hw n 40 0 (setI D2 (1, 0, 0, 0) 11 (-1)) (woS (alW A)) (fun _ => 0) (-1, fun _ => 0) (by omega) (by omega) (gd0 hA) ew ⟨(q1.1.scr mq2).scr mq3, ⟨0, c2'.smx m3 (fun k _ => by simp) (fun _ _ _ _ => by simp) (fun _ _ _ _ => by simp)⟩, by rw [rdS_sm m3 (fun q k => by simp)]; exact r2, fun k hk => absurd hk (by omega), gI_s, Or.inl rfl⟩
  rw [(trS_run (B := shN (woH (alW A)) + 1) (by omega) n 0 (woS (alW A)) (fun _ => 0) (-1, fun _ => 0) (Int32.le_refl _)).1] at a4
  rw [show F_X1_tryRows 0 (nI n) (nI x) _ = _ from e4, vbd_s]
  exact ⟨D4, rfl, a4, ((s1.trans mq2).trans mq3).trans f4.2.2⟩
theorem p_row (a b v : Int32) : Cal (F_X10_row a b v) (F_X11_row a b v) := by
  refine cal_of (fun A hA => ?_)
  have h5 := hA.1.1
  by_cases c1 : inB a (shN (woH (alW A))) = true
  · obtain ⟨x, hx, rfl⟩ := inB_ex c1 (by omega)
    by_cases c2 : (1 : Int32) ≤ b ∧ b ≤ 4
    · obtain ⟨n, hn, rfl⟩ := nI_of2 (x := b) (M := 4) (n := 4) rfl (fun g => by have := c2.1; rw [fa_lt] at g; rw [fa_le] at this; have : (0 : Int32).toInt = 0 := rfl; have : (1 : Int32).toInt = 1 := rfl; omega) c2.2
      by_cases c3 : (0 : Int32) ≤ v ∧ v ≤ 4
      · obtain ⟨u, hu, rfl⟩ := nI_of2 (x := v) (M := 4) (n := 4) rfl (fun g => (fa_of_lt g).2.1 c3.1) c3.2
        obtain ⟨w, hw, ew⟩ := wk0 hA
        have hpos := rwA_pos (x := x) (n := n) hA
        have hne : ¬ (rwA A x n ((shN (woH (alW A)) + 1) ^ n)).1 = -1 := fun y => by rw [y] at hpos; exact absurd hpos (by decide)
        have hpb := pow_b (B := shN (woH (alW A)) + 1) (by omega) hn
        refine cal_ask hA (if n < u then -2 else if u = 0 then (rwA A x n ((shN (woH (alW A)) + 1) ^ n)).1 else (rwA A x n ((shN (woH (alW A)) + 1) ^ n)).2 (u - 1)) (fun D h => ?_) (fun D h => ?_)
        · rw [F_X10_row, c_isLand h5 h.n, cbd_s, i1t c1, c_within, cbd_s, i1t c2, c_within, cbd_s, i1t c3]
          by_cases d1 : n < u
          · rw [if_neg (nI_ge d1 (by omega)), if_pos d1]
            exact ⟨D, rfl, Sm.refl⟩
          · rw [if_pos (nI_le (by omega) (by omega)), if_neg d1]
            obtain ⟨D1, e1, a1, s1⟩ := c_findRow hA hx hn h
            rw [e1, vbd_s, a1.1]
            by_cases d2 : u = 0
            · rw [if_pos (by rw [d2]; rfl), if_pos d2]
              exact ⟨D1, rfl, s1⟩
            · obtain ⟨u', rfl⟩ : ∃ u', u = u' + 1 := ⟨u - 1, by omega⟩
              rw [if_neg (nI_ne0 (by omega) (by omega)), if_neg d2, nI_pred, grd_t (inBe (by omega) (by decide)), nIc (by omega), (a1.2.resolve_left hne) u' (by omega)]
              exact ⟨D1, rfl, s1⟩
        · rw [F_X11_row, r_isLand h5 h.n, cbd_s, i1t c1, r_in_1_4, cbd_s, i1t c2, r_in_0_4, cbd_s, i1t c3]
          have pw : ∀ (kk : Int32 → Int32 → Int32 → Int32 → Dt → Option (Int32 × Dt)) (m fu k : Nat), k + m = n → m < fu → F_X11_row_b41 (nI x) (nI n) (nI u) kk fu (nI x) (nI n) (nI u) (nI ((shN (woH (alW A)) + 1) ^ k)) (nI k) D = kk (nI x) (nI n) (nI u) (nI ((shN (woH (alW A)) + 1) ^ n)) D := by
            intro kk m
            induction m with
            | zero =>
              intro fu k hk hf
              obtain ⟨fu, rfl⟩ : ∃ g, fu = g + 1 := ⟨fu - 1, by omega⟩
              have : k = n := by omega
              subst this
              rw [F_X11_row_b41, if_pos (nI_le (Nat.le_refl _) (by omega))]
            | succ m ih =>
              intro fu k hk hf
              obtain ⟨fu, rfl⟩ : ∃ g, fu = g + 1 := ⟨fu - 1, by omega⟩
              rw [F_X11_row_b41, if_neg (nI_ge (by omega) (by omega)), h.n, nI_1, pk_mul, ← Nat.pow_succ, bnd_e, bnd_e, nI_1]
              exact ih fu (k + 1) (by omega) (by omega)
          rw [show F_X11_row_b41 (nI x) (nI n) (nI u) _ 2000 (nI x) (nI n) (nI u) 1 0 D = _ from pw _ n 2000 0 (by omega) (by omega)]
          obtain ⟨D1, e1, g1⟩ := qg_start h
          rw [e1, vbd_s]
          have key : ∀ (m fu c : Nat) (E : Dt), c + m = (shN (woH (alW A)) + 1) ^ n → m < fu → QG A D E (woC (alW A)) 0 0 (-1) (-1) (woD (alW A)) (woS (alW A)) → ((rwA A x n c).1 = -1 ∨ ∀ k, k < n → E.1 (11, 0, 51, 0) k = (rwA A x n c).2 k) → ∃ D' o, F_X11_row_b76 (nI x) (nI n) (nI u) (fun l2_45 l3_46 l5_47 D48 => (if l3_46 = 0 then (some (l5_47, D48)) else (if l2_45 < l3_46 then (some ((-2 : Int32), D48)) else (grd (inB (l3_46 - (1 : Int32)) 4 = true) (some ((D48.1 (11, 0, 51, 0) ((l3_46 - (1 : Int32)).toNatClampNeg)), D48)))))) fu (nI x) (nI n) (nI u) (nI ((shN (woH (alW A)) + 1) ^ n)) (rwA A x n c).1 (nI c) E = some ((if n < u then -2 else if u = 0 then (rwA A x n ((shN (woH (alW A)) + 1) ^ n)).1 else (rwA A x n ((shN (woH (alW A)) + 1) ^ n)).2 (u - 1)), D') ∧ QG A D D' (woC (alW A)) 0 0 (-1) o (woD (alW A)) (woS (alW A)) := by
            intro m
            induction m with
            | zero =>
              intro fu c E hc hf g hb
              obtain ⟨fu, rfl⟩ : ∃ g, fu = g + 1 := ⟨fu - 1, by omega⟩
              have hce : c = (shN (woH (alW A)) + 1) ^ n := by omega
              rw [← hce] at hne ⊢
              rw [F_X11_row_b76, if_pos (nI_le (Nat.le_refl _) (by omega))]
              by_cases d2 : u = 0
              · rw [if_pos (by rw [d2]; rfl), if_neg (by omega), if_pos d2]
                exact ⟨E, _, rfl, g⟩
              · rw [if_neg (nI_ne0 (by omega) (by omega))]
                by_cases d1 : n < u
                · rw [if_pos (nI_lt d1 (by omega)), if_pos d1]
                  exact ⟨E, _, rfl, g⟩
                · obtain ⟨u', rfl⟩ : ∃ u', u = u' + 1 := ⟨u - 1, by omega⟩
                  rw [if_neg (nI_nlt (by omega) (by omega)), if_neg d1, if_neg d2, nI_pred, grd_t (inBe (by omega) (by decide)), nIc (by omega), (hb.resolve_left hne) u' (by omega)]
                  exact ⟨E, _, rfl, g⟩
            | succ m ih =>
              intro fu c E hc hf g hb
              obtain ⟨fu, rfl⟩ : ∃ g, fu = g + 1 := ⟨fu - 1, by omega⟩
              obtain ⟨E1, e1, g1, k1, b1⟩ := r_barnRow (code := c) hA hx hn hw ew (by omega) g
              have hs : rwA A x n (c + 1) = stC (rwA A x n c) (run A x (shN (woH (alW A)) + 1) n 0 (woS (alW A)) (fun _ => 0) c) := rfl
              generalize run A x (shN (woH (alW A)) + 1) n 0 (woS (alW A)) (fun _ => 0) c = R at e1 b1 hs
              rw [F_X11_row_b76, if_neg (nI_ge (by omega) (by omega)), e1, cbd_s]
              simp only [F_X11_row_b117, bnd_e, nI_1]
              by_cases d : R.1 ≤ (rwA A x n c).1
              · rw [if_pos d]
                have hs' : rwA A x n (c + 1) = rwA A x n c := by rw [hs, stC, if_pos d]
                have nx := ih fu (c + 1) E1 (by omega) (by omega) g1 (by
                  rw [hs']
                  rcases hb with y | y
                  · exact Or.inl y
                  · exact Or.inr (fun k hk => by rw [k1]; exact y k hk))
                rw [hs'] at nx
                exact nx
              · rw [if_neg d]
                have hs' : rwA A x n (c + 1) = R := by rw [hs, stC, if_neg d]
                obtain ⟨E2, e2, v2, m2⟩ := r_copies (D := E1) (a1 := (11, 0, 50, 0)) (a2 := (11, 0, 51, 0)) (n := 4) (by decide) (by decide) rfl rfl (by decide) (by decide)
                have m2' : Sm (fun la _ => la.1 == 11 && decide (50 ≤ la.2.2.1 ∧ la.2.2.1 ≤ 54)) E1 E2 := m2.mono (fun la k e => by
                  rw [Bool.and_eq_false_iff, beq_eq_false_iff_ne]
                  left
                  rintro rfl
                  simp at e)
                rw [e2, vbd_s]
                have nx := ih fu (c + 1) E2 (by omega) (by omega) (qg_w g1 m2') (by
                  rw [hs']
                  rcases b1 with y | y
                  · exact Or.inl y
                  · exact Or.inr (fun k hk => by rw [v2 k (by omega)]; exact y k hk))
                rw [hs'] at nx
                exact nx
          exact key ((shN (woH (alW A)) + 1) ^ n) 2000 0 D1 (by omega) (by omega) g1 (Or.inl rfl)
      · refine cal_no hA (-3) (fun D h => ?_) (fun D h => ?_)
        · rw [F_X10_row, c_isLand h5 h.n, cbd_s, i1t c1, c_within, cbd_s, i1t c2, c_within, cbd_s, i1f c3]
        · rw [F_X11_row, r_isLand h5 h.n, cbd_s, i1t c1, r_in_1_4, cbd_s, i1t c2, r_in_0_4, cbd_s, i1f c3]
    · refine cal_no hA (-3) (fun D h => ?_) (fun D h => ?_)
      · rw [F_X10_row, c_isLand h5 h.n, cbd_s, i1t c1, c_within, cbd_s, i1f c2]
      · rw [F_X11_row, r_isLand h5 h.n, cbd_s, i1t c1, r_in_1_4, cbd_s, i1f c2]
  · refine cal_no hA (-3) (fun D h => ?_) (fun D h => ?_)
    · rw [F_X10_row, c_isLand h5 h.n, cbd_s, i1f c1]
    · rw [F_X11_row, r_isLand h5 h.n, cbd_s, i1f c1]
