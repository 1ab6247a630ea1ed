theorem qg_0 {A : Al} {D0 D D' : Dt} {f h i c o d : Int32} {s : St} (g : QG A D0 D f h i c o d s) (m : Sm (fun la k => la == (11, 0, 0, 0) && decide (39 ≤ k ∧ k ≤ 43)) D D') : QG A D0 D' f (D'.1 (11, 0, 0, 0) 39) (D'.1 (11, 0, 0, 0) 42) (D'.1 (11, 0, 0, 0) 40) (D'.1 (11, 0, 0, 0) 41) d s := by
  obtain ⟨g1, g2, g3, g4, g5, g6, g7, g8, g9, g10⟩ := g
  have mq : Sm qmS D D' := m.mono (fun la k e => by
    rw [Bool.and_eq_false_iff]
    by_cases c : la = (11, 0, 0, 0)
    · right
      rw [c] at e
      simp [qmS] at e
      simp
      omega
    · left
      rw [beq_eq_false_iff_ne]
      exact c)
  refine ⟨g1, g2.trans mq, fun q k hq hk => ?_, ?_, rfl, rfl, rfl, Or.inr rfl, ?_, ?_⟩
  · rw [m.i (by simp)]; exact g3 q k hq hk
  · rw [m.i (by simp)]; exact g4
  · rw [rdM_sm m (fun q k _ _ => by simp) (fun k _ => by simp)]; exact g9
  · rw [m.i (by simp)]; exact g10
def shC (A : Al) (j : Nat) : Cf := cfX A (woC (alW A)) (nI j) 0 (-1) (-1)
def shT (A : Al) (n j : Nat) : St × Int32 := tB (shC A j) n (woS (alW A), 0)
def shV (A : Al) (n j : Nat) : Int32 := totS (sI (shC A j) n (woS (alW A))) 3
theorem shT_tot {A : Al} {n j : Nat} (hA : okA A) : totS (shT A n j).1 3 = shV A n j := tB_tot (c := shC A j) (x := (woS (alW A), 0)) (cfX_ok hA) (gd0 hA)
theorem shT_skip {A : Al} {n j x : Nat} (hA : okA A) (hj : j < 32) (hx : x < 5) (ht : tb j x = true) (hs : hasB (shT A n (j - 2 ^ x)).2 x = false) : shT A n j = shT A n (j - 2 ^ x) := by
  obtain ⟨q1, q2, q3⟩ := wo_q j hj x hx ht
  have h : shX (shC A (j - 2 ^ x)) (shC A j) x := by
    refine ⟨rfl, rfl, hA.1.1, fun b hb => ?_⟩
    show hasB (nI j) b = (hasB (nI (j - 2 ^ x)) b || decide (b = x))
    rw [has_tb j hj b hb, has_tb (j - 2 ^ x) (Nat.lt_of_le_of_lt (Nat.sub_le _ _) hj) b hb, q3 b hb]
  exact tB_sh h hx n (woS (alW A), 0) ⟨0, by decide, rfl⟩ hs
theorem shV_skip {A : Al} {n j x : Nat} (hA : okA A) (hj : j < 32) (hx : x < 5) (ht : tb j x = true) (hs : hasB (shT A n (j - 2 ^ x)).2 x = false) : shV A n j = shV A n (j - 2 ^ x) := by
  rw [← shT_tot hA, ← shT_tot hA, shT_skip hA hj hx ht hs]
theorem c_shunLoop {A : Al} {n w : Nat} {a1 : Int32} (hA : okA A) (ht : (woH (alW A)).1 = true) (hn2 : n ≤ 60) (hw : w ≤ 999) (ew : woS (alW A) 5 1 = nI w) : ∀ (m fu j : Nat) (E : Dt), j + m = 2 ^ shN (woH (alW A)) → m < fu → RC E A → E.1 (1, 0, 0, 0) 10 = nI (shB (shV A n) j).1 → E.1 (1, 0, 0, 0) 11 = (shB (shV A n) j).2 → (∀ i, i < j → E.1 (1, 0, 10, 0) i = (shT A n i).2) → ∃ D', F_X1_findShunned_b12 a1 fu (nI n) (nI j) E = some D' ∧ D'.1 (1, 0, 0, 0) 10 = nI (shB (shV A n) (2 ^ shN (woH (alW A)))).1 ∧ D'.1 (1, 0, 0, 0) 11 = (shB (shV A n) (2 ^ shN (woH (alW A)))).2 ∧ Sm qS E D' := by
  have hn := hA.1.1
  obtain ⟨hsh, hsh2⟩ := sh_n _ hn
  generalize hN : shN (woH (alW A)) = N at hn hsh hsh2
  intro m
  induction m with
  | zero =>
    intro fu j E hj hf h h10 h11 hS
    obtain ⟨fu, rfl⟩ : ∃ g, fu = g + 1 := ⟨fu - 1, by omega⟩
    have : j = 2 ^ N := by omega
    subst this
    rw [F_X1_findShunned_b12, h.n, hN, hsh, if_pos (nI_le (Nat.le_refl _) (by omega))]
    exact ⟨E, rfl, h10, h11, Sm.refl⟩
  | succ m ih =>
    intro fu j E hj hf h h10 h11 hS
    obtain ⟨fu, rfl⟩ : ∃ g, fu = g + 1 := ⟨fu - 1, by omega⟩
    have hj32 : j < 32 := by omega
    obtain ⟨r, er, hr⟩ := c_same (D := E) (S := fun i => (shT A n i).2) hj32 hS
    rw [F_X1_findShunned_b12, h.n, hN, hsh, if_neg (nI_ge (by omega) (by omega)), er, cbd_s]
    rcases hr with hr | ⟨x, hx, htb, hr, hz⟩
    · subst hr
      rw [if_pos rfl]
      obtain ⟨D1, e1, q1, s1, z1, k1⟩ := qc_startx hA ht h
      rw [e1, vbd_s, bnd_e]
      have m2 : Sm (fun la k => la == (8, 1, 0, 0)) D1 (setI D1 (8, 1, 0, 0) 2 (nI j)) := Sm.sI (by simp)
      have c2 : CfC (setI D1 (8, 1, 0, 0) 2 (nI j)) 1 (shC A j) := q1.2.1.sh (v := nI j)
      generalize hD2 : setI D1 (8, 1, 0, 0) 2 (nI j) = D2 at m2 c2
      have q2 : QC A D2 (shC A j) 105 (woS (alW A)) := ⟨q1.1.scr (fo_W m2), c2, by rw [← hD2, gI, if_neg (by simp)]; exact q1.2.2.1, by rw [← hD2, rdS_sI (by simp)]; exact q1.2.2.2⟩
      have z2 : D2.1 (8, 1, 0, 0) 7 = 0 := by rw [← hD2, gI, if_neg (by simp)]; exact z1
      obtain ⟨D3, e3, q3, z3, m3⟩ := qc_till (n := n) (cfX_ok hA) rfl (by omega) q2 (gd0 hA) ew (by omega)
      rw [z2] at q3 z3
      have hT3 : rdS D3 105 = (shT A n j).1 := q3.2.2.2
      have hS3 : D3.1 (8, 1, 0, 0) 7 = (shT A n j).2 := z3
      rw [e3, vbd_s, grd_t (inBe hj32 (by decide)), nIc (by omega), bnd_e, hS3]
      have m4 : Sm qS D3 (setI D3 (1, 0, 10, 0) j (shT A n j).2) := Sm.sI (by simp [qS])
      generalize hD4 : setI D3 (1, 0, 10, 0) j (shT A n j).2 = D4 at m4
      have r4 : rdS D4 105 = (shT A n j).1 := by rw [← hD4, rdS_sI (by simp)]; exact hT3
      have hsm : Sm qS E D4 := ((s1.trans (fo_W m2)).trans (we_q (by decide) m3)).trans m4
      have f3 : ∀ q k, D3.1 (1, 0, q, 0) k = E.1 (1, 0, q, 0) k := fun q k => by
        rw [m3.i (by simp [weS]), m2.i (by simp), k1 _ _ rfl]
      have h10' : D4.1 (1, 0, 0, 0) 10 = nI (shB (shV A n) j).1 := by rw [← hD4, gI, if_neg (by simp), f3]; exact h10
      have h11' : D4.1 (1, 0, 0, 0) 11 = (shB (shV A n) j).2 := by rw [← hD4, gI, if_neg (by simp), f3]; exact h11
      have hS' : ∀ i, i < j + 1 → D4.1 (1, 0, 10, 0) i = (shT A n i).2 := fun i hi => by
        rw [← hD4, gI]
        by_cases c : i = j
        · rw [if_pos ⟨rfl, c⟩, c]
        · rw [if_neg (fun x => c x.2), f3]
          exact hS i (by omega)
      rw [show F_X10_total (6, 105, 4, 0) D4 = _ from c_totS 3 (V6 (by decide)) (by decide), cbd_s, r4, shT_tot hA, bc_e, cbd_s, h10', bc_e, cbd_s]
      have hb := shB_b (V := shV A n) j
      rw [bc_p j hj32, bc_p _ (show (shB (shV A n) j).1 < 32 by omega)]
      have R4 : RC D4 A := h.scr hsm
      have pj := pop_b j hj32
      have pb := pop_b (shB (shV A n) j).1 (by omega)
      have no : ¬ ((shB (shV A n) j).2 < shV A n j ∨ (shV A n j = (shB (shV A n) j).2 ∧ pop j < pop (shB (shV A n) j).1)) → ∃ D', F_X1_findShunned_b12 a1 fu (nI n) (nI (j + 1)) D4 = some D' ∧ D'.1 (1, 0, 0, 0) 10 = nI (shB (shV A n) (2 ^ N)).1 ∧ D'.1 (1, 0, 0, 0) 11 = (shB (shV A n) (2 ^ N)).2 ∧ Sm qS E D' := by
        intro c
        have e : shB (shV A n) (j + 1) = shB (shV A n) j := by rw [shB, if_neg c]
        obtain ⟨D5, e5, a5, b5, s5⟩ := ih fu (j + 1) D4 (by omega) (by omega) R4 (by rw [e]; exact h10') (by rw [e]; exact h11') hS'
        exact ⟨D5, e5, a5, b5, hsm.trans s5⟩
      have yes : ((shB (shV A n) j).2 < shV A n j ∨ (shV A n j = (shB (shV A n) j).2 ∧ pop j < pop (shB (shV A n) j).1)) → ∃ D', F_X1_findShunned_b12 a1 fu (nI n) (nI (j + 1)) (setI (setI D4 (1, 0, 0, 0) 11 (shV A n j)) (1, 0, 0, 0) 10 (nI j)) = some D' ∧ D'.1 (1, 0, 0, 0) 10 = nI (shB (shV A n) (2 ^ N)).1 ∧ D'.1 (1, 0, 0, 0) 11 = (shB (shV A n) (2 ^ N)).2 ∧ Sm qS E D' := by
        intro c
        have e : shB (shV A n) (j + 1) = (j, shV A n j) := by rw [shB, if_pos c]
        have m5 : Sm qS D4 (setI (setI D4 (1, 0, 0, 0) 11 (shV A n j)) (1, 0, 0, 0) 10 (nI j)) := (Sm.sI (by simp [qS])).trans (Sm.sI (by simp [qS]))
        obtain ⟨D5, e5, a5, b5, s5⟩ := ih fu (j + 1) (setI (setI D4 (1, 0, 0, 0) 11 (shV A n j)) (1, 0, 0, 0) 10 (nI j)) (by omega) (by omega) (R4.scr m5) (by rw [e, gI_s]) (by rw [e, gI, if_neg (by simp), gI_s]) (fun i hi => by rw [gI, if_neg (by simp), gI, if_neg (by simp)]; exact hS' i hi)
        exact ⟨D5, e5, a5, b5, (hsm.trans m5).trans s5⟩
      simp only [F_X1_findShunned_b126, F_X1_findShunned_b151, F_X1_findShunned_b162, bnd_e, nI_1, h11']
      by_cases c1 : (shB (shV A n) j).2 < shV A n j
      · simp only [if_pos c1, ite_self]
        exact yes (Or.inl c1)
      · simp only [if_neg c1]
        by_cases c2 : shV A n j = (shB (shV A n) j).2
        · simp only [if_pos c2]
          by_cases c5 : pop (shB (shV A n) j).1 ≤ pop j
          · rw [if_pos (nI_le c5 (by omega)), if_pos trivial]
            exact no (by rintro (x | x); exact c1 x; have := x.2; omega)
          · rw [if_neg (nI_ge (by omega) (by omega)), if_neg (by decide)]
            exact yes (Or.inr ⟨c2, by omega⟩)
        · simp only [if_neg c2, ite_self]
          exact no (by rintro (x | x); exact c1 x; exact c2 x.1)
    · subst hr
      obtain ⟨q1, q2, q3⟩ := wo_q j hj32 x hx htb
      have hp : 0 < 2 ^ x := Nat.two_pow_pos x
      rw [if_neg (nI_nem1 (by omega)), grd_t (inBe (by omega) (by decide)), grd_t (inBe hj32 (by decide)), nIc (k := j - 2 ^ x) (by omega), nIc (k := j) (by omega), bnd_e, F_X1_findShunned_b162, bnd_e, nI_1, hS _ (by omega)]
      have e : shB (shV A n) (j + 1) = shB (shV A n) j := shB_skip (i := j - 2 ^ x) (by omega) (shV_skip hA hj32 hx htb hz) q2
      have m4 : Sm qS E (setI E (1, 0, 10, 0) j (shT A n (j - 2 ^ x)).2) := Sm.sI (by simp [qS])
      obtain ⟨D5, e5, a5, b5, s5⟩ := ih fu (j + 1) _ (by omega) (by omega) (h.scr m4) (by rw [e, gI, if_neg (by simp)]; exact h10) (by rw [e, gI, if_neg (by simp)]; exact h11) (fun i hi => by
        rw [gI]
        by_cases c : i = j
        · rw [if_pos ⟨rfl, c⟩, c, shT_skip hA hj32 hx htb hz]
        · rw [if_neg (fun y => c y.2)]
          exact hS i (by omega))
      exact ⟨D5, e5, a5, b5, m4.trans s5⟩
theorem p_shun (a b : Int32) : Cal (F_X10_shun a b) (F_X11_shun a b) := by
  refine cal_of (fun A hA => ?_)
  have hn := hA.1.1
  by_cases ht : (woH (alW A)).1 = true
  · by_cases c3 : (1 : Int32) ≤ a ∧ a ≤ 60
    · obtain ⟨n, hn2, rfl⟩ := nI_of2 (x := a) (M := 60) (n := 60) rfl (fun g => by have := c3.1; rw [fa_lt] at g; rw [fa_le] at this; have : (0 : Int32).toInt = 0 := rfl; have : (1 : Int32).toInt = 1 := rfl; omega) c3.2
      by_cases c4 : (0 : Int32) ≤ b ∧ b ≤ 2
      · obtain ⟨w, hw, ew⟩ := wk0 hA
        obtain ⟨hsh, hsh2⟩ := sh_n _ hn
        have hbN := shB_b (V := shV A n) (2 ^ shN (woH (alW A)))
        have hb32 : ∀ j, j ≤ 2 ^ shN (woH (alW A)) → (shB (shV A n) j).1 < 32 := by
          intro j hj
          have h0 : ∀ j, j ≤ 32 → (shB (shV A n) j).1 < 32 := by
            intro j
            induction j with
            | zero => intro _; show 0 < 32; omega
            | succ j ih =>
              intro hj
              rw [shB]
              split
              · show j < 32
                omega
              · exact ih (by omega)
          exact h0 j (by omega)
        refine cal_ask hA (if b = 0 then nI (pop (shB (shV A n) (2 ^ shN (woH (alW A)))).1) else if b = 1 then nI (shB (shV A n) (2 ^ shN (woH (alW A)))).1 else (shB (shV A n) (2 ^ shN (woH (alW A)))).2) (fun D h => ?_) (fun D h => ?_)
        · rw [F_X10_shun, c_isSpan h, cbd_s, i1t ⟨ht, c3⟩, c_within, cbd_s, i1t c4, F_X1_findShunned, bnd_e, bnd_e]
          have s0 : Sm qS D (setI (setI D (1, 0, 0, 0) 11 (-1)) (1, 0, 0, 0) 10 0) := (Sm.sI (by simp [qS])).trans (Sm.sI (by simp [qS]))
          obtain ⟨D2, e2, a2, b2, s2⟩ := c_shunLoop (a1 := nI n) hA ht hn2 hw ew (2 ^ shN (woH (alW A))) 2000 0 _ (by omega) (by omega) (h.scr s0) (by rw [gI_s]; rfl) (by rw [gI, if_neg (by simp), gI_s]; rfl) (fun i hi => absurd hi (by omega))
          rw [show F_X1_findShunned_b12 (nI n) 2000 (nI n) 0 _ = _ from e2, vbd_s, a2, b2, bc_e, cbd_s, bc_p _ (hb32 _ (Nat.le_refl _))]
          simp only [if_so]
          exact ⟨D2, rfl, s0.trans s2⟩
        · obtain ⟨D1, e1, g1⟩ := qg_start h
          rw [F_X11_shun, r_isTable, cbd_s]
          simp only [there_m hA h]
          rw [i1t ht, r_in_1_60, cbd_s, i1t c3, r_in_0_2, cbd_s, i1t c4, e1, vbd_s]
          have key : ∀ (m fu j : Nat) (E : Dt) (hh : Int32), j + m = 2 ^ shN (woH (alW A)) → m < fu → QG A D E (woC (alW A)) hh 0 (-1) (-1) (woD (alW A)) (woS (alW A)) → ∃ D' o, F_X11_shun_b45 (nI n) b (fun l2_60 l3_61 l4_62 D63 => (bnd (setI D63 (11, 0, 0, 0) 39 (0 : Int32)) (fun D64 => (if l2_60 = 0 then (cbd (F_X11_bits l3_61 D64) (fun r68 D69 => (some (r68, D69)))) else (if l2_60 = (1 : Int32) then (some (l3_61, D64)) else (some (l4_62, D64))))))) fu (nI n) b (nI (shB (shV A n) j).1) (shB (shV A n) j).2 (nI j) E = some ((if b = 0 then nI (pop (shB (shV A n) (2 ^ shN (woH (alW A)))).1) else if b = 1 then nI (shB (shV A n) (2 ^ shN (woH (alW A)))).1 else (shB (shV A n) (2 ^ shN (woH (alW A)))).2), D') ∧ QG A D D' (woC (alW A)) 0 0 (-1) o (woD (alW A)) (woS (alW A)) := by
            intro m
            induction m with
            | zero =>
              intro fu j E hh hj hf g
              obtain ⟨fu, rfl⟩ : ∃ g, fu = g + 1 := ⟨fu - 1, by omega⟩
              have : j = 2 ^ shN (woH (alW A)) := by omega
              subst this
              rw [F_X11_shun_b45, qg_n g, hsh, if_pos (nI_le (Nat.le_refl _) (by omega)), bnd_e, r_bits (hb32 _ (Nat.le_refl _)), cbd_s]
              simp only [if_so]
              have g2 := qg_0 (D' := setI E (11, 0, 0, 0) 39 0) g (Sm.sI (by simp))
              have z1 : (setI E (11, 0, 0, 0) 39 0).1 (11, 0, 0, 0) 39 = 0 := gI_s
              have z2 : (setI E (11, 0, 0, 0) 39 0).1 (11, 0, 0, 0) 42 = 0 := by rw [gI, if_neg (by simp)]; exact g.2.2.2.2.2.1
              have z3 : (setI E (11, 0, 0, 0) 39 0).1 (11, 0, 0, 0) 40 = -1 := by rw [gI, if_neg (by simp)]; exact g.2.2.2.2.2.2.1
              rw [z1, z2, z3] at g2
              exact ⟨_, _, rfl, g2⟩
            | succ m ih =>
              intro fu j E hh hj hf g
              obtain ⟨fu, rfl⟩ : ∃ g, fu = g + 1 := ⟨fu - 1, by omega⟩
              have g2 := qg_0 (D' := setI E (11, 0, 0, 0) 39 (nI j)) g (Sm.sI (by simp))
              have z1 : (setI E (11, 0, 0, 0) 39 (nI j)).1 (11, 0, 0, 0) 39 = nI j := gI_s
              have z2 : (setI E (11, 0, 0, 0) 39 (nI j)).1 (11, 0, 0, 0) 42 = 0 := by rw [gI, if_neg (by simp)]; exact g.2.2.2.2.2.1
              have z3 : (setI E (11, 0, 0, 0) 39 (nI j)).1 (11, 0, 0, 0) 40 = -1 := by rw [gI, if_neg (by simp)]; exact g.2.2.2.2.2.2.1
              rw [z1, z2, z3] at g2
              have g2' : QG A D (setI E (11, 0, 0, 0) 39 (nI j)) (woC (alW A)) (nI j) 0 (-1) (-1) (woD (alW A)) (woS (alW A)) := ⟨g2.1, g2.2.1, g2.2.2.1, g2.2.2.2.1, g2.2.2.2.2.1, g2.2.2.2.2.2.1, g2.2.2.2.2.2.2.1, Or.inl rfl, g2.2.2.2.2.2.2.2.2⟩
              obtain ⟨E4, e4, g4⟩ := qg_barns (n := n) hA (okF hA) (by omega) g2' (gd0 hA) ew (by omega)
              have e4' : F_X11_barnsIn (nI n) (setI E (11, 0, 0, 0) 39 (nI j)) = some (shV A n j, E4) := e4
              rw [F_X11_shun_b45, qg_n g, hsh, if_neg (nI_ge (by omega) (by omega)), bnd_e, e4', cbd_s, r_bits (by omega), cbd_s, r_bits (hb32 j (by omega)), cbd_s]
              simp only [F_X11_shun_b97, F_X11_shun_b104, bnd_e, nI_1]
              have nx := ih fu (j + 1) E4 (nI j) (by omega) (by omega) g4
              rw [show shB (shV A n) (j + 1) = if (shB (shV A n) j).2 < shV A n j ∨ (shV A n j = (shB (shV A n) j).2 ∧ pop j < pop (shB (shV A n) j).1) then (j, shV A n j) else shB (shV A n) j from rfl] at nx
              have pj := pop_b j (by omega)
              have pb := pop_b (shB (shV A n) j).1 (hb32 j (by omega))
              by_cases c1 : (shB (shV A n) j).2 < shV A n j
              · rw [if_pos c1]
                rw [if_pos (Or.inl c1)] at nx
                exact nx
              · rw [if_neg c1]
                by_cases c2 : shV A n j = (shB (shV A n) j).2
                · rw [if_pos c2]
                  by_cases c5 : pop (shB (shV A n) j).1 ≤ pop j
                  · rw [if_pos (nI_le c5 (by omega))]
                    rw [if_neg (by rintro (x | x); exact c1 x; have := x.2; omega)] at nx
                    exact nx
                  · rw [if_neg (nI_ge (by omega) (by omega))]
                    rw [if_pos (Or.inr ⟨c2, by omega⟩)] at nx
                    exact nx
                · rw [if_neg c2]
                  rw [if_neg (by rintro (x | x); exact c1 x; exact c2 x.1)] at nx
                  exact nx
          exact key (2 ^ shN (woH (alW A))) 2000 0 D1 0 (by omega) (by omega) g1
      · refine cal_no hA (-1) (fun D h => ?_) (fun D h => ?_)
        · rw [F_X10_shun, c_isSpan h, cbd_s, i1t ⟨ht, c3⟩, c_within, cbd_s, i1f c4]
        · rw [F_X11_shun, r_isTable, cbd_s]
          simp only [there_m hA h]
          rw [i1t ht, r_in_1_60, cbd_s, i1t c3, r_in_0_2, cbd_s, i1f c4]
    · refine cal_no hA (-1) (fun D h => ?_) (fun D h => ?_)
      · rw [F_X10_shun, c_isSpan h, cbd_s, i1f (fun x => c3 x.2)]
      · rw [F_X11_shun, r_isTable, cbd_s]
        simp only [there_m hA h]
        rw [i1t ht, r_in_1_60, cbd_s, i1f c3]
  · refine cal_no hA (-1) (fun D h => ?_) (fun D h => ?_)
    · rw [F_X10_shun, c_isSpan h, cbd_s, i1f (fun x => ht x.1)]
    · rw [F_X11_shun, r_isTable, cbd_s]
      simp only [there_m hA h]
      rw [i1f ht]
