/-! ===== ROW: the pure side ===== -/
abbrev Ac : Type := Int32 × (Nat → Int32)
def rwC (A : Al) (x t : Nat) : Cf := cfX A (woC (alW A)) 0 0 (nI x) (moL t)
def rwS (A : Al) (x t : Nat) (s : St) : St := (pWk (rwC A x t) false s 0).1
def rwM (A : Al) (x t : Nat) (s : St) : Bool := (pWk (rwC A x t) false s 0).2.2.1
def put1 (tr : Nat → Int32) (j : Nat) (v : Int32) : Nat → Int32 := fun k => if k = j then v else tr k
/-- a row told by a number, its first place the highest -/
def run (A : Al) (x B : Nat) : Nat → Nat → St → (Nat → Int32) → Nat → Ac
  | 0, _, s, tr, _ => (s 3 x, tr)
  | r + 1, j, s, tr, c => if rwM A x (c / B ^ r % B) s = true then (-1, tr) else run A x B r (j + 1) (rwS A x (c / B ^ r % B) s) (put1 tr j (moL (c / B ^ r % B))) c
def stC (a : Ac) (y : Ac) : Ac := if y.1 ≤ a.1 then a else y
def trS (A : Al) (x B : Nat) : Nat → Nat → St → (Nat → Int32) → Ac → Ac
  | 0, _, s, tr, a => stC a (s 3 x, tr)
  | r + 1, j, s, tr, a => itr (fun t a => if rwM A x t s = true then a else trS A x B r (j + 1) (rwS A x t s) (put1 tr j (moL t)) a) B a
theorem itr_add {σ : Type} {f : Nat → σ → σ} {a : Nat} {s : σ} : ∀ n, itr f (a + n) s = itr (fun c s => f (a + c) s) n (itr f a s)
  | 0 => rfl
  | n + 1 => by
    show f (a + n) (itr f (a + n) s) = _
    rw [itr_add n, itr]
theorem itr_mul {σ : Type} {f : Nat → σ → σ} {b : Nat} {s : σ} : ∀ a, itr f (a * b) s = itr (fun t s => itr (fun c s => f (t * b + c) s) b s) a s
  | 0 => by rw [Nat.zero_mul]; rfl
  | a + 1 => by rw [Nat.succ_mul, itr_add, itr_mul a]; rfl
theorem itr_cg {σ : Type} {f g : Nat → σ → σ} {P : σ → Prop} {s : σ} : ∀ n, (∀ k s, k < n → P s → f k s = g k s ∧ P (g k s)) → P s → itr f n s = itr g n s ∧ P (itr g n s)
  | 0, _, h => ⟨rfl, h⟩
  | n + 1, hs, h => by
    obtain ⟨h1, h2⟩ := itr_cg n (fun k s hk => hs k s (by omega)) h
    rw [itr, itr, h1]
    exact hs n _ (by omega) h2
theorem itr_id {σ : Type} {f : Nat → σ → σ} {s : σ} : ∀ n, (∀ k, k < n → f k s = s) → itr f n s = s
  | 0, _ => rfl
  | n + 1, h => by rw [itr, itr_id n (fun k hk => h k (by omega)), h n (by omega)]
theorem stC_ge (a y : Ac) : a.1 ≤ (stC a y).1 := by
  unfold stC
  split
  · exact Int32.le_refl _
  · rename_i h
    rw [fa_le] at *
    omega
theorem run_mod {A : Al} {x B : Nat} (hB : 0 < B) : ∀ r j s tr c q, run A x B r j s tr (q * B ^ r + c) = run A x B r j s tr c
  | 0, _, _, _, _, _ => rfl
  | r + 1, j, s, tr, c, q => by
    have hd : (q * B ^ (r + 1) + c) / B ^ r % B = c / B ^ r % B := by
      rw [Nat.pow_succ, show q * (B ^ r * B) + c = c + (q * B) * B ^ r by rw [Nat.add_comm, Nat.mul_comm (B ^ r) B, Nat.mul_assoc], Nat.add_mul_div_right _ _ (Nat.pow_pos hB), Nat.add_mul_mod_self_right]
    rw [run, run, hd]
    have e : q * B ^ (r + 1) + c = (q * B) * B ^ r + c := by rw [Nat.pow_succ, Nat.mul_comm (B ^ r) B, Nat.mul_assoc]
    rw [e, run_mod hB r]
theorem trS_run {A : Al} {x B : Nat} (hB : 0 < B) : ∀ r j s tr (a : Ac), -1 ≤ a.1 → trS A x B r j s tr a = itr (fun c a => stC a (run A x B r j s tr c)) (B ^ r) a ∧ -1 ≤ (trS A x B r j s tr a).1
  | 0, j, s, tr, a, ha => ⟨rfl, by
      have := stC_ge a (s 3 x, tr)
      rw [trS]
      rw [fa_le] at *
      omega⟩
  | r + 1, j, s, tr, a, ha => by
    have key := itr_cg (f := fun t a => if rwM A x t s = true then a else trS A x B r (j + 1) (rwS A x t s) (put1 tr j (moL t)) a) (g := fun t a => itr (fun c a => stC a (run A x B (r + 1) j s tr (t * B ^ r + c))) (B ^ r) a) (P := fun a : Ac => -1 ≤ a.1) (s := a) B (fun t a ht ha => by
      have hd : ∀ c, c < B ^ r → (t * B ^ r + c) / B ^ r % B = t := fun c hc => by
        rw [Nat.mul_comm, Nat.mul_add_div (Nat.pow_pos hB), Nat.div_eq_of_lt hc, Nat.add_zero, Nat.mod_eq_of_lt ht]
      by_cases c1 : rwM A x t s = true
      · have h1 : itr (fun c a => stC a (run A x B (r + 1) j s tr (t * B ^ r + c))) (B ^ r) a = a := itr_id _ (fun c hc => by
          rw [run, hd c hc, if_pos c1, stC, if_pos ha])
        simp only [h1, if_pos c1]
        exact ⟨trivial, ha⟩
      · obtain ⟨e1, e2⟩ := trS_run hB r (j + 1) (rwS A x t s) (put1 tr j (moL t)) a ha
        have h1 : itr (fun c a => stC a (run A x B (r + 1) j s tr (t * B ^ r + c))) (B ^ r) a = itr (fun c a => stC a (run A x B r (j + 1) (rwS A x t s) (put1 tr j (moL t)) c)) (B ^ r) a := (itr_cg (P := fun _ => True) _ (fun c a hc _ => by
          refine ⟨?_, trivial⟩
          rw [run, hd c hc, if_neg c1, run_mod hB]) trivial).1
        simp only [h1, if_neg c1]
        rw [e1] at e2
        exact ⟨e1, e2⟩) ha
    rw [trS, Nat.pow_succ, Nat.mul_comm (B ^ r) B, itr_mul B]
    exact ⟨key.1, by rw [key.1]; exact key.2⟩
theorem itC_ge {f : Nat → Ac} {a : Ac} : ∀ n, a.1 ≤ (itr (fun c a => stC a (f c)) n a).1
  | 0 => Int32.le_refl _
  | n + 1 => by
    have h1 := itC_ge (f := f) (a := a) n
    have h2 := stC_ge (itr (fun c a => stC a (f c)) n a) (f n)
    show a.1 ≤ (stC (itr (fun c a => stC a (f c)) n a) (f n)).1
    rw [fa_le] at *
    omega
theorem rw_self {A : Al} {x : Nat} (hx : x < shN (woH (alW A))) (h5 : shN (woH (alW A)) ≤ 5) (s : St) : rwM A x (x + 1) s = true := by
  have hc : cfC (rwC A x (x + 1)) = nI x := rfl
  have ho : cfO (rwC A x (x + 1)) = nI x := moL_s x
  have hn : cfN (rwC A x (x + 1)) = shN (woH (alW A)) := rfl
  have hp : ∀ s, pMay s x x = false := fun s => by simp [pMay]
  have hB : ∀ a (y : Wq), (wB1 (rwC A x (x + 1)) a y).2.2.1 = pkM (rwC A x (x + 1)) y.2.2.1 y.1 a := fun a y => by unfold wB1; split <;> rfl
  have st : ∀ n (y : Wq), n ≤ 5 → (x < n → (itr (wB1 (rwC A x (x + 1))) n y).2.2.1 = true) := by
    intro n
    induction n with
    | zero => intro y _ h; omega
    | succ n ih =>
      intro y hn5 h
      rw [itr_s, hB]
      by_cases c : x = n
      · subst c
        rw [pkM, if_pos ⟨by rw [hc], by rw [ho, hn]; exact inBe hx (by omega), by rw [ho, nIc (by omega)]; exact hp _⟩]
      · have := ih y (by omega) (by omega)
        rw [this, pkM]
        split <;> rfl
  exact st _ _ h5 hx
theorem rw_none {A : Al} {x : Nat} (h5 : shN (woH (alW A)) ≤ 5) (s : St) : rwM A x 0 s = false := by
  have ho : cfO (rwC A x 0) = -1 := rfl
  have hin : inB (-1) (cfN (rwC A x 0)) = false := by simp [inB]
  have hB : ∀ a (y : Wq), (wB1 (rwC A x 0) a y).2.2.1 = y.2.2.1 := fun a y => by
    have : (wB1 (rwC A x 0) a y).2.2.1 = pkM (rwC A x 0) y.2.2.1 y.1 a := by unfold wB1; split <;> rfl
    rw [this, pkM, if_neg]
    rintro ⟨_, z, _⟩
    rw [ho, hin] at z
    cases z
  have st : ∀ n (y : Wq), (itr (wB1 (rwC A x 0)) n y).2.2.1 = y.2.2.1 := by
    intro n
    induction n with
    | zero => intro y; rfl
    | succ n ih => intro y; rw [itr_s, hB, ih]
  exact st _ _
theorem run_0 {A : Al} {x B : Nat} (hA : okA A) (hB : 0 < B) : ∀ r j s tr, Gd (shN (woH (alW A))) s → 0 ≤ (run A x B r j s tr 0).1.toInt
  | 0, _, s, _, h => (h.1 x).2.2.2.1
  | r + 1, j, s, tr, h => by
    rw [run, Nat.zero_div, Nat.zero_mod, rw_none hA.1.1, if_neg (by decide)]
    exact run_0 hA hB r _ _ _ (h.wk (c := rwC A x 0) (cfX_ok hA))
theorem run_v {A : Al} {x B : Nat} (hA : okA A) : ∀ r j s tr c, Gd (shN (woH (alW A))) s → (run A x B r j s tr c).1 = -1 ∨ 0 ≤ (run A x B r j s tr c).1.toInt
  | 0, _, s, _, _, h => Or.inr (h.1 x).2.2.2.1
  | r + 1, j, s, tr, c, h => by
    rw [run]
    split
    · exact Or.inl rfl
    · exact run_v hA r _ _ _ _ (h.wk (c := rwC A x _) (cfX_ok hA))
/-! the class -/
theorem CfC.set8 {D D' : Dt} {q : Nat} {c : Cf} (h : CfC D q c) (m : Sm (fun la k => la == (8, q, 0, 0) && decide (2 ≤ k)) D D') : CfC D' q (c.1, c.2.1, c.2.2.1, c.2.2.2.1, D'.1 (8, q, 0, 0) 2, D'.1 (8, q, 0, 0) 3, D'.1 (8, q, 0, 0) 4, D'.1 (8, q, 0, 0) 5) := by
  obtain ⟨x, h1, h2, h3, h4, h5, h6, h7, h8, h9, h10, h11⟩ := h
  refine ⟨x, ?_, h2, h3, ?_, ?_, fun k v hk hv => ?_, ?_, rfl, rfl, rfl, rfl⟩
  · rw [m.r (by simp)]; exact h1
  · rw [m.i (by simp)]; exact h4
  · rw [m.i (by simp)]; exact h5
  · have e1 := m.i (la := (5, x, 8, k + 1)) (k := v) (by simp)
    have e2 := m.i (la := (5, x, 9, k + 1)) (k := v) (by simp)
    exact ⟨e1.trans (h6 k v hk hv).1, e2.trans (h6 k v hk hv).2⟩
  · rcases h7 with ⟨a, b⟩ | ⟨j, R, a, b, d, e, f⟩
    · exact Or.inl ⟨a, by rw [m.r (by simp)]; exact b⟩
    · exact Or.inr ⟨j, R, a, by rw [m.r (by simp)]; exact b, d, e, f.sm m (fun q' k _ => by simp)⟩
def accC (D : Dt) (n : Nat) (a : Ac) : Prop := D.1 (1, 0, 0, 0) 11 = a.1 ∧ (a.1 = -1 ∨ ∀ k, k < n → D.1 (1, 0, 7, 0) k = a.2 k)
/-- what the search stands on -/
def rwQ (A : Al) (D : Dt) (x n j : Nat) (s : St) (tr : Nat → Int32) (a : Ac) : Prop := RC D A ∧ (∃ t, CfC D 1 (rwC A x t)) ∧ rdS D (106 + j) = s ∧ (∀ k, k < j → D.1 (1, 0, 6, 0) k = tr k) ∧ accC D n a
def rwF (j : Nat) (D D' : Dt) : Prop := (∀ i, i ≤ j → rdS D' (106 + i) = rdS D (106 + i)) ∧ (∀ k, k < j → D'.1 (1, 0, 6, 0) k = D.1 (1, 0, 6, 0) k) ∧ Sm qS D D'
theorem rwF.trans {j : Nat} {D D1 D2 : Dt} (h : rwF j D D1) (g : rwF j D1 D2) : rwF j D D2 := ⟨fun i hi => (g.1 i hi).trans (h.1 i hi), fun k hk => (g.2.1 k hk).trans (h.2.1 k hk), h.2.2.trans g.2.2⟩
theorem rwF.refl {j : Nat} {D : Dt} : rwF j D D := ⟨fun _ _ => rfl, fun _ _ => rfl, Sm.refl⟩
theorem rwF.mono {j j' : Nat} {D D' : Dt} (h : rwF j D D') (hj : j' ≤ j) : rwF j' D D' := ⟨fun i hi => h.1 i (by omega), fun k hk => h.2.1 k (by omega), h.2.2⟩
theorem c_rowLeaf {A : Al} {D : Dt} {x n j : Nat} {s : St} {tr : Nat → Int32} {a : Ac} {rc : Int32 → Int32 → Int32 → Dt → Option Dt} {a1 a2 a3 : Int32} (hx : x < 5) (hj : j ≤ 4) (hn : n = j) (hg : 0 ≤ (s 3 x).toInt) (h : rwQ A D x n j s tr a) : ∃ D', F_X1_tryRows_b10 rc a1 a2 a3 (nI j) (nI x) D = some D' ∧ rwQ A D' x n j s tr (stC a (s 3 x, tr)) ∧ rwF j D D' := by
  obtain ⟨h1, ⟨t, h2⟩, h3, h4, h5⟩ := h
  rw [F_X1_tryRows_b10, grd_t (inBe (show j < 5 by omega) (by decide)), grd_t (inBe hx (by decide)), nIc (by omega), nIc (by omega), s_barn hx, h3, h5.1]
  unfold stC
  by_cases c : s 3 x ≤ a.1
  · rw [if_pos c, if_pos c]
    exact ⟨D, rfl, ⟨h1, ⟨t, h2⟩, h3, h4, h5⟩, rwF.refl⟩
  · rw [if_neg c, if_neg c, bnd_e, c_copyRow (n := 4) (by decide) (by decide) rfl rfl (by decide), vbd_s]
    generalize hD2 : cpyI (setI D (1, 0, 0, 0) 11 (s 3 x)) (1, 0, 6, 0) (1, 0, 7, 0) 0 0 4 = D2
    have m : Sm (fun la k => la == (1, 0, 0, 0) || la == (1, 0, 7, 0)) D D2 := by
      rw [← hD2]
      exact (Sm.sI (by simp)).trans (Sm.cp (fun k _ _ => by simp))
    have m1 : Sm (fun la _ => la.1 == 1) D D2 := m.mono (fun la k e => by
      simp only [beq_eq_false_iff_ne] at e
      simp only [Bool.or_eq_false_iff, beq_eq_false_iff_ne]
      exact ⟨fun y => e (by rw [y]), fun y => e (by rw [y])⟩)
    have mq : Sm qS D D2 := m1.mono (fun la k e => by
      simp only [qS, Bool.or_eq_false_iff] at e
      exact e.1.1.2)
    refine ⟨D2, rfl, ⟨h1.scr mq, ⟨t, h2.smx m1 (fun k _ => by simp) (fun _ _ _ _ => by simp) (fun _ _ _ _ => by simp)⟩, ?_, fun k hk => ?_, ?_, Or.inr (fun k hk => ?_)⟩, fun i _ => rdS_sm m (fun q k => by simp), fun k _ => m.i (by simp), mq⟩
    · rw [rdS_sm m (fun q k => by simp)]; exact h3
    · rw [m.i (by simp)]; exact h4 k hk
    · rw [← hD2, cp_ne (by simp), gI_s]
    · rw [← hD2, cp_in (by omega), gI, if_neg (by simp)]
      exact h4 k (by omega)
theorem c_rows {A : Al} {x n w : Nat} (hA : okA A) (hx : x < shN (woH (alW A))) (hn : n ≤ 4) (hw : w ≤ 999) : ∀ r fu j D s tr a, j + r = n → r < fu → Gd (shN (woH (alW A))) s → s 5 1 = nI (w + j) → rwQ A D x n j s tr a → ∃ D', F_X1_tryRows_f fu (nI j) (nI n) (nI x) D = some D' ∧ rwQ A D' x n j s tr (trS A x (shN (woH (alW A)) + 1) r j s tr a) ∧ rwF j D D' := by
  have h5 := hA.1.1
  intro r
  induction r with
  | zero =>
    intro fu j D s tr a hj hf hg hwk h
    obtain ⟨fu, rfl⟩ : ∃ g, fu = g + 1 := ⟨fu - 1, by omega⟩
    rw [F_X1_tryRows_f, FG_X1_tryRows, if_pos (nI_le (by omega) (by omega))]
    exact c_rowLeaf (by omega) (by omega) (by omega) (hg.1 x).2.2.2.1 h
  | succ r ih =>
    intro fu j D s tr a hj hf hg hwk h
    obtain ⟨fu, rfl⟩ : ∃ g, fu = g + 1 := ⟨fu - 1, by omega⟩
    have hV : V (6, 106 + (j + 1), 0, 0) = true := V6 (by omega)
    rw [F_X1_tryRows_f, FG_X1_tryRows, if_neg (nI_ge (by omega) (by omega)), if_pos (show nI j < (4 : Int32) from nI_lt (b := 4) (by omega) (by decide)), nI_1, grd_t (inBe (by omega) (by decide)), trS]
    have key : ∀ (m fu2 t : Nat) (E : Dt) (b : Ac), t + m = shN (woH (alW A)) + 1 → m < fu2 → rwQ A E x n j s tr b → rwF j D E → ∃ D', F_X1_tryRows_b68 (F_X1_tryRows_f fu) (nI j) (nI n) (nI x) fu2 (nI j) (nI n) (nI x) (moL t) E = some D' ∧ rwQ A D' x n j s tr (itr (fun c a => if rwM A x (t + c) s = true then a else trS A x (shN (woH (alW A)) + 1) r (j + 1) (rwS A x (t + c) s) (put1 tr j (moL (t + c))) a) m b) ∧ rwF j D D' := by
      intro m
      induction m with
      | zero =>
        intro fu2 t E b ht hf2 q fr
        obtain ⟨fu2, rfl⟩ : ∃ g, fu2 = g + 1 := ⟨fu2 - 1, by omega⟩
        rw [F_X1_tryRows_b68, nI_1, nIc (by omega), grd_t hV, q.1.n, show t = shN (woH (alW A)) + 1 by omega, moL_s, if_pos (nI_le (Nat.le_refl _) (by omega))]
        exact ⟨E, rfl, q, fr⟩
      | succ m ihm =>
        intro fu2 t E b ht hf2 q fr
        obtain ⟨fu2, rfl⟩ : ∃ g, fu2 = g + 1 := ⟨fu2 - 1, by omega⟩
        have n1 : ¬ nI (shN (woH (alW A))) ≤ moL t := by rw [fa_le, nI_toInt (by omega), moL_toInt (by omega)]; omega
        rw [F_X1_tryRows_b68, nI_1, nIc (by omega), grd_t hV, q.1.n, if_neg n1]
        have sp : ∀ b', itr (fun c a => if rwM A x (t + c) s = true then a else trS A x (shN (woH (alW A)) + 1) r (j + 1) (rwS A x (t + c) s) (put1 tr j (moL (t + c))) a) (m + 1) b' = itr (fun c a => if rwM A x (t + 1 + c) s = true then a else trS A x (shN (woH (alW A)) + 1) r (j + 1) (rwS A x (t + 1 + c) s) (put1 tr j (moL (t + 1 + c))) a) m (if rwM A x t s = true then b' else trS A x (shN (woH (alW A)) + 1) r (j + 1) (rwS A x t s) (put1 tr j (moL t)) b') := by
          intro b'
          rw [Nat.add_comm m 1, itr_add]
          simp only [← Nat.add_assoc]
          rfl
        rw [sp b]
        simp only [F_X1_tryRows_b157, nI_1, nIc (show j + 1 < 2147483648 by omega), grd_t hV, bnd_e, moL_1]
        by_cases c1 : moL t = nI x
        · have htx : t = x + 1 := by
            rw [← moL_s x] at c1
            exact (moL_eq (by omega) (by omega)).mp c1
          rw [if_pos c1, if_pos (by rw [htx]; exact rw_self hx h5 s)]
          exact ihm fu2 (t + 1) E b (by omega) (by omega) q fr
        · obtain ⟨q1, ⟨t0, q2⟩, q3, q4, q5⟩ := q
          rw [if_neg c1, grd_t (inBe (show j < 5 by omega) (by decide)), nIc (k := j) (by omega)]
          obtain ⟨E1, e1, r1, m1⟩ := c_copyFrom (D := E) (i := 106 + (j + 1)) (j := 106 + j) hV (V6 (by omega))
          rw [e1, vbd_s]
          have m2 : Sm (fun la k => la == (8, 1, 0, 0) && decide (2 ≤ k)) E1 (setI (setI E1 (8, 1, 0, 0) 5 (moL t)) (8, 1, 0, 0) 6 0) := (Sm.sI (by simp)).trans (Sm.sI (by simp))
          have c2 : CfC E1 1 (rwC A x t0) := q2.sm (i := 106 + (j + 1)) (stS_we m1)
          have c3 := c2.set8 m2
          have f6 : (setI (setI E1 (8, 1, 0, 0) 5 (moL t)) (8, 1, 0, 0) 6 0).1 (8, 1, 0, 0) 6 = 0 := gI_s
          have f5 : (setI (setI E1 (8, 1, 0, 0) 5 (moL t)) (8, 1, 0, 0) 6 0).1 (8, 1, 0, 0) 5 = moL t := by rw [gI, if_neg (by simp), gI_s]
          generalize hE2 : setI (setI E1 (8, 1, 0, 0) 5 (moL t)) (8, 1, 0, 0) 6 0 = E2 at m2 c3 f6 f5
          have f2 : E2.1 (8, 1, 0, 0) 2 = 0 ∧ E2.1 (8, 1, 0, 0) 3 = 0 ∧ E2.1 (8, 1, 0, 0) 4 = nI x := by
            obtain ⟨_, _, _, _, _, _, _, _, z2, z3, z4, _⟩ := c2
            refine ⟨?_, ?_, ?_⟩
            · rw [← hE2, gI, if_neg (by simp), gI, if_neg (by simp)]; exact z2
            · rw [← hE2, gI, if_neg (by simp), gI, if_neg (by simp)]; exact z3
            · rw [← hE2, gI, if_neg (by simp), gI, if_neg (by simp)]; exact z4
          rw [f2.1, f2.2.1, f2.2.2, f5] at c3
          have c3' : CfC E2 1 (rwC A x t) := c3
          have rs2 : rdS E2 (106 + (j + 1)) = s := by rw [rdS_sm m2 (fun q k => by simp), r1, q3]
          obtain ⟨E3, e3, r3, z3, _, m3⟩ := c_pass (q := 1) (m := false) (se := E2.1 (8, 1, 0, 0) 7) hV V81 c3' (by rw [rs2]; exact hwk) (by omega) f6 rfl (Or.inr rfl)
          obtain ⟨p1, p2, p3⟩ := pWk_se (c := rwC A x t) (m := false) (s := rdS E2 (106 + (j + 1))) (se := E2.1 (8, 1, 0, 0) 7) (se' := 0)
          rw [p3, rs2] at z3
          rw [p1, rs2] at r3
          rw [e3, cbd_s, z3]
          have c4 : CfC E3 1 (rwC A x t) := c3'.sm m3
          have mq : Sm qS E E3 := ((st_q (by omega) m1).trans (m2.mono (fun la k e => by
            rw [Bool.and_eq_false_iff, beq_eq_false_iff_ne]
            left
            rintro rfl
            simp [qS] at e))).trans (we_q (by omega) m3)
          have fr3 : rwF j E E3 := ⟨fun i hi => by
              rw [rdS_sm m3 (fun q k => by have : ¬ 106 + i = 106 + (j + 1) := by omega
                                           simp [weS]; omega), rdS_sm m2 (fun q k => by simp), rdS_sm m1 (fun q k => by simp [stS]; omega)], fun k hk => by rw [m3.i (by simp [weS]), m2.i (by simp), m1.i (by simp [stS])], mq⟩
          have a3 : accC E3 n b := by
            refine ⟨by rw [m3.i (by simp [weS]), m2.i (by simp), m1.i (by simp [stS])]; exact q5.1, ?_⟩
            rcases q5.2 with y | y
            · exact Or.inl y
            · exact Or.inr (fun k hk => by rw [m3.i (by simp [weS]), m2.i (by simp), m1.i (by simp [stS])]; exact y k hk)
          have q3' : rdS E3 (106 + j) = s := by rw [fr3.1 j (Nat.le_refl _)]; exact q3
          have q4' : ∀ k, k < j → E3.1 (1, 0, 6, 0) k = tr k := fun k hk => by rw [fr3.2.1 k hk]; exact q4 k hk
          have hM : (pWk (rwC A x t) false s 0).2.2.1 = rwM A x t s := rfl
          have hS : (pWk (rwC A x t) false s 0).1 = rwS A x t s := rfl
          rw [hM]
          rw [hS] at r3
          by_cases c5 : rwM A x t s = true
          · rw [i1t c5, if_pos c5]
            exact ihm fu2 (t + 1) E3 b (by omega) (by omega) ⟨q1.scr mq, ⟨t, c4⟩, q3', q4', a3⟩ (fr.trans fr3)
          · rw [i1f c5, if_neg c5, grd_t (inBe (show j < 4 by omega) (by decide))]
            have m4 : Sm (fun la k => la == (1, 0, 6, 0) && k == j) E3 (setI E3 (1, 0, 6, 0) j (moL t)) := Sm.sI (by simp)
            have mq4 : Sm qS E3 (setI E3 (1, 0, 6, 0) j (moL t)) := Sm.sI (by simp [qS])
            have m41 : Sm (fun la _ => la.1 == 1) E3 (setI E3 (1, 0, 6, 0) j (moL t)) := Sm.sI (by simp)
            have v4 : (setI E3 (1, 0, 6, 0) j (moL t)).1 (1, 0, 6, 0) j = moL t := gI_s
            generalize setI E3 (1, 0, 6, 0) j (moL t) = E4 at m4 mq4 m41 v4
            have fr4 : rwF j E3 E4 := ⟨fun i _ => rdS_sm m4 (fun q k => by simp), fun k hk => m4.i (by have : ¬ k = j := by omega
                                                                                                       simp [this]), mq4⟩
            obtain ⟨E5, e5, ⟨u1, u2, u3, u4, u5⟩, fr5⟩ := ih fu (j + 1) E4 (rwS A x t s) (put1 tr j (moL t)) b (by omega) (by omega) (hg.wk (c := rwC A x t) (cfX_ok hA)) (by rw [rwS, pWk_wk, hwk, nI_1]; rfl) ⟨(q1.scr mq).scr mq4, ⟨t, c4.smx m41 (fun k _ => by simp) (fun _ _ _ _ => by simp) (fun _ _ _ _ => by simp)⟩, by rw [rdS_sm m4 (fun q k => by simp)]; exact r3, fun k hk => by
                unfold put1
                by_cases ck : k = j
                · rw [if_pos ck, ck]; exact v4
                · rw [if_neg ck, fr4.2.1 k (by omega)]; exact q4' k (by omega), by
                refine ⟨by rw [m4.i (by simp)]; exact a3.1, ?_⟩
                rcases a3.2 with y | y
                · exact Or.inl y
                · exact Or.inr (fun k hk => by rw [m4.i (by simp)]; exact y k hk)⟩
            have fr45 : rwF j E3 E5 := fr4.trans (fr5.mono (by omega))
            rw [e5, vbd_s]
            exact ihm fu2 (t + 1) E5 _ (by omega) (by omega) ⟨u1, u2, by rw [fr45.1 j (Nat.le_refl _)]; exact q3', fun k hk => by rw [fr45.2.1 k hk]; exact q4' k hk, u5⟩ ((fr.trans fr3).trans fr45)
    have := key (shN (woH (alW A)) + 1) 2000 0 D a (by omega) (by omega) h rwF.refl
    simp only [Nat.zero_add] at this
    exact this
