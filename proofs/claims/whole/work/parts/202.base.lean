theorem bnd_e {α β : Type} {a : α} {k : α → Option β} : bnd a k = k a := id rfl
/-! ===== the pure side: frames ===== -/
/-- outside S nothing changed -/
def Sm (S : LA → Nat → Bool) (D D' : Dt) : Prop := ∀ la k, S la k = false → D'.1 la k = D.1 la k ∧ D'.2.1 la k = D.2.1 la k ∧ D'.2.2 la k = D.2.2 la k
theorem Sm.refl {S : LA → Nat → Bool} {D : Dt} : Sm S D D := fun _ _ _ => ⟨rfl, rfl, rfl⟩
theorem Sm.trans {S : LA → Nat → Bool} {D D1 D2 : Dt} (h : Sm S D D1) (g : Sm S D1 D2) : Sm S D D2 := fun la k e => ⟨(g la k e).1.trans (h la k e).1, (g la k e).2.1.trans (h la k e).2.1, (g la k e).2.2.trans (h la k e).2.2⟩
theorem Sm.mono {S T : LA → Nat → Bool} {D D' : Dt} (h : Sm S D D') (hs : ∀ la k, T la k = false → S la k = false) : Sm T D D' := fun la k e => h la k (hs la k e)
theorem Sm.i {S : LA → Nat → Bool} {D D' : Dt} (h : Sm S D D') {la : LA} {k : Nat} (e : S la k = false) : D'.1 la k = D.1 la k := (h la k e).1
theorem Sm.l {S : LA → Nat → Bool} {D D' : Dt} (h : Sm S D D') {la : LA} {k : Nat} (e : S la k = false) : D'.2.1 la k = D.2.1 la k := (h la k e).2.1
theorem Sm.r {S : LA → Nat → Bool} {D D' : Dt} (h : Sm S D D') {la : LA} {k : Nat} (e : S la k = false) : D'.2.2 la k = D.2.2 la k := (h la k e).2.2
theorem Sm.sI {S : LA → Nat → Bool} {D : Dt} {la : LA} {k : Nat} {v : Int32} (h : S la k = true) : Sm S D (setI D la k v) := by
  intro l j e
  have hn : ¬ (l = la ∧ j = k) := by
    rintro ⟨rfl, rfl⟩
    rw [h] at e
    cases e
  refine ⟨?_, rfl, rfl⟩
  show (if l = la ∧ j = k then v else D.1 l j) = _
  rw [if_neg hn]
theorem Sm.sL {S : LA → Nat → Bool} {D : Dt} {la : LA} {k : Nat} {v : Int64} (h : S la k = true) : Sm S D (setL D la k v) := by
  intro l j e
  have hn : ¬ (l = la ∧ j = k) := by
    rintro ⟨rfl, rfl⟩
    rw [h] at e
    cases e
  refine ⟨rfl, ?_, rfl⟩
  show (if l = la ∧ j = k then v else D.2.1 l j) = _
  rw [if_neg hn]
theorem Sm.sR {S : LA → Nat → Bool} {D : Dt} {la : LA} {k : Nat} {v : Option Nat} (h : S la k = true) : Sm S D (setR D la k v) := by
  intro l j e
  have hn : ¬ (l = la ∧ j = k) := by
    rintro ⟨rfl, rfl⟩
    rw [h] at e
    cases e
  refine ⟨rfl, rfl, ?_⟩
  show (if l = la ∧ j = k then v else D.2.2 l j) = _
  rw [if_neg hn]
theorem Sm.cp {S : LA → Nat → Bool} {D : Dt} {a b : LA} {sp dp n : Nat} (h : ∀ k, dp ≤ k → k < dp + n → S b k = true) : Sm S D (cpyI D a b sp dp n) := by
  intro l j e
  refine ⟨?_, rfl, rfl⟩
  show (if l = b then va_cpy (D.1 a) (D.1 b) sp dp n j else D.1 l j) = _
  by_cases hl : l = b
  · subst hl
    rw [if_pos rfl]
    by_cases hj : dp ≤ j ∧ j < dp + n
    · rw [h j hj.1 hj.2] at e
      cases e
    · exact pk_cpy_out (by omega)
  · rw [if_neg hl]
/-! ===== reading behind a write ===== -/
theorem gI (D : Dt) (la : LA) (k : Nat) (v : Int32) (l : LA) (j : Nat) : (setI D la k v).1 l j = if l = la ∧ j = k then v else D.1 l j := rfl
theorem gI2 (D : Dt) (la : LA) (k : Nat) (v : Int32) : (setI D la k v).2 = D.2 := rfl
theorem gL (D : Dt) (la : LA) (k : Nat) (v : Int64) (l : LA) (j : Nat) : (setL D la k v).2.1 l j = if l = la ∧ j = k then v else D.2.1 l j := rfl
theorem gL1 (D : Dt) (la : LA) (k : Nat) (v : Int64) : (setL D la k v).1 = D.1 := rfl
theorem gL2 (D : Dt) (la : LA) (k : Nat) (v : Int64) : (setL D la k v).2.2 = D.2.2 := rfl
theorem gR (D : Dt) (la : LA) (k : Nat) (v : Option Nat) (l : LA) (j : Nat) : (setR D la k v).2.2 l j = if l = la ∧ j = k then v else D.2.2 l j := rfl
theorem gR1 (D : Dt) (la : LA) (k : Nat) (v : Option Nat) : (setR D la k v).1 = D.1 := rfl
theorem gR2 (D : Dt) (la : LA) (k : Nat) (v : Option Nat) : (setR D la k v).2.1 = D.2.1 := rfl
theorem inBe {k n : Nat} (h : k < n) (hn : n < 2147483648) : inB (nI k) n = true := by
  have h2 : (nI k).toInt = (k : Int) := nI_toInt (by omega)
  simp only [inB, h2, Bool.and_eq_true, decide_eq_true_eq]
  omega
theorem inBf {k n : Nat} (h : n ≤ k) (hn : k < 2147483648) : inB (nI k) n = false := by
  have h2 : (nI k).toInt = (k : Int) := nI_toInt (by omega)
  have : ¬ ((k : Int) < n) := by omega
  simp [inB, h2, this]
theorem nIc {k : Nat} (h : k < 2147483648) : (nI k).toNatClampNeg = k := nI_clamp h
theorem inB_ex {x : Int32} {n : Nat} (h : inB x n = true) (hn : n < 2147483648) : ∃ j : Nat, j < n ∧ x = nI j := vp_in_of (inB_in h) hn
/-! ===== a loop that counts, with a way out ===== -/
theorem lpE {τ α : Type} (L : Nat → τ → Option α) (P : Nat → τ → Prop) (n : Nat) (hs : ∀ fu j t, j < n → P j t → ∃ t', P (j + 1) t' ∧ L (fu + 1) t = L fu t') : ∀ m fu j t, j + m = n → m ≤ fu → P j t → ∃ t', P n t' ∧ L fu t = L (fu - m) t' := by
  intro m
  induction m with
  | zero =>
    intro fu j t hj _ h
    have : j = n := by omega
    subst this
    exact ⟨t, h, by rw [Nat.sub_zero]⟩
  | succ m ih =>
    intro fu j t hj hf h
    obtain ⟨fu, rfl⟩ : ∃ g, fu = g + 1 := ⟨fu - 1, by omega⟩
    obtain ⟨t', h', e⟩ := hs fu j t (by omega) h
    obtain ⟨t2, h2, e2⟩ := ih fu (j + 1) t' (by omega) (by omega) h'
    exact ⟨t2, h2, by rw [e, e2, Nat.add_sub_add_right]⟩
theorem lpW {τ α : Type} (L : Nat → τ → Option α) (P : Nat → τ → Prop) (Q : α → Prop) (n : Nat) (hs : ∀ fu j t, j < n → P j t → (∃ t', P (j + 1) t' ∧ L (fu + 1) t = L fu t') ∨ (∃ a, L (fu + 1) t = some a ∧ Q a)) (he : ∀ fu t, P n t → ∃ a, L (fu + 1) t = some a ∧ Q a) : ∀ m fu j t, j + m = n → m < fu → P j t → ∃ a, L fu t = some a ∧ Q a := by
  intro m
  induction m with
  | zero =>
    intro fu j t hj hf h
    have : j = n := by omega
    subst this
    obtain ⟨fu, rfl⟩ : ∃ g, fu = g + 1 := ⟨fu - 1, by omega⟩
    exact he fu t h
  | succ m ih =>
    intro fu j t hj hf h
    obtain ⟨fu, rfl⟩ : ∃ g, fu = g + 1 := ⟨fu - 1, by omega⟩
    rcases hs fu j t (by omega) h with ⟨t', h', e⟩ | h'
    · rw [e]
      exact ih fu (j + 1) t' (by omega) (by omega) h'
    · exact h'
/-- done n times, by number -/
def itr {σ : Type} (f : Nat → σ → σ) : Nat → σ → σ
  | 0, s => s
  | n + 1, s => f n (itr f n s)
theorem itr_inv {σ : Type} {f : Nat → σ → σ} {P : σ → Prop} (hs : ∀ n s, P s → P (f n s)) : ∀ n s, P s → P (itr f n s)
  | 0, _, h => h
  | n + 1, s, h => hs n _ (itr_inv hs n s h)
/-! ===== how the LANDS are: rows men, sun, hay, barn, from; then rate, week, bought ===== -/
abbrev St : Type := Nat → Nat → Int32
def up (s : St) (q k : Nat) (v : Int32) : St := fun q' k' => if q' = q ∧ k' = k then v else s q' k'
def rdX (a : Nat → LA) (b : LA) (o : Nat) (D : Dt) : St := fun q k => if q < 5 ∧ k < 5 then D.1 (a q) k else if q = 5 ∧ k < 3 then D.1 b (k + o) else 0
def rdS (D : Dt) (i : Nat) : St := rdX (fun q => (6, i, q + 1, 0)) (6, i, 0, 0) 5 D
def rdM (D : Dt) : St := rdX (fun q => (11, 0, q + 3, 0)) (11, 0, 2, 0) 3 D
theorem up_s {s : St} {q k : Nat} {v : Int32} : up s q k v q k = v := by simp [up]
theorem up_n {s : St} {q k q' k' : Nat} {v : Int32} (h : ¬ (q' = q ∧ k' = k)) : up s q k v q' k' = s q' k' := by simp [up, h]
theorem rdX_row {a : Nat → LA} {b : LA} {o : Nat} {D : Dt} {k : Nat} (q : Nat) {v : Int32} (ha : ∀ x y, a x = a y → x = y) (hb : ∀ x, a x ≠ b) (hq : q < 5) (hk : k < 5) : rdX a b o (setI D (a q) k v) = up (rdX a b o D) q k v := by
  funext x y
  simp only [rdX, up, gI]
  by_cases h1 : x < 5 ∧ y < 5
  · rw [if_pos h1, if_pos h1]
    by_cases h2 : x = q ∧ y = k
    · rw [if_pos h2, if_pos ⟨by rw [h2.1], h2.2⟩]
    · rw [if_neg h2, if_neg (fun h => h2 ⟨ha _ _ h.1, h.2⟩)]
  · have h3 : ¬ (x = q ∧ y = k) := fun h => h1 ⟨by omega, by omega⟩
    rw [if_neg h1, if_neg h1, if_neg h3]
    by_cases h4 : x = 5 ∧ y < 3
    · rw [if_pos h4, if_pos h4, if_neg (fun h => hb _ h.1.symm)]
    · rw [if_neg h4, if_neg h4]
theorem rdX_sc {a : Nat → LA} {b : LA} {o : Nat} {D : Dt} (k : Nat) {v : Int32} (hb : ∀ x, a x ≠ b) (hk : k < 3) : rdX a b o (setI D b (k + o) v) = up (rdX a b o D) 5 k v := by
  funext x y
  simp only [rdX, up, gI]
  by_cases h1 : x < 5 ∧ y < 5
  · rw [if_pos h1, if_pos h1, if_neg (fun h => hb _ h.1), if_neg (by omega)]
  · rw [if_neg h1, if_neg h1]
    by_cases h4 : x = 5 ∧ y < 3
    · rw [if_pos h4, if_pos h4]
      by_cases h5 : y = k
      · rw [if_pos ⟨trivial, by omega⟩, if_pos ⟨h4.1, h5⟩]
      · rw [if_neg (by omega), if_neg (by omega)]
    · rw [if_neg h4, if_neg h4, if_neg (by omega)]
theorem rdX_cong {a : Nat → LA} {b : LA} {o : Nat} {D D' : Dt} (h1 : ∀ q k, q < 5 → k < 5 → D'.1 (a q) k = D.1 (a q) k) (h2 : ∀ k, k < 3 → D'.1 b (k + o) = D.1 b (k + o)) : rdX a b o D' = rdX a b o D := by
  funext x y
  simp only [rdX]
  by_cases h : x < 5 ∧ y < 5
  · rw [if_pos h, if_pos h, h1 x y h.1 h.2]
  · rw [if_neg h, if_neg h]
    by_cases h4 : x = 5 ∧ y < 3
    · rw [if_pos h4, if_pos h4, h2 y h4.2]
    · rw [if_neg h4, if_neg h4]
theorem la_q {i x y : Nat} (h : ((6, i, x + 1, 0) : LA) = (6, i, y + 1, 0)) : x = y := by
  simp only [Prod.mk.injEq] at h
  omega
theorem la_m {x y : Nat} (h : ((11, 0, x + 3, 0) : LA) = (11, 0, y + 3, 0)) : x = y := by
  simp only [Prod.mk.injEq] at h
  omega
theorem rdS_row {D : Dt} {i k : Nat} (q : Nat) {v : Int32} (hq : q < 5) (hk : k < 5) : rdS (setI D (6, i, q + 1, 0) k v) i = up (rdS D i) q k v :=
  rdX_row (a := fun q => (6, i, q + 1, 0)) (b := (6, i, 0, 0)) q (fun _ _ h => la_q h) (fun x h => by simp at h) hq hk
theorem rdS_sc {D : Dt} {i : Nat} (k : Nat) {v : Int32} (hk : k < 3) : rdS (setI D (6, i, 0, 0) (k + 5) v) i = up (rdS D i) 5 k v :=
  rdX_sc (a := fun q => (6, i, q + 1, 0)) (b := (6, i, 0, 0)) k (fun x h => by simp at h) hk
theorem rdM_row {D : Dt} {k : Nat} (q : Nat) {v : Int32} (hq : q < 5) (hk : k < 5) : rdM (setI D (11, 0, q + 3, 0) k v) = up (rdM D) q k v :=
  rdX_row (a := fun q => (11, 0, q + 3, 0)) (b := (11, 0, 2, 0)) q (fun _ _ h => la_m h) (fun x h => by simp at h) hq hk
theorem rdM_sc {D : Dt} (k : Nat) {v : Int32} (hk : k < 3) : rdM (setI D (11, 0, 2, 0) (k + 3) v) = up (rdM D) 5 k v :=
  rdX_sc (a := fun q => (11, 0, q + 3, 0)) (b := (11, 0, 2, 0)) k (fun x h => by simp at h) hk
theorem rdS_g {D : Dt} {i k : Nat} (q : Nat) (hq : q < 5) (hk : k < 5) : D.1 (6, i, q + 1, 0) k = rdS D i q k := by
  show _ = if q < 5 ∧ k < 5 then _ else _
  rw [if_pos ⟨hq, hk⟩]
theorem rdS_s {D : Dt} {i : Nat} (k : Nat) (hk : k < 3) : D.1 (6, i, 0, 0) (k + 5) = rdS D i 5 k := by
  simp [rdS, rdX, hk]
theorem rdM_g {D : Dt} {k : Nat} (q : Nat) (hq : q < 5) (hk : k < 5) : D.1 (11, 0, q + 3, 0) k = rdM D q k := by
  show _ = if q < 5 ∧ k < 5 then _ else _
  rw [if_pos ⟨hq, hk⟩]
theorem rdM_s {D : Dt} (k : Nat) (hk : k < 3) : D.1 (11, 0, 2, 0) (k + 3) = rdM D 5 k := by
  simp [rdM, rdX, hk]
theorem rdS_sm {S : LA → Nat → Bool} {D D' : Dt} {i : Nat} (h : Sm S D D') (hs : ∀ q k, S (6, i, q, 0) k = false) : rdS D' i = rdS D i :=
  rdX_cong (fun q k _ _ => h.i (hs _ _)) (fun k _ => h.i (hs _ _))
theorem rdM_sm {S : LA → Nat → Bool} {D D' : Dt} (h : Sm S D D') (hs : ∀ q k, q < 5 → k < 5 → S (11, 0, q + 3, 0) k = false) (h2 : ∀ k, k < 3 → S (11, 0, 2, 0) (k + 3) = false) : rdM D' = rdM D :=
  rdX_cong (fun q k hq hk => h.i (hs q k hq hk)) (fun k hk => h.i (h2 k hk))
/-! ===== what the acts do ===== -/
def pAddS (s : St) (k : Nat) (v : Int32) : St := up s 1 k (if s 1 k + v < 99 then s 1 k + v else 99)
def pAddM (s : St) (k : Nat) (v : Int32) : St := up s 0 k (if s 0 k + v < 999 then s 0 k + v else 999)
def pMove (s : St) (a b : Nat) (v : Int32) : St := pAddM (up s 0 a (s 0 a - v)) b v
def pTake (s : St) (b : Nat) : St := up s 1 b (s 1 b - 1)
def pCnt (s : St) : St := up s 5 2 (s 5 2 + 1)
def pBuy (s : St) (a b : Nat) : St := pCnt (pAddS (pTake (pMove s a b (s 5 0)) b) a 1)
def pReap (s : St) (k : Nat) (r : Int32) : St := up (up (pTake s k) 2 k (s 2 k - r)) 3 k (if s 3 k + r < 9999 then s 3 k + r else 9999)
def pHarv (s : St) (k : Nat) : St := if 1 ≤ s 2 k then (if 1 ≤ s 1 k then pReap s k (if s 2 k < s 0 k then s 2 k else s 0 k) else up s 2 k (s 2 k - 1)) else s
def pMay (s : St) (a b : Nat) : Bool := decide (a ≠ b) && (decide (¬ s 0 a < s 5 0) && decide (¬ s 1 b ≤ 0))
/-! the class's own -/
def stS (i : Nat) : LA → Nat → Bool := fun la _ => la.1 == 6 && la.2.1 == i
theorem stS_t (i q j k : Nat) : stS i (6, i, q, j) k = true := by simp [stS]
