def cOf (s : Nat) : Nat := [59, 91, 93, 43, 45, 42, 47, 37, 60, 61, 62].getD (s - 4) 0
theorem sgK_inv : ∀ b, b < 256 → sgK b ≠ 3 → cOf (sgK b) = b := by decide +kernel
theorem kd_sg {T : Tp} {q s : Nat} (h : kd T q = s) (h1 : 3 < s) (h2 : s < 15) : q < tpL T ∧ sgK (tpB T q) = s ∧ dbl T q = false := by
  have hw := wc_b (T := T) (p := q)
  have c : ¬ tpL T ≤ q := fun x => by have := kd_0.mpr x; omega
  unfold kd at h
  rw [if_neg c] at h
  split at h
  · split at h <;> omega
  · split at h
    · omega
    · split at h
      · split at h <;> omega
      · rename_i d
        exact ⟨by omega, h, by simpa using d⟩
/-- a sign of one byte -/
theorem kd_c {T : Tp} {q c s : Nat} (hT : okT T) (hs : sgK c = s) (h1 : 3 < s) (h2 : s ≤ 13) (h12 : s ≠ 12) (hc : c = 59 ∨ c = 91 ∨ c = 93 ∨ c = 43 ∨ c = 45 ∨ c = 42 ∨ c = 47 ∨ c = 37 ∨ c = 61) : (q < tpL T ∧ tpB T q = c) ↔ kd T q = s := by
  constructor
  · rintro ⟨a, b⟩
    have n1 : ¬ isDg (tpB T q) = true := by unfold isDg; rw [decide_eq_true_eq]; omega
    have n2 : ¬ isLr (tpB T q) = true := by unfold isLr; rw [decide_eq_true_eq]; omega
    have n3 : ¬ dbl T q = true := by
      unfold dbl
      rw [decide_eq_true_eq, b, hs]
      omega
    unfold kd
    rw [if_neg (by omega), if_neg n1, if_neg n2, if_neg n3, b, hs]
  · intro h
    obtain ⟨a, b, _⟩ := kd_sg h h1 (by omega)
    refine ⟨a, ?_⟩
    rw [← sgK_inv (tpB T q) (hT.2 q) (by omega), b, ← sgK_inv c (by omega) (by omega), hs]
theorem kd_c1 {T : Tp} {q c s : Nat} (hT : okT T) (hs : sgK c = s) (h1 : 3 < s) (h2 : s ≤ 13) (h12 : s ≠ 12) (hc : c = 59 ∨ c = 91 ∨ c = 93 ∨ c = 43 ∨ c = 45 ∨ c = 42 ∨ c = 47 ∨ c = 37 ∨ c = 61) (h : kd T q = s) : nx T q = q + 1 := by
  obtain ⟨a, b⟩ := (kd_c (T := T) (q := q) hT hs h1 h2 h12 hc).mpr h
  have n1 : ¬ isDg (tpB T q) = true := by unfold isDg; rw [decide_eq_true_eq]; omega
  have n2 : ¬ isLr (tpB T q) = true := by unfold isLr; rw [decide_eq_true_eq]; omega
  have n3 := (kd_sg h h1 (by omega)).2.2
  unfold nx
  rw [if_neg (by omega), if_neg n1, if_neg n2, n3, if_neg (by decide)]
/-- the sign that stands there, as a number -/
theorem sgn_c {T : Tp} {q c s : Nat} (hT : okT T) (hs : sgK c = s) (h1 : 3 < s) (h2 : s ≤ 13) (h12 : s ≠ 12) (hc : c = 59 ∨ c = 91 ∨ c = 93 ∨ c = 43 ∨ c = 45 ∨ c = 42 ∨ c = 47 ∨ c = 37 ∨ c = 61) : ((if q < tpL T then nI (tpB T q) else -1) = nI c) = (kd T q = s) := by
  have hb := hT.2 q
  apply propext
  rw [← kd_c (T := T) (q := q) hT hs h1 h2 h12 hc]
  by_cases a : q < tpL T
  · rw [if_pos a, nI_eq (by omega) (by omega)]
    exact ⟨fun x => ⟨a, x⟩, fun x => x.2⟩
  · rw [if_neg a]
    exact ⟨fun x => absurd x.symm (nI_nem1 (by omega)), fun x => absurd x.1 a⟩
theorem RP.to {D : Dt} {T : Tp} {p p' : Nat} {f f' : Int32} (h : RP D T p f) (hp : p = p') (hf : f = f') : RP D T p' f' := by
  subst hp
  subst hf
  exact h
theorem r_amount_f {D : Dt} {T : Tp} {p : Nat} {f a b : Int32} (hT : okT T) (hp : p < 100000) (hf : ¬ f = 0) (h : RP D T p f) : ∃ D', F_X11_amount a b D = some (0, D') ∧ RP D' T (sbk T p) f ∧ Sm p21 D D' := by
  obtain ⟨D1, e1, h1, m1⟩ := r_blk hT hp h
  rw [F_X11_amount, e1, vbd_s, bnd_e, h1.2.2, if_neg hf, F_X11_amount_b26, h1.2.2, if_neg hf]
  exact ⟨D1, rfl, h1, p20_21 m1⟩
theorem r_amount {D : Dt} {T : Tp} {p lo h1 : Nat} (hT : okT T) (hp : p ≤ tpL T) (hlo : lo < 1000) (hh : h1 < 1000) (h : RP D T p 0) : match pNum T (sbk T p) lo h1 with
    | .inl f => ∃ v D' p', F_X11_amount (nI lo) (nI h1 - 1) D = some (v, D') ∧ RP D' T p' (nI f) ∧ p' ≤ tpL T ∧ Sm p21 D D'
    | .inr (q', v) => ∃ D' p', F_X11_amount (nI lo) (nI h1 - 1) D = some (nI v, D') ∧ RP D' T p' 0 ∧ sbk T p' = q' ∧ p' ≤ tpL T ∧ Sm p21 D D' := by
  have hL := hT.1
  obtain ⟨D1, e1, r1, m1⟩ := r_blk hT (by omega) h
  have hq := sbk_le hp
  generalize sbk T p = q at r1 hq ⊢
  obtain ⟨D2, e2, r2, m2⟩ := r_digits hT (by omega) r1
  have m12 := (p20_21 m1).trans m2
  have ge : q ≤ eDg T q := spE_ge
  have le : eDg T q ≤ tpL T := spE_le hq
  rw [F_X11_amount, e1, vbd_s, bnd_e, r1.2.2, if_pos rfl, e2, cbd_s, r1.2.1, F_X11_amount_b26, r2.2.2]
  unfold pNum
  by_cases c1 : kd T q = 1
  · have hb := kd_nm c1
    have hin : (nI lo ≤ nI (nm T q) ∧ nI (nm T q) ≤ nI h1 - 1) ↔ (lo ≤ nm T q ∧ nm T q < h1) := by
      rw [fa_le, fa_le, nI_toInt (by omega), nI_toInt (by omega), show (nI h1 - 1).toInt = (h1 : Int) - 1 from pk_sub_toInt (a := h1) (b := 1) (by omega) (by decide)]
      omega
    rw [if_pos c1, if_pos c1, if_pos c1, if_pos rfl, r_in, cbd_s]
    simp only [hin]
    have r2' : RP D2 T (eDg T q) 0 := r2.to (by rw [if_pos (Or.inl c1)]) (by rw [if_pos c1])
    by_cases c2 : lo ≤ nm T q ∧ nm T q < h1
    · rw [i1t c2, if_pos c2]
      refine ⟨D2, eDg T q, rfl, r2', ?_, le, m12⟩
      have : nx T q = eDg T q := by
        have hd := dg_p.mpr (Or.inl c1)
        unfold nx
        rw [if_neg (by omega), if_pos hd.2]
      rw [← this]
      rfl
    · obtain ⟨D3, e3, r3, m3⟩ := r_fails (x := q) (c := 1) r2'
      rw [i1f c2, if_neg c2, show F_X11_fails 1 (nI q) D2 = _ from e3, vbd_s]
      exact ⟨_, D3, eDg T q, rfl, r3, le, m12.trans (m21 m3)⟩
  · have hz : ∀ x : Nat, 1 ≤ x → x < 100000 → ¬ ft 0 (nI x) = 0 := fun x h1 h2 => by
      unfold ft
      rw [if_pos rfl]
      exact nI_ne0 (by omega) (by omega)
    by_cases c2 : kd T q = 2
    · rw [if_neg c1, if_pos c2, if_neg c1, if_neg c1, if_pos c2, if_neg (hz _ (by omega) (by omega))]
      exact ⟨_, D2, eDg T q, rfl, r2.to (by rw [if_pos (Or.inr c2)]) (by rw [if_neg c1, if_pos c2]; rfl), le, m12⟩
    · rw [if_neg c1, if_neg c2, if_neg c1, if_neg c1, if_neg c2, if_neg (hz _ (by omega) (by omega))]
      simp only [if_neg c2]
      exact ⟨_, D2, q, rfl, r2.to (by rw [if_neg (by omega)]) (by rw [if_neg c1, if_neg c2]; rfl), hq, m12⟩
def ShM (D : Dt) (h : Shp) : Prop := D.1 (11, 0, 15, 0) 0 = h.2.1 ∧ D.1 (11, 0, 15, 0) 1 = h.2.2.1 ∧ (shN h ≤ 5 ∧ D.1 (11, 0, 15, 0) 2 = nI (shN h)) ∧ (∀ k, k < 5 → D.1 (11, 0, 16, 0) k = h.2.2.2.2.1 k ∧ D.1 (11, 0, 17, 0) k = h.2.2.2.2.2.1 k ∧ D.1 (11, 0, 18, 0) k = h.2.2.2.2.2.2.1 k) ∧ ∀ k v, k < 5 → v < 61 → D.1 (11, 0, 19, 0) (61 * k + v) = shTl h k v
def rmT : LA → Nat → Bool := fun la k => p21 la k || (la.1 == 11 && decide (15 ≤ la.2.2.1 ∧ la.2.2.1 ≤ 19))
theorem p21_rm {D D' : Dt} (s : Sm p21 D D') : Sm rmT D D' := s.mono (fun la k e => by
  unfold rmT at e
  exact (Bool.or_eq_false_iff.mp e).1)
theorem p21_15 {D D' : Dt} (s : Sm p21 D D') (q k : Nat) (hq : q ≠ 0) : D'.1 (11, 0, q, 0) k = D.1 (11, 0, q, 0) k := s.i (by simp [p21, hq])
theorem ShM.p {D D' : Dt} {h : Shp} (r : ShM D h) (s : Sm p21 D D') : ShM D' h := by
  obtain ⟨a1, a2, a3, a4, a5⟩ := r
  refine ⟨?_, ?_, ⟨a3.1, ?_⟩, fun k hk => ?_, fun k v hk hv => ?_⟩
  · rw [p21_15 s 15 _ (by decide)]; exact a1
  · rw [p21_15 s 15 _ (by decide)]; exact a2
  · rw [p21_15 s 15 _ (by decide)]; exact a3.2
  · rw [p21_15 s 16 _ (by decide), p21_15 s 17 _ (by decide), p21_15 s 18 _ (by decide)]; exact a4 k hk
  · rw [p21_15 s 19 _ (by decide)]; exact a5 k v hk hv
theorem RP.w {D : Dt} {T : Tp} {p q k : Nat} {f v : Int32} (h : RP D T p f) (h1 : q ≠ 0) (h2 : q ≠ 30) : RP (setI D (11, 0, q, 0) k v) T p f := by
  have m : Sm (fun la _ => la == (11, 0, q, 0)) D (setI D (11, 0, q, 0) k v) := Sm.sI (by simp)
  refine ⟨h.1.sm m (by simp; omega) (fun k => by simp; omega), ?_, ?_⟩
  · rw [m.i (by simp; omega)]; exact h.2.1
  · rw [m.i (by simp; omega)]; exact h.2.2
theorem gI_q {D : Dt} {q q' k j : Nat} {v : Int32} (h : q' ≠ q) : (setI D (11, 0, q, 0) k v).1 (11, 0, q', 0) j = D.1 (11, 0, q', 0) j := by
  rw [gI, if_neg (by simp [h])]
theorem gI_k {D : Dt} {la : LA} {k j : Nat} {v : Int32} (h : j ≠ k) : (setI D la k v).1 la j = D.1 la j := by
  rw [gI, if_neg (fun x => h x.2)]
def tcR (T : Tp) (R : Nat ⊕ (Shp × Nat)) (D : Dt) (x : Option Dt) : Prop := match R with
    | .inl f => ∃ D' p', x = some D' ∧ RP D' T p' (nI f) ∧ p' ≤ tpL T ∧ Sm rmT D D'
    | .inr (h1, q1) => ∃ D' p', x = some D' ∧ RP D' T p' 0 ∧ sbk T p' = q1 ∧ p' ≤ tpL T ∧ ShM D' h1 ∧ Sm rmT D D'
theorem r_tRates {D : Dt} {T : Tp} {p : Nat} {h : Shp} (hT : okT T) (hp : p ≤ tpL T) (hr : RP D T p 0) (hs : ShM D h) : tcR T (match pNum T (sbk T p) 1 10 with
    | .inl f => .inl f
    | .inr (q1, r) => match pNum T q1 0 10 with
      | .inl f => .inl f
      | .inr (q2, s) => .inr (hRates h r s, q2)) D (F_X11_tablePart 0 D) := by
  have hL := hT.1
  have n1 := r_amount (lo := 1) (h1 := 10) hT hp (by decide) (by decide) hr
  unfold tcR
  rw [F_X11_tablePart, if_pos rfl]
  cases e1 : pNum T (sbk T p) 1 10 with
  | inl f =>
    rw [e1] at n1
    obtain ⟨v, D1, p1, e, r1, l1, m1⟩ := n1
    obtain ⟨f1, f2⟩ := pNum_f (sbk_le hp) e1
    simp only
    rw [show F_X11_amount 1 9 D = _ from e, cbd_s, bnd_e]
    obtain ⟨D2, e2, r2, m2⟩ := r_amount_f (a := 0) (b := 9) hT (by omega) (nI_ne0 (by omega) (by omega)) (r1.w (q := 15) (k := 0) (v := v) (by decide) (by decide))
    rw [e2, cbd_s, bnd_e]
    exact ⟨_, sbk T p1, rfl, r2.w (by decide) (by decide), sbk_le l1, ((p21_rm m1).trans (Sm.sI (by simp [rmT]))).trans ((p21_rm m2).trans (Sm.sI (by simp [rmT])))⟩
  | inr w =>
    obtain ⟨q1, r⟩ := w
    rw [e1] at n1
    obtain ⟨D1, p1, e, r1, b1, l1, m1⟩ := n1
    simp only
    rw [show F_X11_amount 1 9 D = _ from e, cbd_s, bnd_e]
    have n2 := r_amount (D := setI D1 (11, 0, 15, 0) 0 (nI r)) (p := p1) (lo := 0) (h1 := 10) hT l1 (by decide) (by decide) (r1.w (by decide) (by decide))
    rw [b1] at n2
    cases e2 : pNum T q1 0 10 with
    | inl f =>
      rw [e2] at n2
      obtain ⟨v, D2, p2, e', r2, l2, m2⟩ := n2
      simp only
      rw [show F_X11_amount 0 9 _ = _ from e', cbd_s, bnd_e]
      exact ⟨_, p2, rfl, r2.w (by decide) (by decide), l2, ((p21_rm m1).trans (Sm.sI (by simp [rmT]))).trans ((p21_rm m2).trans (Sm.sI (by simp [rmT])))⟩
    | inr w2 =>
      obtain ⟨q2, s⟩ := w2
      rw [e2] at n2
      obtain ⟨D2, p2, e', r2, b2, l2, m2⟩ := n2
      simp only
      rw [show F_X11_amount 0 9 _ = _ from e', cbd_s, bnd_e]
      refine ⟨_, p2, rfl, r2.w (by decide) (by decide), b2, l2, ?_, ((p21_rm m1).trans (Sm.sI (by simp [rmT]))).trans ((p21_rm m2).trans (Sm.sI (by simp [rmT])))⟩
      obtain ⟨a1, a2, a3, a4, a5⟩ := hs.p m1
      have t : ∀ q k, q ≠ 0 → D2.1 (11, 0, q, 0) k = (setI D1 (11, 0, 15, 0) 0 (nI r)).1 (11, 0, q, 0) k := fun q k hq => p21_15 m2 q k hq
      refine ⟨?_, gI_s, ⟨a3.1, ?_⟩, fun k hk => ?_, fun k v hk hv => ?_⟩
      · rw [gI_k (by decide), t 15 _ (by decide), gI_s]; rfl
      · rw [gI_k (by decide), t 15 _ (by decide), gI_k (by decide)]; exact a3.2
      · rw [gI_q (by decide), gI_q (by decide), gI_q (by decide), t 16 _ (by decide), t 17 _ (by decide), t 18 _ (by decide), gI_q (by decide), gI_q (by decide), gI_q (by decide)]; exact a4 k hk
      · rw [gI_q (by decide), t 19 _ (by decide), gI_q (by decide)]; exact a5 k v hk hv
theorem r_tLand {D : Dt} {T : Tp} {p : Nat} {h : Shp} (hT : okT T) (hp : p ≤ tpL T) (h5 : shN h < 5) (hr : RP D T p 0) (hs : ShM D h) : tcR T (match pNum T (sbk T p) 0 100 with
    | .inl f => .inl f
    | .inr (q1, a) => match pNum T q1 0 10 with
      | .inl f => .inl f
      | .inr (q2, b) => match pNum T q2 0 100 with
        | .inl f => .inl f
        | .inr (q3, c) => .inr (hLand h a b c, q3)) D (F_X11_tablePart 1 D) := by
  have hL := hT.1
  have n1 := r_amount (lo := 0) (h1 := 100) hT hp (by decide) (by decide) hr
  unfold tcR
  rw [F_X11_tablePart, if_neg (by decide), if_pos rfl, hs.2.2.1.2, bnd_e]
  have hin := inBe h5 (by decide)
  have hcl : (nI (shN h)).toNatClampNeg = shN h := nIc (by omega)
  -- in a faulty state
  have bad2 : ∀ (E : Dt) (x : Nat) (f : Int32), ¬ f = 0 → x ≤ tpL T → RP E T x f → ∃ D' p', (cbd (F_X11_amount (0 : Int32) (99 : Int32) E) (fun r22 D23 => (bnd (setI D23 (11, 0, 18, 0) ((nI (shN h)).toNatClampNeg) r22) (fun D24 => (bnd (setI D24 (11, 0, 15, 0) 2 ((D24.1 (11, 0, 15, 0) 2) + (1 : Int32))) (fun D25 => (some D25))))))) = some D' ∧ RP D' T p' f ∧ p' ≤ tpL T ∧ Sm rmT E D' := by
    intro E x f hf hx hE
    obtain ⟨E1, e1, r1, m1⟩ := r_amount_f (a := 0) (b := 99) hT (by omega) hf hE
    rw [e1, cbd_s, bnd_e, bnd_e]
    exact ⟨_, sbk T x, rfl, (r1.w (by decide) (by decide)).w (by decide) (by decide), sbk_le hx, ((p21_rm m1).trans (Sm.sI (by simp [rmT]))).trans (Sm.sI (by simp [rmT]))⟩
  have bad1 : ∀ (E : Dt) (x : Nat) (f : Int32), ¬ f = 0 → x ≤ tpL T → RP E T x f → ∃ D' p', (cbd (F_X11_amount (0 : Int32) (9 : Int32) E) (fun r18 D19 => (bnd (setI D19 (11, 0, 17, 0) ((nI (shN h)).toNatClampNeg) r18) (fun D20 => (cbd (F_X11_amount (0 : Int32) (99 : Int32) D20) (fun r22 D23 => (bnd (setI D23 (11, 0, 18, 0) ((nI (shN h)).toNatClampNeg) r22) (fun D24 => (bnd (setI D24 (11, 0, 15, 0) 2 ((D24.1 (11, 0, 15, 0) 2) + (1 : Int32))) (fun D25 => (some D25))))))))))) = some D' ∧ RP D' T p' f ∧ p' ≤ tpL T ∧ Sm rmT E D' := by
    intro E x f hf hx hE
    obtain ⟨E1, e1, r1, m1⟩ := r_amount_f (a := 0) (b := 9) hT (by omega) hf hE
    rw [e1, cbd_s, bnd_e]
    obtain ⟨D', p', e2, r2, l2, m2⟩ := bad2 _ (sbk T x) f hf (sbk_le hx) (r1.w (q := 17) (k := (nI (shN h)).toNatClampNeg) (v := 0) (by decide) (by decide))
    exact ⟨D', p', e2, r2, l2, ((p21_rm m1).trans (Sm.sI (by simp [rmT]))).trans m2⟩
  cases e1 : pNum T (sbk T p) 0 100 with
  | inl f =>
    rw [e1] at n1
    obtain ⟨v, D1, p1, e, r1, l1, m1⟩ := n1
    obtain ⟨f1, f2⟩ := pNum_f (sbk_le hp) e1
    simp only
    rw [show F_X11_amount 0 99 D = _ from e, cbd_s, grd_t hin, bnd_e]
    obtain ⟨D', p', e2, r2, l2, m2⟩ := bad1 _ p1 (nI f) (nI_ne0 (by omega) (by omega)) l1 (r1.w (q := 16) (k := (nI (shN h)).toNatClampNeg) (v := v) (by decide) (by decide))
    exact ⟨D', p', e2, r2, l2, ((p21_rm m1).trans (Sm.sI (by simp [rmT]))).trans m2⟩
  | inr w =>
    obtain ⟨q1, a⟩ := w
    have hq1 := pNum_q (sbk_le hp) e1
    rw [e1] at n1
    obtain ⟨D1, p1, e, r1, b1, l1, m1⟩ := n1
    simp only
    rw [show F_X11_amount 0 99 D = _ from e, cbd_s, grd_t hin, bnd_e]
    have n2 := r_amount (D := setI D1 (11, 0, 16, 0) ((nI (shN h)).toNatClampNeg) (nI a)) (p := p1) (lo := 0) (h1 := 10) hT l1 (by decide) (by decide) (r1.w (by decide) (by decide))
    rw [b1] at n2
    cases e2 : pNum T q1 0 10 with
    | inl f =>
      obtain ⟨f1, f2⟩ := pNum_f hq1 e2
      rw [e2] at n2
      obtain ⟨v, D2, p2, e', r2, l2, m2⟩ := n2
      simp only
      rw [show F_X11_amount 0 9 _ = _ from e', cbd_s, bnd_e]
      obtain ⟨D', p', e3, r3, l3, m3⟩ := bad2 _ p2 (nI f) (nI_ne0 (by omega) (by omega)) l2 (r2.w (q := 17) (k := (nI (shN h)).toNatClampNeg) (v := v) (by decide) (by decide))
      exact ⟨D', p', e3, r3, l3, (((p21_rm m1).trans (Sm.sI (by simp [rmT]))).trans ((p21_rm m2).trans (Sm.sI (by simp [rmT])))).trans m3⟩
    | inr w2 =>
      obtain ⟨q2, b⟩ := w2
      rw [e2] at n2
      obtain ⟨D2, p2, e', r2, b2, l2, m2⟩ := n2
      simp only
      rw [show F_X11_amount 0 9 _ = _ from e', cbd_s, bnd_e]
      have n3 := r_amount (D := setI D2 (11, 0, 17, 0) ((nI (shN h)).toNatClampNeg) (nI b)) (p := p2) (lo := 0) (h1 := 100) hT l2 (by decide) (by decide) (r2.w (by decide) (by decide))
      rw [b2] at n3
      cases e3 : pNum T q2 0 100 with
      | inl f =>
        rw [e3] at n3
        obtain ⟨v, D3, p3, e'', r3, l3, m3⟩ := n3
        simp only
        rw [show F_X11_amount 0 99 _ = _ from e'', cbd_s, bnd_e, bnd_e]
        exact ⟨_, p3, rfl, (r3.w (by decide) (by decide)).w (by decide) (by decide), l3, (((p21_rm m1).trans (Sm.sI (by simp [rmT]))).trans ((p21_rm m2).trans (Sm.sI (by simp [rmT])))).trans (((p21_rm m3).trans (Sm.sI (by simp [rmT]))).trans (Sm.sI (by simp [rmT])))⟩
      | inr w3 =>
        obtain ⟨q3, c⟩ := w3
        rw [e3] at n3
        obtain ⟨D3, p3, e'', r3, b3, l3, m3⟩ := n3
        simp only
        rw [show F_X11_amount 0 99 _ = _ from e'', cbd_s, bnd_e, bnd_e]
        obtain ⟨a1, a2, a3, a4, a5⟩ := hs.p m1
        have t2 : ∀ q k, q ≠ 0 → D2.1 (11, 0, q, 0) k = _ := fun q k hq => p21_15 m2 q k hq
        have t3 : ∀ q k, q ≠ 0 → D3.1 (11, 0, q, 0) k = _ := fun q k hq => p21_15 m3 q k hq
        have x2 : (setI D3 (11, 0, 18, 0) ((nI (shN h)).toNatClampNeg) (nI c)).1 (11, 0, 15, 0) 2 = nI (shN h) := by
          rw [gI_q (by decide), t3 15 _ (by decide), gI_q (by decide), t2 15 _ (by decide), gI_q (by decide)]; exact a3.2
        rw [x2, nI_1, hcl]
        rw [hcl] at t2 t3
        refine ⟨_, p3, rfl, (r3.w (by decide) (by decide)).w (by decide) (by decide), b3, l3, ⟨?_, ?_, ⟨by show shN h + 1 ≤ 5; omega, gI_s⟩, fun k hk => ⟨?_, ?_, ?_⟩, fun k v hk hv => ?_⟩, (((p21_rm m1).trans (Sm.sI (by simp [rmT]))).trans ((p21_rm m2).trans (Sm.sI (by simp [rmT])))).trans (((p21_rm m3).trans (Sm.sI (by simp [rmT]))).trans (Sm.sI (by simp [rmT])))⟩
        · rw [gI_k (by decide), gI_q (by decide), t3 15 _ (by decide), gI_q (by decide), t2 15 _ (by decide), gI_q (by decide)]; exact a1
        · rw [gI_k (by decide), gI_q (by decide), t3 15 _ (by decide), gI_q (by decide), t2 15 _ (by decide), gI_q (by decide)]; exact a2
        · show _ = (if k = shN h then nI a else h.2.2.2.2.1 k)
          rw [gI_q (by decide), gI_q (by decide), t3 16 _ (by decide), gI_q (by decide), t2 16 _ (by decide)]
          by_cases ck : k = shN h
          · rw [if_pos ck, ck, gI_s]
          · rw [if_neg ck, gI_k ck]; exact (a4 k hk).1
        · show _ = (if k = shN h then nI b else h.2.2.2.2.2.1 k)
          rw [gI_q (by decide), gI_q (by decide), t3 17 _ (by decide)]
          by_cases ck : k = shN h
          · rw [if_pos ck, ck, gI_s]
          · rw [if_neg ck, gI_k ck, t2 17 _ (by decide), gI_q (by decide)]; exact (a4 k hk).2.1
        · show _ = (if k = shN h then nI c else h.2.2.2.2.2.2.1 k)
          rw [gI_q (by decide)]
          by_cases ck : k = shN h
          · rw [if_pos ck, ck, gI_s]
          · rw [if_neg ck, gI_k ck, t3 18 _ (by decide), gI_q (by decide), t2 18 _ (by decide), gI_q (by decide)]; exact (a4 k hk).2.2
        · rw [gI_q (by decide), gI_q (by decide), t3 19 _ (by decide), gI_q (by decide), t2 19 _ (by decide), gI_q (by decide)]; exact a5 k v hk hv
theorem r_tSun {D : Dt} {T : Tp} {p : Nat} {h : Shp} (hT : okT T) (hp : p ≤ tpL T) (hr : RP D T p 0) (hs : ShM D h) : tcR T (match pNum T (sbk T p) 0 (shN h) with
    | .inl f => .inl f
    | .inr (q1, a) => match pNum T q1 0 61 with
      | .inl f => .inl f
      | .inr (q2, b) => .inr (hSun h a b, q2)) D (F_X11_tablePart 2 D) := by
  have hL := hT.1
  have hn := hs.2.2.1.1
  have n1 := r_amount (lo := 0) (h1 := shN h) hT hp (by decide) (by omega) hr
  unfold tcR
  rw [F_X11_tablePart, if_neg (by decide), if_neg (by decide), hs.2.2.1.2]
  cases e1 : pNum T (sbk T p) 0 (shN h) with
  | inl f =>
    rw [e1] at n1
    obtain ⟨v, D1, p1, e, r1, l1, m1⟩ := n1
    obtain ⟨f1, f2⟩ := pNum_f (sbk_le hp) e1
    have hf : ¬ nI f = 0 := nI_ne0 (by omega) (by omega)
    obtain ⟨D2, e2, r2, m2⟩ := r_amount_f (a := 0) (b := 60) hT (by omega) hf r1
    simp only
    rw [show F_X11_amount 0 (nI (shN h) - 1) D = _ from e, cbd_s, e2, cbd_s, r2.2.2, if_neg hf]
    exact ⟨D2, sbk T p1, rfl, r2, sbk_le l1, (p21_rm m1).trans (p21_rm m2)⟩
  | inr w =>
    obtain ⟨q1, a⟩ := w
    obtain ⟨x1, x2, _⟩ := pNum_v e1
    have hq1 := pNum_q (sbk_le hp) e1
    rw [e1] at n1
    obtain ⟨D1, p1, e, r1, b1, l1, m1⟩ := n1
    simp only
    rw [show F_X11_amount 0 (nI (shN h) - 1) D = _ from e, cbd_s]
    have n2 := r_amount (D := D1) (p := p1) (lo := 0) (h1 := 61) hT l1 (by decide) (by decide) r1
    rw [b1] at n2
    cases e2 : pNum T q1 0 61 with
    | inl f =>
      obtain ⟨f1, f2⟩ := pNum_f hq1 e2
      rw [e2] at n2
      obtain ⟨v, D2, p2, e', r2, l2, m2⟩ := n2
      simp only
      rw [show F_X11_amount 0 60 _ = _ from e', cbd_s, r2.2.2, if_neg (nI_ne0 (by omega) (by omega))]
      exact ⟨D2, p2, rfl, r2, l2, (p21_rm m1).trans (p21_rm m2)⟩
    | inr w2 =>
      obtain ⟨q2, b⟩ := w2
      obtain ⟨y1, y2, _⟩ := pNum_v e2
      rw [e2] at n2
      obtain ⟨D2, p2, e', r2, b2, l2, m2⟩ := n2
      obtain ⟨a1, a2, a3, a4, a5⟩ := (hs.p m1).p m2
      simp only
      rw [show F_X11_amount 0 60 _ = _ from e', cbd_s, r2.2.2, if_pos rfl, show (61 : Int32) = nI 61 from rfl, pk_mul, nI_add, grd_t (inBe (show 61 * a + b < 305 by omega) (by decide)), nIc (by omega), a5 a b (by omega) y2, bnd_e]
      refine ⟨_, p2, rfl, r2.w (by decide) (by decide), b2, l2, ⟨?_, ?_, ⟨a3.1, ?_⟩, fun k hk => ?_, fun k v hk hv => ?_⟩, ((p21_rm m1).trans (p21_rm m2)).trans (Sm.sI (by simp [rmT]))⟩
      · rw [gI_q (by decide)]; exact a1
      · rw [gI_q (by decide)]; exact a2
      · rw [gI_q (by decide)]; exact a3.2
      · rw [gI_q (by decide), gI_q (by decide), gI_q (by decide)]; exact a4 k hk
      · show _ = (if k = a ∧ v = b then shTl h k v + 1 else shTl h k v)
        by_cases ck : k = a ∧ v = b
        · rw [if_pos ck, ck.1, ck.2, gI_s]
        · rw [if_neg ck, gI_k (by omega)]; exact a5 k v hk hv
