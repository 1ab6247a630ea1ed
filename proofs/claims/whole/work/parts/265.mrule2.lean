theorem ft_0 {g : Int32} : ft 0 g = g := by unfold ft; rw [if_pos rfl]
theorem ft_n {f g : Int32} (h : ¬ f = 0) : ft f g = f := by unfold ft; rw [if_neg h]
theorem nx_dg {T : Tp} {q : Nat} (h : kd T q = 1 ∨ kd T q = 2) : nx T q = eDg T q := by
  have hd := dg_p.mpr h
  unfold nx
  rw [if_neg (by omega), if_pos hd.2]
theorem RrO.blk {T : Tp} {s n q c : Nat} {D D1 : Dt} {l : List En} {ex : Bool} (hT : okT T) (h : RrO T s n D q c l ex D1) : ∃ D2, F_X11_blanks D1 = some D2 ∧ RrO T s n D q c l true D2 := by
  obtain ⟨p, a1, a2, a3, a4, a5, a6⟩ := h
  have hL := hT.1
  obtain ⟨D2, e, r, m⟩ := r_blk hT (by omega) a1.1
  have m' := p20_21 m
  rw [a2] at r
  refine ⟨D2, e, q, a1.p r m', ?_, by rw [← a2]; exact sbk_le a3, fun _ => rfl, fun i hi => ?_, a6.trans (p21_rr m')⟩
  · rw [← a2]; exact spE_idem
  · rw [p21_15 m' 31 _ (by decide), p21_15 m' 32 _ (by decide)]
    exact a5 i hi
theorem r_val {T : Tp} {s p c n : Nat} {D : Dt} (hT : okT T) (hs : s < 6) (hp : p ≤ tpL T) (hc : c ≤ 60) (hn : n < 300) (h : RSt D T s p 0 c n) : RrC T s n D (pVal T (sbk T p) c) false (F_X11_value D) := by
  have hL := hT.1
  obtain ⟨D1, e1, r1, m1⟩ := r_blk hT (by omega) h.1
  have h1 := h.p r1 (p20_21 m1)
  have m1' : Sm (rrS (300 * s + n)) D D1 := p21_rr (p20_21 m1)
  have hq := sbk_le hp
  rw [F_X11_value, e1, vbd_s, bnd_e]
  generalize sbk T p = q at r1 h1 hq ⊢
  rw [r_isDg hT (by omega) h1.1, cbd_s, h1.1.2.1]
  unfold pVal
  by_cases dg : kd T q = 1 ∨ kd T q = 2
  · rw [i1t (dg_p.mpr dg)]
    obtain ⟨D2, e2, r2, m2⟩ := r_digits hT (by omega) h1.1
    rw [e2, cbd_s]
    rw [if_pos dg] at r2
    have h2 := h1.p r2 m2
    obtain ⟨D3, e3, r3, m3⟩ := r_counted (x := q) (b := 300 * s + n) (by omega) h2
    have hle : eDg T q ≤ tpL T := spE_le hq
    have m13 := (m1'.trans (p21_rr m2)).trans m3
    rw [e3, vbd_s]
    by_cases c2 : kd T q = 2
    · have c1 : ¬ kd T q = 1 := by omega
      have hne : ¬ nI (1 + 8 * q + 1) = 0 := nI_ne0 (by omega) (by omega)
      rw [if_neg c1, if_pos c2, ft_0, ft_n hne, ite_self] at r3
      rw [if_pos c2, r_entry_f hne r3, vbd_s]
      exact ⟨D3, eDg T q, c + 1, n, rfl, r3, by omega, by omega, by omega, by omega, m13⟩
    · have c1 : kd T q = 1 := by omega
      rw [if_pos c1] at r3
      rw [if_neg c2, if_pos (Or.inl c1)]
      by_cases c60 : 60 ≤ c
      · have hne : ¬ nI (1 + 8 * q + 3) = 0 := nI_ne0 (by omega) (by omega)
        rw [if_pos (show c = 60 by omega), ft_0] at r3
        rw [if_pos c60, r_entry_f hne r3, vbd_s]
        exact ⟨D3, eDg T q, c + 1, n, rfl, r3, by omega, by omega, by omega, by omega, m13⟩
      · rw [if_neg (show ¬ c = 60 by omega)] at r3
        obtain ⟨D4, e4, r4⟩ := r_ent (a0 := 1) (a := 0) (b := nI (nm T q)) (q := nq T q) (ex := false) hs hn r3 (by decide) (by rw [← nx_dg dg]; rfl) hle (fun x => by cases x)
        rw [if_neg c60, if_pos c1, if_pos c1, e4, vbd_s]
        exact RrC.pre (x := .inr (nq T q, c + 1, [(1, nI (nm T q))])) ⟨D4, rfl, r4⟩ m13
  · have c1 : ¬ kd T q = 1 := fun x => dg (Or.inl x)
    have c2 : ¬ kd T q = 2 := fun x => dg (Or.inr x)
    rw [i1f (fun x => dg (dg_p.mp x)), show F_X11_value_b37 _ 2000 (nI q) 0 D1 = _ from r_vWord hT (by omega) h1.1 h1.2.2.2.2 12 2000 0 (by omega) (by omega) (fun i hi => absurd hi (Nat.not_lt_zero i)), h1.2.2.2.2, if_neg c2]
    by_cases cw : 20 ≤ kd T q ∧ kd T q < 32
    · obtain ⟨k, hk⟩ : ∃ k, kd T q = 20 + k := ⟨kd T q - 20, by omega⟩
      have hw : wdX T q = k := by unfold wdX; rw [if_pos cw]; omega
      have hlt := kd_lt (T := T) (q := q) (by omega)
      have hnx := kd_nx (by omega) hk
      have hnb := nx_le hq
      obtain ⟨D3, e3, r3, m3⟩ := r_counted (x := q) (b := 300 * s + n) (by omega) h1
      rw [hw, if_neg (show ¬ nI k = (12 : Int32) from fun e => by have := (nI_eq (b := 12) (by omega) (by decide)).mp e; omega), e3, vbd_s, r_wordOf (by omega), cbd_s, grd_t (sx_b k (by omega)).1, r3.1.2.1, show sLen (sx k) = nI (lnS (sx k)) from rfl, nI_add, bnd_e, if_pos (Or.inr cw), ← hnx]
      obtain ⟨r4, m4⟩ := r3.s20 (p' := nx T q)
      generalize setI D3 (11, 0, 0, 0) 20 (nI (nx T q)) = D4 at r4 m4 ⊢
      have m14 := (m1'.trans m3).trans (p21_rr m4)
      by_cases c60 : 60 ≤ c
      · have hne : ¬ nI (1 + 8 * q + 3) = 0 := nI_ne0 (by omega) (by omega)
        rw [if_pos (show c = 60 by omega), ft_0] at r4
        rw [if_pos c60, r_entry_f hne r4, vbd_s]
        exact ⟨D4, nx T q, c + 1, n, rfl, r4, by omega, by omega, by omega, by omega, m14⟩
      · rw [if_neg (show ¬ c = 60 by omega)] at r4
        obtain ⟨D5, e5, r5⟩ := r_ent (a0 := 20) (a := 1) (b := nI k) (q := nq T q) (ex := false) hs hn r4 (by decide) rfl hnb (fun x => by cases x)
        rw [if_neg c60, if_neg c1, show kd T q - 20 = k by omega, e5, vbd_s]
        exact RrC.pre (x := .inr (nq T q, c + 1, [(20, nI k)])) ⟨D5, rfl, r5⟩ m14
    · have hw : wdX T q = 12 := by unfold wdX; rw [if_neg cw]
      obtain ⟨D2, e2, r2, m2⟩ := r_fails (x := q) (c := 0) h1.1
      rw [ft_0] at r2
      rw [hw, if_pos (show nI 12 = (12 : Int32) from rfl), show F_X11_fails 0 (nI q) D1 = _ from e2, vbd_s, if_neg (fun x => x.elim c1 cw)]
      exact ⟨D2, q, c, n, rfl, h1.p r2 (m21 m2), by omega, by omega, by omega, by omega, m1'.trans (p21_rr (m21 m2))⟩
/-- at fault: the place goes on, nothing else -/
def FlC (T : Tp) (s b : Nat) (D : Dt) (p c k : Nat) (f : Int32) (n : Nat) (res : Option Dt) : Prop := ∃ D' p' c', res = some D' ∧ RSt D' T s p' f c' n ∧ p' ≤ max p (tpL T) + k ∧ c' ≤ c + k ∧ Sm (rrS b) D D'
theorem lnS_b : ∀ k, k < 18 → lnS (sx k) ≤ 10 := by decide +kernel
theorem sbk_m {T : Tp} {p : Nat} : sbk T p ≤ max p (tpL T) := by
  by_cases c : p ≤ tpL T
  · have := sbk_le c
    omega
  · have : sbk T p = p := spE_o (by omega)
    omega
theorem eDg_m {T : Tp} {p : Nat} : eDg T p ≤ max p (tpL T) := by
  by_cases c : p ≤ tpL T
  · have : eDg T p ≤ tpL T := spE_le c
    omega
  · have : eDg T p = p := spE_o (by omega)
    omega
theorem r_val_f {T : Tp} {s p c n b : Nat} {f : Int32} {D : Dt} (hT : okT T) (hf : ¬ f = 0) (hp : p ≤ 1000) (hc : c ≤ 200) (h : RSt D T s p f c n) : FlC T s b D p c 10 f n (F_X11_value D) := by
  have hL := hT.1
  obtain ⟨D1, e1, r1, m1⟩ := r_blk hT (by omega) h.1
  have h1 := h.p r1 (p20_21 m1)
  have m1' : Sm (rrS b) D D1 := p21_rr (p20_21 m1)
  have hq := sbk_m (T := T) (p := p)
  rw [F_X11_value, e1, vbd_s, bnd_e]
  generalize sbk T p = q at r1 h1 hq ⊢
  rw [r_isDg hT (by omega) h1.1, cbd_s, h1.1.2.1]
  by_cases dg : kd T q = 1 ∨ kd T q = 2
  · rw [i1t (dg_p.mpr dg)]
    obtain ⟨D2, e2, r2, m2⟩ := r_digits hT (by omega) h1.1
    rw [e2, cbd_s]
    rw [if_pos dg, ft_n hf, ft_n hf, ite_self, ite_self] at r2
    have h2 := h1.p r2 m2
    obtain ⟨D3, e3, r3, m3⟩ := r_counted (x := q) (b := b) (by omega) h2
    rw [ft_n hf, ite_self] at r3
    have hle := eDg_m (T := T) (p := q)
    rw [e3, vbd_s, r_entry_f hf r3, vbd_s]
    exact ⟨D3, eDg T q, c + 1, rfl, r3, by omega, by omega, (m1'.trans (p21_rr m2)).trans m3⟩
  · rw [i1f (fun x => dg (dg_p.mp x)), show F_X11_value_b37 _ 2000 (nI q) 0 D1 = _ from r_vWord hT (by omega) h1.1 h1.2.2.2.2 12 2000 0 (by omega) (by omega) (fun i hi => absurd hi (Nat.not_lt_zero i)), h1.2.2.2.2]
    by_cases cw : 20 ≤ kd T q ∧ kd T q < 32
    · obtain ⟨k, hk⟩ : ∃ k, kd T q = 20 + k := ⟨kd T q - 20, by omega⟩
      have hw : wdX T q = k := by unfold wdX; rw [if_pos cw]; omega
      have hlb := lnS_b k (by omega)
      obtain ⟨D3, e3, r3, m3⟩ := r_counted (x := q) (b := b) (by omega) h1
      rw [ft_n hf, ite_self] at r3
      rw [hw, if_neg (show ¬ nI k = (12 : Int32) from fun e => by have := (nI_eq (b := 12) (by omega) (by decide)).mp e; omega), e3, vbd_s, r_wordOf (by omega), cbd_s, grd_t (sx_b k (by omega)).1, r3.1.2.1, show sLen (sx k) = nI (lnS (sx k)) from rfl, nI_add, bnd_e]
      obtain ⟨r4, m4⟩ := r3.s20 (p' := q + lnS (sx k))
      rw [r_entry_f hf r4, vbd_s]
      exact ⟨_, q + lnS (sx k), c + 1, rfl, r4, by omega, by omega, (m1'.trans m3).trans (p21_rr m4)⟩
    · have hw : wdX T q = 12 := by unfold wdX; rw [if_neg cw]
      obtain ⟨D2, e2, r2, m2⟩ := r_fails (x := q) (c := 0) h1.1
      rw [ft_n hf] at r2
      rw [hw, if_pos (show nI 12 = (12 : Int32) from rfl), show F_X11_fails 0 (nI q) D1 = _ from e2, vbd_s]
      exact ⟨D2, q, c, rfl, h1.p r2 (m21 m2), by omega, by omega, m1'.trans (p21_rr (m21 m2))⟩
theorem r_b8_f {T : Tp} {s p c n fu : Nat} {f : Int32} {D : Dt} (hf : ¬ f = 0) (h : RSt D T s p f c n) : F_X11_term_b8 (fu + 1) D = some D := by
  rw [F_X11_term_b8, h.1.2.2, if_neg hf]
theorem r_b4_f {T : Tp} {s p c n fu : Nat} {f : Int32} {D : Dt} (hf : ¬ f = 0) (h : RSt D T s p f c n) : F_X11_sum_b4 (fu + 1) D = some D := by
  rw [F_X11_sum_b4, h.1.2.2, if_neg hf]
theorem r_sum_f {T : Tp} {s p c n b : Nat} {f : Int32} {D : Dt} (hT : okT T) (hf : ¬ f = 0) (hp : p ≤ 900) (hc : c ≤ 200) (h : RSt D T s p f c n) : FlC T s b D p c 10 f n (F_X11_sum D) := by
  have hL := hT.1
  obtain ⟨D1, p1, c1, e1, r1, a1, a2, m1⟩ := r_val_f (b := b) hT hf (by omega) hc h
  obtain ⟨D2, e2, r2, m2⟩ := r_blk hT (by omega) r1.1
  have h2 := r1.p r2 (p20_21 m2)
  have := sbk_m (T := T) (p := p1)
  rw [F_X11_sum, F_X11_term, e1, vbd_s, e2, vbd_s, show (2000 : Nat) = 1999 + 1 from rfl, r_b8_f hf h2, vbd_s, r_b4_f hf h2]
  exact ⟨D2, sbk T p1, c1, rfl, h2, by omega, by omega, m1.trans (p21_rr (p20_21 m2))⟩
