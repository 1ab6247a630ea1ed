theorem sgn_eq {T : Tp} {q c : Nat} (hT : okT T) (hc : c < 256) : ((if q < tpL T then nI (tpB T q) else -1) = nI c) = (q < tpL T ∧ tpB T q = c) := by
  have hb := hT.2 q
  by_cases h : q < tpL T
  · rw [if_pos h]
    exact propext ⟨fun e => ⟨h, (nI_eq (by show tpB T q < _; have : tpB T q < 256 := hb; omega) (by omega)).mp e⟩, fun e => by rw [e.2]⟩
  · rw [if_neg h]
    refine propext ⟨fun e => ?_, fun e => absurd e.1 h⟩
    exfalso
    have h2 := congrArg Int32.toInt e
    rw [nI_toInt (by omega), show (-1 : Int32).toInt = -1 from rfl] at h2
    omega
theorem cmp_60 {T : Tp} {q b : Nat} (h : q < tpL T) (hb : tpB T q = b) (hb2 : b = 60 ∨ b = 62) : (q + 1 < tpL T ∧ tpB T (q + 1) = 61 → kd T q = (if b = 60 then 15 else 16) ∧ nx T q = q + 2) ∧ (¬ (q + 1 < tpL T ∧ tpB T (q + 1) = 61) → kd T q = (if b = 60 then 12 else 14) ∧ nx T q = q + 1) := by
  have hk : sgK b = (if b = 60 then 12 else 14) := by rcases hb2 with rfl | rfl <;> decide
  have hd : ¬ isDg b = true := by rcases hb2 with rfl | rfl <;> decide
  have hl : ¬ isLr b = true := by rcases hb2 with rfl | rfl <;> decide
  unfold kd nx
  have hn : ¬ tpL T ≤ q := by omega
  simp only [hb, if_neg hn, if_neg hd, if_neg hl]
  have hdb : dbl T q = decide (q + 1 < tpL T ∧ tpB T (q + 1) = 61) := by
    unfold dbl
    rw [hb, hk]
    rcases hb2 with rfl | rfl <;> simp
  rw [hdb]
  refine ⟨fun x => ?_, fun x => ?_⟩
  · rw [decide_eq_true x, if_pos rfl, if_pos rfl, hk]
    rcases hb2 with rfl | rfl <;> exact ⟨rfl, rfl⟩
  · rw [decide_eq_false x, if_neg (show ¬ false = true by decide), if_neg (show ¬ false = true by decide), hk]
    exact ⟨rfl, rfl⟩
theorem cmp_61 {T : Tp} {q : Nat} (h : q < tpL T) (hb : tpB T q = 61) : kd T q = 13 ∧ nx T q = q + 1 := by
  have hdb : ¬ dbl T q = true := by
    unfold dbl
    rw [hb, decide_eq_true_eq]
    rintro ⟨_, _, x | x⟩
    · exact absurd x (by decide)
    · exact absurd x (by decide)
  unfold kd nx
  have hn : ¬ tpL T ≤ q := by omega
  have hd : ¬ isDg 61 = true := by decide
  have hl : ¬ isLr 61 = true := by decide
  simp only [hb, if_neg hn, if_neg hd, if_neg hl, if_neg hdb]
  exact ⟨by decide, trivial⟩
theorem sgK_cmp : ∀ b, b < 256 → 12 ≤ sgK b → b = 60 ∨ b = 61 ∨ b = 62 := by decide +kernel
theorem cmpN {T : Tp} {q : Nat} (hT : okT T) (h : 12 ≤ kd T q ∧ kd T q ≤ 16) : q < tpL T ∧ (tpB T q = 60 ∨ tpB T q = 61 ∨ tpB T q = 62) := by
  have hlt := kd_lt (T := T) (q := q) (by omega)
  have hb : tpB T q < 256 := hT.2 q
  have hw := wc_b (T := T) (p := q)
  refine ⟨hlt, sgK_cmp _ hb ?_⟩
  unfold kd at h
  rw [if_neg (by omega)] at h
  split at h
  · split at h <;> omega
  · split at h
    · omega
    · split at h
      · rename_i hd
        unfold dbl at hd
        rw [decide_eq_true_eq] at hd
        omega
      · omega
theorem cmp_cm : cm (nI 12) = 4 ∧ cm (nI 13) = 6 ∧ cm (nI 14) = 8 ∧ cm (nI 15) = 5 ∧ cm (nI 16) = 7 := by decide
theorem b90_e {l1 l2 s1 s2 x : Int32} {D : Dt} (hx : ∀ E, (if l1 = (61 : Int32) then (F_X11_compared_b139 (6 : Int32) E) else (if l1 = (60 : Int32) then (if l2 = 0 then (F_X11_compared_b139 (4 : Int32) E) else (F_X11_compared_b139 (5 : Int32) E)) else (if l2 = 0 then (F_X11_compared_b139 (8 : Int32) E) else (F_X11_compared_b139 (7 : Int32) E)))) = F_X11_compared_b139 x E) : F_X11_compared_b90 l1 l2 s1 s2 D = vbd (F_X11_sum (setI D (11, 0, 0, 0) 20 (s1 + s2))) (fun D14 => F_X11_compared_b139 x D14) := by
  rw [F_X11_compared_b90, bnd_e]
  congr 1
  funext E
  exact hx E
/-- behind the first sign of a comparison -/
theorem cmp_run {T : Tp} {s q c n : Nat} {g : Int32} {D : Dt} (hT : okT T) (hq : q ≤ 1000) (hk : 12 ≤ kd T q ∧ kd T q ≤ 16) (h : RSt D T s (q + 1) g c n) : ∃ D2, RSt D2 T s (nx T q) g c n ∧ Sm p21 D D2 ∧ (if nI (tpB T q) = (61 : Int32) then (F_X11_compared_b74 (nI (tpB T q)) D) else (cbd (F_X11_sign D) (fun r22 D23 => (if r22 = (61 : Int32) then (F_X11_compared_b75 (nI (tpB T q)) (1 : Int32) D23) else (F_X11_compared_b74 (nI (tpB T q)) D23))))) = vbd (F_X11_sum D2) (fun D14 => F_X11_compared_b139 (cm (nI (kd T q))) D14) := by
  obtain ⟨hlt, hb⟩ := cmpN hT hk
  obtain ⟨x12, x13, x14, x15, x16⟩ := cmp_cm
  have sg := r_sgn hT (by omega) h.1
  have n1 : ((if q + 1 < tpL T then nI (tpB T (q + 1)) else -1) = (61 : Int32)) = (q + 1 < tpL T ∧ tpB T (q + 1) = 61) := sgn_eq (c := 61) hT (by decide)
  rcases hb with hb | hb | hb
  · obtain ⟨y1, y2⟩ := cmp_60 hlt hb (Or.inl rfl)
    rw [hb, if_neg (by decide), sg, cbd_s]
    simp only [n1]
    by_cases d : q + 1 < tpL T ∧ tpB T (q + 1) = 61
    · obtain ⟨z1, z2⟩ := y1 d
      obtain ⟨h2, m2⟩ := h.s20 (p' := q + 2)
      rw [z2]
      refine ⟨_, h2, m2, ?_⟩
      rw [if_pos d, F_X11_compared_b75, if_neg (by decide), b90_e (x := 5) (fun E => by rw [if_neg (by decide), if_pos (by decide), if_neg (by decide)]), h.1.2.1, nI_1, z1, if_pos rfl, x15]
    · obtain ⟨z1, z2⟩ := y2 d
      obtain ⟨h2, m2⟩ := h.s20 (p' := q + 1)
      rw [z2]
      refine ⟨_, h2, m2, ?_⟩
      rw [if_neg d, F_X11_compared_b74, F_X11_compared_b75, if_pos rfl, b90_e (x := 4) (fun E => by rw [if_neg (by decide), if_pos (by decide), if_pos rfl]), h.1.2.1, show nI (q + 1) + 0 = nI (q + 1) from nI_add _ 0, z1, if_pos rfl, x12]
  · obtain ⟨z1, z2⟩ := cmp_61 hlt hb
    obtain ⟨h2, m2⟩ := h.s20 (p' := q + 1)
    rw [z2, hb]
    refine ⟨_, h2, m2, ?_⟩
    rw [if_pos (by decide), F_X11_compared_b74, F_X11_compared_b75, if_pos rfl, b90_e (x := 6) (fun E => by rw [if_pos (by decide)]), h.1.2.1, show nI (q + 1) + 0 = nI (q + 1) from nI_add _ 0, z1, x13]
  · obtain ⟨y1, y2⟩ := cmp_60 hlt hb (Or.inr rfl)
    rw [hb, if_neg (by decide), sg, cbd_s]
    simp only [n1]
    by_cases d : q + 1 < tpL T ∧ tpB T (q + 1) = 61
    · obtain ⟨z1, z2⟩ := y1 d
      obtain ⟨h2, m2⟩ := h.s20 (p' := q + 2)
      rw [z2]
      refine ⟨_, h2, m2, ?_⟩
      rw [if_pos d, F_X11_compared_b75, if_neg (by decide), b90_e (x := 7) (fun E => by rw [if_neg (by decide), if_neg (by decide), if_neg (by decide)]), h.1.2.1, nI_1, z1, if_neg (by decide), x16]
    · obtain ⟨z1, z2⟩ := y2 d
      obtain ⟨h2, m2⟩ := h.s20 (p' := q + 1)
      rw [z2]
      refine ⟨_, h2, m2, ?_⟩
      rw [if_neg d, F_X11_compared_b74, F_X11_compared_b75, if_pos rfl, b90_e (x := 8) (fun E => by rw [if_neg (by decide), if_neg (by decide), if_pos rfl]), h.1.2.1, show nI (q + 1) + 0 = nI (q + 1) from nI_add _ 0, z1, if_neg (by decide), x14]
def RrD (T : Tp) (s n : Nat) (D : Dt) (x : PR) (ex : Bool) (res : Option Dt) : Prop := match x with
  | .inl f => ∃ D' p, res = some D' ∧ RP D' T p (nI f) ∧ p ≤ 2000 ∧ 0 < f ∧ f < 100000 ∧ Sm (rrS (300 * s + n)) D D'
  | .inr (q, c, l) => ∃ D', res = some D' ∧ RrO T s n D q c l ex D'
theorem RrC.d {T : Tp} {s n : Nat} {D : Dt} {x : PR} {ex : Bool} {res : Option Dt} (hT : okT T) (h : RrC T s n D x ex res) : RrD T s n D x ex res := by
  have hL := hT.1
  cases x with
  | inl f =>
    obtain ⟨D', p, c', n', a1, a2, a3, a4, a5, a6, a7⟩ := h
    exact ⟨D', p, a1, a2.1, by omega, a5, a6, a7⟩
  | inr y => exact h
theorem RrD.seq {T : Tp} {s n q1 c1 : Nat} {D D1 : Dt} {l1 : List En} {x1 x2 : Bool} {f : Nat → Nat → PR} {res : Option Dt} (h : RrO T s n D q1 c1 l1 x1 D1) (g : RrD T s (n + l1.length) D1 (f q1 c1) x2 res) : RrD T s n D (pB (.inr (q1, c1, l1)) f) x2 res := by
  unfold pB
  simp only
  unfold RrD at g ⊢
  cases e : f q1 c1 with
  | inl e' =>
    rw [e] at g
    obtain ⟨D', p, a1, a2, a3, a5, a6, a7⟩ := g
    obtain ⟨_, _, _, _, _, _, b6⟩ := h
    exact ⟨D', p, a1, a2, a3, a5, a6, b6.trans (rr_w (by omega) a7)⟩
  | inr y =>
    obtain ⟨q2, c2, l2⟩ := y
    rw [e] at g
    obtain ⟨D', a, b⟩ := g
    exact ⟨D', a, h.seq b⟩
theorem RrD.to {T : Tp} {s n : Nat} {D : Dt} {x y : PR} {ex : Bool} {res : Option Dt} (h : RrD T s n D x ex res) (e : x = y) : RrD T s n D y ex res := by rw [← e]; exact h
theorem RrD.pre {T : Tp} {s n : Nat} {D D0 : Dt} {x : PR} {ex : Bool} {res : Option Dt} (h : RrD T s n D0 x ex res) (m : Sm (rrS (300 * s + n)) D D0) : RrD T s n D x ex res := by
  cases x with
  | inl f =>
    obtain ⟨D', p, a1, a2, a3, a5, a6, a7⟩ := h
    exact ⟨D', p, a1, a2, a3, a5, a6, m.trans a7⟩
  | inr y =>
    obtain ⟨q, c, l⟩ := y
    obtain ⟨D', a, p, b1, b2, b3, b4, b5, b6⟩ := h
    exact ⟨D', a, p, b1, b2, b3, b4, b5, m.trans b6⟩
/-- the sign of a comparison -/
theorem cmp_sg {T : Tp} {q : Nat} {α : Type} {X Y : α} (hT : okT T) : (if (if q < tpL T then nI (tpB T q) else -1) = (60 : Int32) then X else if (if q < tpL T then nI (tpB T q) else -1) = (61 : Int32) then X else if (if q < tpL T then nI (tpB T q) else -1) = (62 : Int32) then X else Y) = if 12 ≤ kd T q ∧ kd T q ≤ 16 then X else Y := by
  have n0 : ((if q < tpL T then nI (tpB T q) else -1) = (60 : Int32)) = (q < tpL T ∧ tpB T q = 60) := sgn_eq (c := 60) hT (by decide)
  have n1 : ((if q < tpL T then nI (tpB T q) else -1) = (61 : Int32)) = (q < tpL T ∧ tpB T q = 61) := sgn_eq (c := 61) hT (by decide)
  have n2 : ((if q < tpL T then nI (tpB T q) else -1) = (62 : Int32)) = (q < tpL T ∧ tpB T q = 62) := sgn_eq (c := 62) hT (by decide)
  simp only [n0, n1, n2]
  by_cases a0 : q < tpL T ∧ tpB T q = 60
  · obtain ⟨y1, y2⟩ := cmp_60 a0.1 a0.2 (Or.inl rfl)
    have : 12 ≤ kd T q ∧ kd T q ≤ 16 := by
      by_cases d : q + 1 < tpL T ∧ tpB T (q + 1) = 61
      · rw [(y1 d).1]; decide
      · rw [(y2 d).1]; decide
    rw [if_pos a0, if_pos this]
  · rw [if_neg a0]
    by_cases a1 : q < tpL T ∧ tpB T q = 61
    · rw [if_pos a1, if_pos (by rw [(cmp_61 a1.1 a1.2).1]; decide)]
    · rw [if_neg a1]
      by_cases a2 : q < tpL T ∧ tpB T q = 62
      · obtain ⟨y1, y2⟩ := cmp_60 a2.1 a2.2 (Or.inr rfl)
        have : 12 ≤ kd T q ∧ kd T q ≤ 16 := by
          by_cases d : q + 1 < tpL T ∧ tpB T (q + 1) = 61
          · rw [(y1 d).1]; decide
          · rw [(y2 d).1]; decide
        rw [if_pos a2, if_pos this]
      · rw [if_neg a2, if_neg (fun x => by
          obtain ⟨z1, z2 | z2 | z2⟩ := cmpN hT x
          · exact a0 ⟨z1, z2⟩
          · exact a1 ⟨z1, z2⟩
          · exact a2 ⟨z1, z2⟩)]
theorem r_cmp {T : Tp} {s p c n : Nat} {D : Dt} (hT : okT T) (hs : s < 6) (hp : p ≤ tpL T) (hc : c ≤ 60) (hb : 3 * n ≤ 6 * c + sbk T p) (h : RSt D T s p 0 c n) : RrD T s n D (pCmp T (sbk T p) c) true (F_X11_compared D) := by
  have hL := hT.1
  have hq := sbk_le hp
  have hv := r_sum hT hs hp hc hb h
  rw [F_X11_compared]
  unfold pCmp
  -- at fault
  have flt : ∀ (b : Nat) (E : Dt) (q2 c2 n2 : Nat) (g : Nat), RSt E T s q2 (nI g) c2 n2 → q2 ≤ 500 → c2 ≤ 100 → 0 < g → g < 100000 → 12 ≤ kd T q2 ∧ kd T q2 ≤ 16 → ∃ D' p, (if nI (tpB T q2) = (61 : Int32) then (F_X11_compared_b74 (nI (tpB T q2)) (setI E (11, 0, 0, 0) 20 (nI (q2 + 1)))) else (cbd (F_X11_sign (setI E (11, 0, 0, 0) 20 (nI (q2 + 1)))) (fun r22 D23 => (if r22 = (61 : Int32) then (F_X11_compared_b75 (nI (tpB T q2)) (1 : Int32) D23) else (F_X11_compared_b74 (nI (tpB T q2)) D23))))) = some D' ∧ RP D' T p (nI g) ∧ p ≤ 2000 ∧ Sm (rrS b) E D' := by
    intro b E q2 c2 n2 g hE h2 h3 hg1 hg2 hk
    have hne : ¬ nI g = 0 := nI_ne0 (by omega) (by omega)
    obtain ⟨r1, m1⟩ := hE.s20 (p' := q2 + 1)
    obtain ⟨D2, r2, m2, e2⟩ := cmp_run hT (by omega) hk r1
    have hnx : nx T q2 ≤ 900 := by
      have := nx_gt (T := T) (p := q2) (kd_lt (by omega))
      omega
    obtain ⟨D3, p3, c3, e3, r3, a1, a2, m3⟩ := r_sum_f (b := b) hT hne hnx (by omega) r2
    rw [e2, e3, vbd_s, F_X11_compared_b139, r_entry_f hne r3, vbd_s]
    exact ⟨D3, p3, rfl, r3.1, by omega, ((p21_rr m1).trans (p21_rr m2)).trans m3⟩
  cases ev : pSum T (sbk T p) c with
  | inl f =>
    rw [ev] at hv
    obtain ⟨D2, p2, c2, n2, e2, r2, a1, a2, a3, a4, m2⟩ := hv
    have hne : ¬ nI f = 0 := nI_ne0 (by omega) (by omega)
    rw [e2, vbd_s, r_sgn hT (by omega) r2.1, cbd_s, cmp_sg hT]
    by_cases hk : 12 ≤ kd T p2 ∧ kd T p2 ≤ 16
    · obtain ⟨D3, e3, r3, m3⟩ := r_counted (x := p2) (b := 300 * s + n) (by omega) r2
      rw [ft_n hne, ite_self] at r3
      obtain ⟨D4, p4, e4, r4, b1, m4⟩ := flt (300 * s + n) D3 p2 (c2 + 1) n2 f r3 (by omega) (by omega) a3 a4 hk
      rw [if_pos hk, F_X11_compared_b37, r2.1.2.1, e3, vbd_s, r3.1.2.1, nI_1, bnd_e, if_pos (kd_lt (T := T) (q := p2) (by omega)), e4]
      exact ⟨D4, p4, rfl, r4, b1, a3, a4, (m2.trans m3).trans m4⟩
    · obtain ⟨D3, e3, r3, m3⟩ := r_fails (x := p2) (c := 0) r2.1
      rw [ft_n hne] at r3
      rw [if_neg hk, r2.1.2.1, show F_X11_fails 0 (nI p2) D2 = _ from e3, vbd_s]
      exact ⟨D3, p2, rfl, r3, by omega, a3, a4, m2.trans (p21_rr (m21 m3))⟩
  | inr y =>
    obtain ⟨q1, c1, l1⟩ := y
    obtain ⟨v1, v2, v3, v4, v5⟩ := slen hL hq hc ev
    rw [ev] at hv
    obtain ⟨D2, e2, r2⟩ := hv
    obtain ⟨p4, d1, d2, d3, d4, d5, d6⟩ := r2
    have hp4 := d4 rfl
    subst hp4
    rw [e2, vbd_s, r_sgn hT (by omega) d1.1, cbd_s, cmp_sg hT]
    refine RrD.seq ⟨p4, d1, d2, d3, d4, d5, d6⟩ ?_
    by_cases hk : 12 ≤ kd T p4 ∧ kd T p4 ≤ 16
    · have hlt := kd_lt (T := T) (q := p4) (by omega)
      obtain ⟨g1, g2⟩ := nq_gt hlt
      obtain ⟨D3, e3, r3, m3⟩ := r_counted (x := p4) (b := 300 * s + (n + l1.length)) (by omega) d1
      rw [if_pos hk, if_pos hk, F_X11_compared_b37, d1.1.2.1, e3, vbd_s, r3.1.2.1, nI_1, bnd_e, if_pos hlt]
      by_cases c60 : 60 ≤ c1
      · rw [if_pos (show c1 = 60 by omega), ft_0] at r3
        obtain ⟨D4, p5, e4, r4, b1, m4⟩ := flt (300 * s + (n + l1.length)) D3 p4 (c1 + 1) (n + l1.length) (1 + 8 * p4 + 3) r3 (by omega) (by omega) (by omega) (by omega) hk
        rw [if_pos c60, e4]
        exact ⟨D4, p5, rfl, r4, b1, by omega, by omega, m3.trans m4⟩
      · rw [if_neg (show ¬ c1 = 60 by omega)] at r3
        obtain ⟨r4, m4⟩ := r3.s20 (p' := p4 + 1)
        obtain ⟨D5, r5, m5, e5⟩ := cmp_run hT (by omega) hk r4
        rw [if_neg c60, e5]
        refine RrD.pre ?_ ((m3.trans (p21_rr m4)).trans (p21_rr m5))
        have hs2 := r_sum hT hs (nx_le v2) (show c1 + 1 ≤ 60 by omega) (n := n + l1.length) (by show 3 * (n + l1.length) ≤ 6 * (c1 + 1) + nq T p4; omega) r5
        rw [show sbk T (nx T p4) = nq T p4 from rfl] at hs2
        cases ev2 : pSum T (nq T p4) (c1 + 1) with
        | inl f =>
          rw [ev2] at hs2
          obtain ⟨D6, p6, c6, n6, e6, r6, b1, b2, b3, b4, m6⟩ := hs2
          have hne : ¬ nI f = 0 := nI_ne0 (by omega) (by omega)
          rw [e6, vbd_s, F_X11_compared_b139, r_entry_f hne r6, vbd_s]
          exact ⟨D6, p6, rfl, r6.1, by omega, b3, b4, m6⟩
        | inr y2 =>
          obtain ⟨q2, c2, l2⟩ := y2
          obtain ⟨w1, w2, w3, w4, w5⟩ := slen hL g2 (show c1 + 1 ≤ 60 by omega) ev2
          rw [ev2] at hs2
          obtain ⟨D6, e6, r6⟩ := hs2
          obtain ⟨p6, f1, f2, f3, f4, f5, f6⟩ := r6
          obtain ⟨D7, e7, r7⟩ := r_ent (a0 := nI (kd T p4)) (a := cm (nI (kd T p4))) (b := 0) (q := q2) (ex := true) hs (show n + l1.length + l2.length < 300 by omega) f1 rfl f2 f3 f4
          rw [e6, vbd_s, F_X11_compared_b139, e7, vbd_s]
          exact RrD.seq ⟨p6, f1, f2, f3, f4, f5, f6⟩ ⟨D7, rfl, r7⟩
    · obtain ⟨D3, e3, r3, m3⟩ := r_fails (x := p4) (c := 0) d1.1
      rw [ft_0] at r3
      rw [if_neg hk, if_neg hk, d1.1.2.1, show F_X11_fails 0 (nI p4) D2 = _ from e3, vbd_s]
      exact ⟨D3, p4, rfl, r3, by omega, by omega, by omega, p21_rr (m21 m3)⟩
