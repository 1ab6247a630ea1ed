/-! ===== bounds stay ===== -/
theorem bw0 {m : Int} (h : 0 ≤ m) : bw 0 m := ⟨by decide, by simpa using h⟩
theorem bw_add {x y : Int32} {a b : Int} (hx : bw x a) (hy : bw y b) (ha : a ≤ 100000) (hb : b ≤ 100000) : (x + y).toInt = x.toInt + y.toInt := fb_addI (by have := hx.1; have := hy.1; omega) (by have := hx.2; have := hy.2; omega)
theorem bw_sub {x y : Int32} {a b : Int} (hx : bw x a) (hy : bw y b) (ha : a ≤ 100000) (hb : b ≤ 100000) : (x - y).toInt = x.toInt - y.toInt := fb_subI (by have := hx.1; have := hy.2; omega) (by have := hx.2; have := hy.1; omega)
theorem bw_min {x y m : Int32} {a b c : Int} (hx : bw x a) (hy : bw y b) (ha : a ≤ 100000) (hb : b ≤ 100000) (hm : m.toInt = c) (hc : 0 ≤ c) : bw (if x + y < m then x + y else m) c := by
  have e := bw_add hx hy ha hb
  have h1 := hx.1
  have h2 := hy.1
  by_cases h : x + y < m
  · rw [if_pos h]
    rw [fa_lt, e, hm] at h
    unfold bw
    rw [e]
    omega
  · rw [if_neg h]
    unfold bw
    rw [hm]
    omega
theorem bw_mn {x y : Int32} {a b : Int} (hx : bw x a) (hy : bw y b) : bw (if x < y then x else y) a ∧ bw (if x < y then x else y) b := by
  by_cases h : x < y
  · rw [if_pos h]
    rw [fa_lt] at h
    refine ⟨hx, hx.1, ?_⟩
    have := hy.2
    omega
  · rw [if_neg h]
    rw [fa_lt] at h
    refine ⟨⟨hy.1, ?_⟩, hy⟩
    have := hx.2
    omega
theorem Gd.u0 {n k : Nat} {s : St} {v : Int32} (h : Gd n s) (hk : k < n) (hv : bw v 999) : Gd n (up s 0 k v) := by
  obtain ⟨h1, h2, h3⟩ := h
  refine ⟨fun j => ?_, fun j hj => ?_, ?_⟩
  · by_cases e : j = k
    · subst e
      simp [up, hv, h1 j]
    · simp [up, e, h1 j]
  · have e : ¬ j = k := by omega
    simp [up, e, h2 j hj]
  · simpa [up] using h3
theorem Gd.u1 {n k : Nat} {s : St} {v : Int32} (h : Gd n s) (hk : k < n) (hv : bw v 99) : Gd n (up s 1 k v) := by
  obtain ⟨h1, h2, h3⟩ := h
  refine ⟨fun j => ?_, fun j hj => ?_, ?_⟩
  · by_cases e : j = k
    · subst e
      simp [up, hv, h1 j]
    · simp [up, e, h1 j]
  · have e : ¬ j = k := by omega
    simp [up, e, h2 j hj]
  · simpa [up] using h3
theorem Gd.u2 {n k : Nat} {s : St} {v : Int32} (h : Gd n s) (hk : k < n) (hv : bw v 99) : Gd n (up s 2 k v) := by
  obtain ⟨h1, h2, h3⟩ := h
  refine ⟨fun j => ?_, fun j hj => ?_, ?_⟩
  · by_cases e : j = k
    · subst e
      simp [up, hv, h1 j]
    · simp [up, e, h1 j]
  · have e : ¬ j = k := by omega
    simp [up, e, h2 j hj]
  · simpa [up] using h3
theorem Gd.u3 {n k : Nat} {s : St} {v : Int32} (h : Gd n s) (hk : k < n) (hv : bw v 9999) : Gd n (up s 3 k v) := by
  obtain ⟨h1, h2, h3⟩ := h
  refine ⟨fun j => ?_, fun j hj => ?_, ?_⟩
  · by_cases e : j = k
    · subst e
      simp [up, hv, h1 j]
    · simp [up, e, h1 j]
  · have e : ¬ j = k := by omega
    simp [up, e, h2 j hj]
  · simpa [up] using h3
theorem Gd.u4 {n k : Nat} {s : St} {v : Int32} (h : Gd n s) : Gd n (up s 4 k v) := by
  obtain ⟨h1, h2, h3⟩ := h
  refine ⟨fun j => ?_, fun j hj => ?_, ?_⟩
  · simpa [up] using h1 j
  · simpa [up] using h2 j hj
  · simpa [up] using h3
theorem Gd.u5 {n k : Nat} {s : St} {v : Int32} (h : Gd n s) (hk : k ≠ 0) : Gd n (up s 5 k v) := by
  obtain ⟨h1, h2, h3⟩ := h
  refine ⟨fun j => ?_, fun j hj => ?_, ?_⟩
  · simpa [up] using h1 j
  · simpa [up] using h2 j hj
  · simpa [up, hk, Ne.symm hk] using h3
theorem Gd.ur {n : Nat} {s : St} {v : Int32} (h : Gd n s) (hv : bw v 9) : Gd n (up s 5 0 v) := by
  obtain ⟨h1, h2, h3⟩ := h
  refine ⟨fun j => ?_, fun j hj => ?_, ?_⟩
  · simpa [up] using h1 j
  · simpa [up] using h2 j hj
  · simpa [up] using hv
theorem Gd.addS {n k : Nat} {s : St} {v : Int32} (h : Gd n s) (hk : k < n) (hv : bw v 1000) : Gd n (pAddS s k v) := h.u1 hk (bw_min (h.1 k).2.1 hv (by decide) (by decide) rfl (by decide))
theorem Gd.addM {n k : Nat} {s : St} {v : Int32} (h : Gd n s) (hk : k < n) (hv : bw v 1000) : Gd n (pAddM s k v) := h.u0 hk (bw_min (h.1 k).1 hv (by decide) (by decide) rfl (by decide))
theorem Gd.move {n a b : Nat} {s : St} {v : Int32} (h : Gd n s) (ha : a < n) (hb : b < n) (hv : bw v 999) (hm : v.toInt ≤ (s 0 a).toInt) : Gd n (pMove s a b v) := by
  have e := bw_sub (h.1 a).1 hv (by decide) (by decide)
  refine (h.u0 ha ?_).addM hb ⟨hv.1, by have := hv.2; omega⟩
  have := (h.1 a).1
  have := hv.1
  unfold bw at *
  omega
theorem pMay_x {s : St} {a b : Nat} (h : pMay s a b = true) : a ≠ b ∧ (s 5 0).toInt ≤ (s 0 a).toInt ∧ 0 < (s 1 b).toInt := by
  simp only [pMay, Bool.and_eq_true, decide_eq_true_eq, fa_lt, fa_le] at h
  have : (0 : Int32).toInt = 0 := rfl
  omega
theorem Gd.buy {n a b : Nat} {s : St} (h : Gd n s) (ha : a < n) (hb : b < n) (hm : pMay s a b = true) : Gd n (pBuy s a b) := by
  obtain ⟨h1, h2, h3⟩ := pMay_x hm
  have hr := h.2.2
  have hr9 : bw (s 5 0) 999 := ⟨hr.1, by have := hr.2; omega⟩
  have g1 := h.move ha hb hr9 h2
  have e1 : pMove s a b (s 5 0) 1 b = s 1 b := by simp [pMove, pAddM, up]
  have hb1 : bw (1 : Int32) 1 := ⟨by decide, by decide⟩
  have g2 : Gd n (pTake (pMove s a b (s 5 0)) b) := by
    refine g1.u1 hb ?_
    rw [e1]
    have := bw_sub (h.1 b).2.1 hb1 (by decide) (by decide)
    have h4 := (h.1 b).2.1
    have : (1 : Int32).toInt = 1 := rfl
    unfold bw at *
    omega
  exact (g2.addS ha (by exact ⟨by decide, by decide⟩)).u5 (by decide)
theorem Gd.harv {n k : Nat} {s : St} (h : Gd n s) (hk : k < n) : Gd n (pHarv s k) := by
  have hb1 : bw (1 : Int32) 1 := ⟨by decide, by decide⟩
  have o1 : (1 : Int32).toInt = 1 := rfl
  obtain ⟨hm, hs, hh, hb⟩ := h.1 k
  unfold pHarv
  by_cases g1 : 1 ≤ s 2 k
  · rw [if_pos g1]
    rw [fa_le] at g1
    by_cases g2 : 1 ≤ s 1 k
    · rw [if_pos g2]
      rw [fa_le] at g2
      have hmn := bw_mn hh hm
      have hle : (if s 2 k < s 0 k then s 2 k else s 0 k).toInt ≤ (s 2 k).toInt := by
        by_cases g : s 2 k < s 0 k
        · rw [if_pos g]
          omega
        · rw [if_neg g]
          rw [fa_lt] at g
          omega
      generalize (if s 2 k < s 0 k then s 2 k else s 0 k) = r at hmn hle ⊢
      have es := bw_sub hs hb1 (by decide) (by decide)
      have t1 : Gd n (pTake s k) := h.u1 hk (by unfold bw at *; omega)
      have er := bw_sub hh hmn.1 (by decide) (by decide)
      have t2 : Gd n (up (pTake s k) 2 k (s 2 k - r)) := t1.u2 hk (by unfold bw at *; omega)
      exact t2.u3 hk (bw_min hb hmn.1 (by decide) (by decide) rfl (by decide))
    · rw [if_neg g2]
      have e := bw_sub hh hb1 (by decide) (by decide)
      refine h.u2 hk ?_
      unfold bw at *
      omega
  · rw [if_neg g1]
    exact h
def CfOk (c : Cf) : Prop := cfN c ≤ 5 ∧ bw (cfS c) 9 ∧ ∀ k v, bw (cfT c k v) 100
theorem CfOk.tl {c : Cf} (h : CfOk c) (k w : Nat) : bw (tlP (cfT c k) w) 1000 := by
  unfold tlP
  split
  · exact ⟨(h.2.2 k w).1, by have := (h.2.2 k w).2; omega⟩
  · exact ⟨by decide, by decide⟩
theorem Gd.wA {c : Cf} {s : St} (hc : CfOk c) (h : Gd (cfN c) s) : ∀ j, j ≤ cfN c → Gd (cfN c) (itr (wA1 c) j s)
  | 0, _ => h
  | j + 1, hj => (Gd.wA hc h j (by omega)).addS (by omega) (hc.tl _ _)
theorem pMay_u4 {s : St} {a b k : Nat} {v : Int32} : pMay (up s 4 k v) a b = pMay s a b := by simp [pMay, up]
theorem Gd.wB {c : Cf} {x : Wq} (hc : CfOk c) : (h : Gd (cfN c) x.1) → ∀ j, j ≤ cfN c → Gd (cfN c) (itr (wB1 c) j x).1
  | h, 0, _ => h
  | h, j + 1, hj => by
    have ih := Gd.wB hc h j (by omega)
    have hc5 := hc.1
    rw [itr]
    generalize itr (wB1 c) j x = y at ih ⊢
    unfold wB1
    split
    · exact ih.u4
    · rename_i g
      rcases pkP_rng (c := c) (m := y.2.2.1) (s := y.1) (a := j) with e | ⟨b, hb, e, hm⟩
      · exact absurd e g
      · rw [e, nIc (by omega)]
        exact ih.u4.buy (by omega) hb (by rw [pMay_u4]; exact hm)
theorem Gd.wC {c : Cf} {s : St} (hc : CfOk c) (h : Gd (cfN c) s) : ∀ j, j ≤ cfN c → Gd (cfN c) (itr (wC1 c) j s)
  | 0, _ => h
  | j + 1, hj => by
    have ih := (Gd.wC hc h j (by omega)).harv (k := j) (by omega)
    rw [itr]
    refine ih.u1 (by omega) ?_
    have := (bw_mn (ih.1 j).2.1 hc.2.1).1
    exact this
theorem Gd.wk {c : Cf} {m : Bool} {s : St} {se : Int32} (hc : CfOk c) (h : Gd (cfN c) s) : Gd (cfN c) (pWk c m s se).1 := (Gd.wC hc (Gd.wB (x := (wkA c s, 0, m, se)) hc (Gd.wA hc h _ (Nat.le_refl _)) _ (Nat.le_refl _)) _ (Nat.le_refl _)).u5 (by decide)
