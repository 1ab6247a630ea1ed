def byN (x : Int32) (s : Nat) : Nat := x.toBitVec.toNat / 2 ^ s % 256
theorem byN_b (x : Int32) (s : Nat) : byN x s < 256 := Nat.mod_lt _ (by decide)
theorem by_c {x : Int32} {s : Nat} (hs : s = 24 ∨ s = 16 ∨ s = 8 ∨ s = 0) : ((x.toUInt32 >>> ((nI s).toUInt32 &&& Int32.toUInt32 31)).toInt32) &&& 255 = nI (byN x s) := by
  have h1 : (((nI s).toUInt32 &&& Int32.toUInt32 31).toBitVec % 32).toNat = s := by
    rcases hs with rfl | rfl | rfl | rfl <;> decide
  have h2 := pk_ushr x (nI s) s h1
  rw [pk_and _ (m := 255) 8 (by decide), h2]
  rfl
theorem sgb_8 : ∀ n, n < 256 → sgb n = (nI n).toInt8.toInt32 := by decide +kernel
theorem by_m {x : Int32} {s : Nat} (hs : s = 24 ∨ s = 16 ∨ s = 8 ∨ s = 0) : (x >>> (nI s &&& 31)).toInt8.toInt32 = sgb (byN x s) := by
  have h1 : ((nI s &&& 31).toBitVec.smod 32).toNat = s := by
    rcases hs with rfl | rfl | rfl | rfl <;> decide
  have h2 := pk_shr x (nI s &&& 31) s h1
  rw [sgb_8 _ (byN_b x s)]
  have key : (x >>> (nI s &&& 31)).toInt8 = (nI (byN x s)).toInt8 := by
    apply Int8.toInt_inj.1
    rw [Int32.toInt_toInt8, Int32.toInt_toInt8, h2, nI_toInt (by have := byN_b x s; omega)]
    have hx : x.toInt = (x.toBitVec.toNat : Int) ∨ x.toInt = (x.toBitVec.toNat : Int) - 4294967296 := by
      have : x.toInt = x.toBitVec.toInt := rfl
      rw [this, BitVec.toInt_eq_toNat_cond]
      split
      · exact Or.inl rfl
      · exact Or.inr rfl
    unfold byN
    generalize x.toBitVec.toNat = n at hx ⊢
    have e : (x.toInt >>> s) % 256 = ((n / 2 ^ s % 256 : Nat) : Int) % 256 := by
      rw [Int.shiftRight_eq_div_pow]
      rcases hs with rfl | rfl | rfl | rfl <;> rcases hx with hx | hx <;> rw [hx] <;> omega
    show Int.bmod _ 256 = Int.bmod _ 256
    have e3 : ∀ y : Int, (y % 256).bmod 256 = y.bmod 256 := fun y => Int.emod_bmod y 256
    rw [← e3 (x.toInt >>> s), e, e3]
  rw [key]
def putB (L : Nat) (B : Nat → Nat) (v : Nat) : Nat → Nat := fun j => if j = L then v else B j
def TC (D : Dt) (L : Nat) (B : Nat → Nat) : Prop := D.1 (2, 0, 0, 0) 1 = nI L ∧ ∀ k, k < L → D.1 (2, 0, 1, 0) k = nI (B k)
def TM (D : Dt) (L : Nat) (B : Nat → Nat) : Prop := D.1 (11, 0, 0, 0) 19 = nI L ∧ ∀ k, k < L → D.1 (11, 0, 30, 0) k = sgb (B k)
def tcS : LA → Nat → Bool := fun la k => la == (2, 0, 1, 0) || (la == (2, 0, 0, 0) && k == 1)
def tmS : LA → Nat → Bool := fun la k => la == (11, 0, 30, 0) || (la == (11, 0, 0, 0) && k == 19)
theorem c_put1 {D : Dt} {L fu s : Nat} {B : Nat → Nat} {x : Int32} (hs : s = 24 ∨ s = 16 ∨ s = 8 ∨ s = 0) (hL : L < 400) (h : TC D L B) : ∃ D', F_X2_putNumber_b3 x (fu + 1) x (nI s) D = F_X2_putNumber_b3 x fu x (nI s + (-8)) D' ∧ TC D' (L + 1) (putB L B (byN x s)) ∧ Sm tcS D D' := by
  rw [F_X2_putNumber_b3, if_neg (nI_pos (by omega)), h.1, if_neg (show ¬ (400 : Int32) ≤ nI L from nI_ge (b := 400) hL (by decide)), grd_t (inBe hL (by decide)), nIc (by omega), by_c hs]
  simp only [bnd_e, F_X2_putNumber_b43]
  refine ⟨_, rfl, ⟨?_, fun k hk => ?_⟩, (Sm.sI (by simp [tcS])).trans (Sm.sI (by simp [tcS]))⟩
  · rw [gI_s, gI, if_neg (by simp), h.1, nI_1]
  · rw [gI, if_neg (by simp), gI]
    unfold putB
    by_cases c : k = L
    · rw [if_pos ⟨rfl, c⟩, if_pos c]
    · rw [if_neg (fun x => c x.2), if_neg c, h.2 k (by omega)]
theorem m_put1 {D : Dt} {L fu s : Nat} {B : Nat → Nat} {x : Int32} (hs : s = 24 ∨ s = 16 ∨ s = 8 ∨ s = 0) (hL : L < 400) (h : TM D L B) : ∃ D', F_X11_put_b3 x (fu + 1) x (nI s) D = F_X11_put_b3 x fu x (nI s + (-8)) D' ∧ TM D' (L + 1) (putB L B (byN x s)) ∧ Sm tmS D D' := by
  rw [F_X11_put_b3, if_neg (nI_pos (by omega)), h.1, grd_t (inBe hL (by decide)), nIc (by omega), vp_nar_byte, fb_byte_twice, by_m hs]
  simp only [bnd_e]
  refine ⟨_, rfl, ⟨?_, fun k hk => ?_⟩, (Sm.sI (by simp [tmS])).trans (Sm.sI (by simp [tmS]))⟩
  · rw [gI_s, gI, if_neg (by simp), h.1, nI_1]
  · rw [gI, if_neg (by simp), gI]
    unfold putB
    by_cases c : k = L
    · rw [if_pos ⟨rfl, c⟩, if_pos c]
    · rw [if_neg (fun x => c x.2), if_neg c, h.2 k (by omega)]
def put4 (L : Nat) (B : Nat → Nat) (x : Int32) : Nat → Nat := putB (L + 3) (putB (L + 2) (putB (L + 1) (putB L B (byN x 24)) (byN x 16)) (byN x 8)) (byN x 0)
theorem put4_b {L : Nat} {B : Nat → Nat} {x : Int32} (h : ∀ k, B k < 256) : ∀ k, put4 L B x k < 256 := by
  intro k
  unfold put4 putB
  have := byN_b x
  split
  · exact this _
  · split
    · exact this _
    · split
      · exact this _
      · split
        · exact this _
        · exact h k
theorem c_put {D : Dt} {L : Nat} {B : Nat → Nat} {x : Int32} (hL : L + 4 ≤ 400) (h : TC D L B) : ∃ D', F_X2_putNumber x D = some D' ∧ TC D' (L + 4) (put4 L B x) ∧ Sm tcS D D' := by
  obtain ⟨D1, e1, t1, s1⟩ := c_put1 (fu := 1999) (s := 24) (x := x) (by decide) (by omega) h
  obtain ⟨D2, e2, t2, s2⟩ := c_put1 (fu := 1998) (s := 16) (x := x) (by decide) (by omega) t1
  obtain ⟨D3, e3, t3, s3⟩ := c_put1 (fu := 1997) (s := 8) (x := x) (by decide) (by omega) t2
  obtain ⟨D4, e4, t4, s4⟩ := c_put1 (fu := 1996) (s := 0) (x := x) (by decide) (by omega) t3
  refine ⟨D4, ?_, t4, ((s1.trans s2).trans s3).trans s4⟩
  rw [F_X2_putNumber]
  refine e1.trans ?_
  refine Eq.trans e2 ?_
  refine Eq.trans e3 ?_
  refine Eq.trans e4 ?_
  rw [F_X2_putNumber_b3, if_pos (by decide)]
theorem m_put {D : Dt} {L : Nat} {B : Nat → Nat} {x : Int32} (hL : L + 4 ≤ 400) (h : TM D L B) : ∃ D', F_X11_put x D = some D' ∧ TM D' (L + 4) (put4 L B x) ∧ Sm tmS D D' := by
  obtain ⟨D1, e1, t1, s1⟩ := m_put1 (fu := 1999) (s := 24) (x := x) (by decide) (by omega) h
  obtain ⟨D2, e2, t2, s2⟩ := m_put1 (fu := 1998) (s := 16) (x := x) (by decide) (by omega) t1
  obtain ⟨D3, e3, t3, s3⟩ := m_put1 (fu := 1997) (s := 8) (x := x) (by decide) (by omega) t2
  obtain ⟨D4, e4, t4, s4⟩ := m_put1 (fu := 1996) (s := 0) (x := x) (by decide) (by omega) t3
  refine ⟨D4, ?_, t4, ((s1.trans s2).trans s3).trans s4⟩
  rw [F_X11_put]
  refine e1.trans ?_
  refine Eq.trans e2 ?_
  refine Eq.trans e3 ?_
  refine Eq.trans e4 ?_
  rw [F_X11_put_b3, if_pos (by decide)]
theorem RC.tape {D D' : Dt} {A : Al} {L : Nat} {B : Nat → Nat} (h : RC D A) (s : Sm tcS D D') (t : TC D' L B) : RC D' (A.1, A.2.1, A.2.2.1, A.2.2.2.1, L, B) := by
  obtain ⟨h1, h2, h3, h4, h5, h6, h7, h8⟩ := h
  have z : ∀ (la : LA) k, ¬ la.1 = 2 → tcS la k = false := fun la k e => by
    simp only [tcS, Bool.or_eq_false_iff, Bool.and_eq_false_iff, beq_eq_false_iff_ne]
    exact ⟨fun x => e (by rw [x]), Or.inl (fun x => e (by rw [x]))⟩
  have zw : ∀ w (la : LA) (k : Nat), wcl w la = true → tcS la k = false := fun w la k e => z la k (fun x => by simp [wcl, x] at e)
  refine ⟨h1.sm s (zw 0), fun w hw => ?_, fun k hk => ?_, fun k W hk hW => (h4 k W hk hW).sm s (zw _), ?_, fun r hr => (h6 r hr).sm s (fun q k _ => z _ _ (by simp)), t.1, t.2⟩
  · obtain ⟨p, hp⟩ := h2 w hw
    exact ⟨p, hp.sm s (fun k => z _ _ (by simp))⟩
  · rw [s.i (z _ _ (by simp))]; exact h3 k hk
  · rw [s.i (z _ _ (by simp))]; exact h5
theorem RM.tape {D D' : Dt} {A : Al} {L : Nat} {B : Nat → Nat} (h : RM D A) (s : Sm tmS D D') (t : TM D' L B) : RM D' (A.1, A.2.1, A.2.2.1, A.2.2.2.1, L, B) := by
  obtain ⟨h1, h2, h3, h4, h5, h6, h7, h8, h9, h10, h11⟩ := h
  have z : ∀ q k, q ≠ 30 → ¬ (q = 0 ∧ k = 19) → D'.1 (11, 0, q, 0) k = D.1 (11, 0, q, 0) k := fun q k a b => s.i (by
    have a' : ¬ q = 30 := a
    simp [tmS, a']
    intro e
    exact fun e2 => b ⟨e, e2⟩)
  refine ⟨?_, fun k hk => ?_, fun k W hk hW => ?_, ?_, fun r hr => (h5 r hr).sm s (fun q k a b => by simp [tmS]; omega), t.1, t.2, ?_, ?_, ?_, ?_⟩
  · refine h1.cong (fun q k hq hk => ?_)
    by_cases c6 : q = 6
    · subst c6
      exact z 0 46 (by decide) (by decide)
    · rw [← lvA_lv q hq c6, ← lvA_lv q hq c6]
      have hl : ∀ q, q < 15 → q ≠ 6 → ∃ y, lvA q = (11, 0, y, 0) ∧ y ≠ 30 ∧ y ≠ 0 := by
        intro q hq h6
        by_cases a0 : q = 0
        · exact ⟨2, by simp [lvA, a0], by decide, by decide⟩
        · by_cases a5 : q ≤ 5
          · exact ⟨q + 2, by simp [lvA, a0, a5], by omega, by omega⟩
          · by_cases a13 : q ≤ 13
            · exact ⟨q + 1, by simp [lvA, a0, a5, h6, a13], by omega, by omega⟩
            · exact ⟨45, by simp [lvA, a0, a5, h6, a13], by decide, by decide⟩
      obtain ⟨y, e, y1, y2⟩ := hl q hq c6
      rw [e]
      exact z y k y1 (fun x => y2 x.1)
  · rw [z _ _ (by decide) (fun x => absurd x.1 (by decide))]; exact h2 k hk
  · refine (h3 k W hk hW).cong (fun q j _ _ => ?_)
    exact z _ _ (by decide) (fun x => absurd x.1 (by decide))
  · rw [z _ _ (by decide) (by decide)]; exact h4
  · rw [z _ _ (by decide) (by decide)]; exact h8
  · rw [z _ _ (by decide) (by decide)]; exact h9
  · rw [z _ _ (by decide) (by decide)]; exact h10
  · rw [z _ _ (by decide) (by decide)]; exact h11
theorem tcS_c {D D' : Dt} (s : Sm tcS D D') : Sm cS D D' := s.mono (fun la k e => by
  have : la.1 = 11 := by simpa [cS] using e
  simp only [tcS, Bool.or_eq_false_iff, Bool.and_eq_false_iff, beq_eq_false_iff_ne]
  exact ⟨fun x => (by rw [x] at this; cases this), Or.inl (fun x => (by rw [x] at this; cases this))⟩)
theorem tmS_m {D D' : Dt} (s : Sm tmS D D') : Sm mS D D' := s.mono (fun la k e => by
  simp only [mS, beq_eq_false_iff_ne] at e
  simp only [tmS, Bool.or_eq_false_iff, Bool.and_eq_false_iff, beq_eq_false_iff_ne]
  exact ⟨fun x => e (by rw [x]), Or.inl (fun x => e (by rw [x]))⟩)
theorem p_feed (a b c d e : Int32) : Cal (F_X10_feed a b c d e) (F_X11_feed a b c d e) := by
  refine cal_of (fun A hA => ?_)
  have hL := hA.2.2.2.2.1
  have h20 : ∀ x : Int32, x = nI (alL A) → (x + 20 ≤ 400 ↔ alL A + 20 ≤ 400) := by
    rintro x rfl
    rw [show nI (alL A) + 20 = nI (alL A + 20) from nI_add _ 20]
    exact nI_leI (b := 400) (by omega) (by decide)
  by_cases hc : alL A + 20 ≤ 400
  · refine ⟨nI (alL A + 4 + 4 + 4 + 4 + 4), (A.1, A.2.1, A.2.2.1, A.2.2.2.1, alL A + 4 + 4 + 4 + 4 + 4, put4 (alL A + 4 + 4 + 4 + 4) (put4 (alL A + 4 + 4 + 4) (put4 (alL A + 4 + 4) (put4 (alL A + 4) (put4 (alL A) (alB A) a) b) c) d) e), ?_, fun D h => ?_, fun D h => ?_⟩
    · obtain ⟨h1, h2, h3, h4, h5, h6⟩ := hA
      exact ⟨h1, h2, h3, h4, by show alL A + 4 + 4 + 4 + 4 + 4 ≤ 400; omega, put4_b (put4_b (put4_b (put4_b (put4_b h6))))⟩
    · have t0 : TC D (alL A) (alB A) := h.2.2.2.2.2.2
      obtain ⟨D1, e1, t1, s1⟩ := c_put (x := a) (by omega) t0
      obtain ⟨D2, e2, t2, s2⟩ := c_put (x := b) (by omega) t1
      obtain ⟨D3, e3, t3, s3⟩ := c_put (x := c) (by omega) t2
      obtain ⟨D4, e4, t4, s4⟩ := c_put (x := d) (by omega) t3
      obtain ⟨D5, e5, t5, s5⟩ := c_put (x := e) (by omega) t4
      have s := (((s1.trans s2).trans s3).trans s4).trans s5
      refine ⟨D5, ?_, h.tape s t5, tcS_c s⟩
      rw [F_X10_feed, if_pos ((h20 _ t0.1).mpr hc), e1, vbd_s, e2, vbd_s, e3, vbd_s, e4, vbd_s, e5, vbd_s, t5.1]
    · have t0 : TM D (alL A) (alB A) := ⟨h.2.2.2.2.2.1, h.2.2.2.2.2.2.1⟩
      obtain ⟨D1, e1, t1, s1⟩ := m_put (x := a) (by omega) t0
      obtain ⟨D2, e2, t2, s2⟩ := m_put (x := b) (by omega) t1
      obtain ⟨D3, e3, t3, s3⟩ := m_put (x := c) (by omega) t2
      obtain ⟨D4, e4, t4, s4⟩ := m_put (x := d) (by omega) t3
      obtain ⟨D5, e5, t5, s5⟩ := m_put (x := e) (by omega) t4
      have s := (((s1.trans s2).trans s3).trans s4).trans s5
      refine ⟨D5, ?_, h.tape s t5, tmS_m s⟩
      rw [F_X11_feed, if_pos ((h20 _ t0.1).mpr hc), e1, vbd_s, e2, vbd_s, e3, vbd_s, e4, vbd_s, e5, vbd_s, t5.1]
  · refine cal_no hA (-1) (fun D h => ?_) (fun D h => ?_)
    · rw [F_X10_feed, if_neg (fun x => hc ((h20 _ h.2.2.2.2.2.2.1).mp x))]
    · rw [F_X11_feed, if_neg (fun x => hc ((h20 _ h.2.2.2.2.2.1).mp x))]
