theorem s_men {D : Dt} {i k : Nat} (hk : k < 5) : D.1 (6, i, 1, 0) k = rdS D i 0 k := rdS_g 0 (by decide) hk
theorem m_men {D : Dt} {k : Nat} (hk : k < 5) : D.1 (11, 0, 3, 0) k = rdM D 0 k := rdM_g 0 (by decide) hk
theorem sw_men {D : Dt} {i k : Nat} {v : Int32} (hk : k < 5) : rdS (setI D (6, i, 1, 0) k v) i = up (rdS D i) 0 k v := rdS_row 0 (by decide) hk
theorem mw_men {D : Dt} {k : Nat} {v : Int32} (hk : k < 5) : rdM (setI D (11, 0, 3, 0) k v) = up (rdM D) 0 k v := rdM_row 0 (by decide) hk
theorem s_sun {D : Dt} {i k : Nat} (hk : k < 5) : D.1 (6, i, 2, 0) k = rdS D i 1 k := rdS_g 1 (by decide) hk
theorem m_sun {D : Dt} {k : Nat} (hk : k < 5) : D.1 (11, 0, 4, 0) k = rdM D 1 k := rdM_g 1 (by decide) hk
theorem sw_sun {D : Dt} {i k : Nat} {v : Int32} (hk : k < 5) : rdS (setI D (6, i, 2, 0) k v) i = up (rdS D i) 1 k v := rdS_row 1 (by decide) hk
theorem mw_sun {D : Dt} {k : Nat} {v : Int32} (hk : k < 5) : rdM (setI D (11, 0, 4, 0) k v) = up (rdM D) 1 k v := rdM_row 1 (by decide) hk
theorem s_hay {D : Dt} {i k : Nat} (hk : k < 5) : D.1 (6, i, 3, 0) k = rdS D i 2 k := rdS_g 2 (by decide) hk
theorem m_hay {D : Dt} {k : Nat} (hk : k < 5) : D.1 (11, 0, 5, 0) k = rdM D 2 k := rdM_g 2 (by decide) hk
theorem sw_hay {D : Dt} {i k : Nat} {v : Int32} (hk : k < 5) : rdS (setI D (6, i, 3, 0) k v) i = up (rdS D i) 2 k v := rdS_row 2 (by decide) hk
theorem mw_hay {D : Dt} {k : Nat} {v : Int32} (hk : k < 5) : rdM (setI D (11, 0, 5, 0) k v) = up (rdM D) 2 k v := rdM_row 2 (by decide) hk
theorem s_barn {D : Dt} {i k : Nat} (hk : k < 5) : D.1 (6, i, 4, 0) k = rdS D i 3 k := rdS_g 3 (by decide) hk
theorem m_barn {D : Dt} {k : Nat} (hk : k < 5) : D.1 (11, 0, 6, 0) k = rdM D 3 k := rdM_g 3 (by decide) hk
theorem sw_barn {D : Dt} {i k : Nat} {v : Int32} (hk : k < 5) : rdS (setI D (6, i, 4, 0) k v) i = up (rdS D i) 3 k v := rdS_row 3 (by decide) hk
theorem mw_barn {D : Dt} {k : Nat} {v : Int32} (hk : k < 5) : rdM (setI D (11, 0, 6, 0) k v) = up (rdM D) 3 k v := rdM_row 3 (by decide) hk
theorem s_from {D : Dt} {i k : Nat} (hk : k < 5) : D.1 (6, i, 5, 0) k = rdS D i 4 k := rdS_g 4 (by decide) hk
theorem m_from {D : Dt} {k : Nat} (hk : k < 5) : D.1 (11, 0, 7, 0) k = rdM D 4 k := rdM_g 4 (by decide) hk
theorem sw_from {D : Dt} {i k : Nat} {v : Int32} (hk : k < 5) : rdS (setI D (6, i, 5, 0) k v) i = up (rdS D i) 4 k v := rdS_row 4 (by decide) hk
theorem mw_from {D : Dt} {k : Nat} {v : Int32} (hk : k < 5) : rdM (setI D (11, 0, 7, 0) k v) = up (rdM D) 4 k v := rdM_row 4 (by decide) hk
theorem s_rate {D : Dt} {i : Nat} : D.1 (6, i, 0, 0) 5 = rdS D i 5 0 := rdS_s 0 (by decide)
theorem m_rate {D : Dt} : D.1 (11, 0, 2, 0) 3 = rdM D 5 0 := rdM_s 0 (by decide)
theorem sw_rate {D : Dt} {i : Nat} {v : Int32} : rdS (setI D (6, i, 0, 0) 5 v) i = up (rdS D i) 5 0 v := rdS_sc 0 (by decide)
theorem mw_rate {D : Dt} {v : Int32} : rdM (setI D (11, 0, 2, 0) 3 v) = up (rdM D) 5 0 v := rdM_sc 0 (by decide)
theorem s_week {D : Dt} {i : Nat} : D.1 (6, i, 0, 0) 6 = rdS D i 5 1 := rdS_s 1 (by decide)
theorem m_week {D : Dt} : D.1 (11, 0, 2, 0) 4 = rdM D 5 1 := rdM_s 1 (by decide)
theorem sw_week {D : Dt} {i : Nat} {v : Int32} : rdS (setI D (6, i, 0, 0) 6 v) i = up (rdS D i) 5 1 v := rdS_sc 1 (by decide)
theorem mw_week {D : Dt} {v : Int32} : rdM (setI D (11, 0, 2, 0) 4 v) = up (rdM D) 5 1 v := rdM_sc 1 (by decide)
theorem s_bought {D : Dt} {i : Nat} : D.1 (6, i, 0, 0) 7 = rdS D i 5 2 := rdS_s 2 (by decide)
theorem m_bought {D : Dt} : D.1 (11, 0, 2, 0) 5 = rdM D 5 2 := rdM_s 2 (by decide)
theorem sw_bought {D : Dt} {i : Nat} {v : Int32} : rdS (setI D (6, i, 0, 0) 7 v) i = up (rdS D i) 5 2 v := rdS_sc 2 (by decide)
theorem mw_bought {D : Dt} {v : Int32} : rdM (setI D (11, 0, 2, 0) 5 v) = up (rdM D) 5 2 v := rdM_sc 2 (by decide)
