theorem va_up_same {α : Type} (f : Nat → α) (k : Nat) (v : α) : va_up f k v k = v := by simp [va_up]
theorem va_up_other {α : Type} (f : Nat → α) {k j : Nat} (v : α) (h : j ≠ k) : va_up f k v j = f j := by simp [va_up, h]
/-- before an edit: both keep what is -/
theorem save_ok {W_n : Int32} {W_ac W_fa W_in W_yr W_ti : Nat → Int32} {S_st S_mi S_fi S_sp S_cl S_nu S_co : Int32} {S_ke S_di : Nat → Int32} {C_n : Int32} {C_sz C_cd : Nat → Int32} {Y_n Y_nx : Int32} {Q_rv : Nat → StV} {M_s M_ke : Nat → Int32} {M_km : Int32} {a : Nat → Nat} (ho : Ok a) (h1 : RW W_n W_ac W_fa W_in W_yr W_ti a) (h2 : RS S_st S_mi S_fi S_sp S_cl S_nu S_co S_ke S_di a) (h3 : RT C_n C_sz C_cd a) (h4 : RM M_s a) (h5 : HR Y_n Y_nx Q_rv M_ke M_km) :
    ∃ o1 o2, m_X2_save W_n W_ac W_fa W_in W_yr W_ti S_st S_mi S_fi S_sp S_cl S_nu S_co S_ke S_di C_n C_sz C_cd Y_n Y_nx Q_rv = some o1 ∧ m_X12_keeps M_s M_ke M_km = some o2 ∧ HR o1.1 o1.2.1 o1.2.2 o2.1 o2.2 := by
  obtain ⟨h, x, hh, hx, rfl, rfl, rfl, hist⟩ := h5
  obtain ⟨o2, k1, g, k2, k3, k4, k5⟩ := keeps_ok M_s M_ke hh
  obtain ⟨e2, c1, c2⟩ := copyFrom_ok (Q_rv x).1 (Q_rv x).2.1 (Q_rv x).2.2.1 (Q_rv x).2.2.2.1 (Q_rv x).2.2.2.2.1 (Q_rv x).2.2.2.2.2.1 (Q_rv x).2.2.2.2.2.2.1 (Q_rv x).2.2.2.2.2.2.2.1 (Q_rv x).2.2.2.2.2.2.2.2.1 (Q_rv x).2.2.2.2.2.2.2.2.2.1 (Q_rv x).2.2.2.2.2.2.2.2.2.2.1 (Q_rv x).2.2.2.2.2.2.2.2.2.2.2.1 (Q_rv x).2.2.2.2.2.2.2.2.2.2.2.2.1 (Q_rv x).2.2.2.2.2.2.2.2.2.2.2.2.2.1 (Q_rv x).2.2.2.2.2.2.2.2.2.2.2.2.2.2.1 (Q_rv x).2.2.2.2.2.2.2.2.2.2.2.2.2.2.2.1 (Q_rv x).2.2.2.2.2.2.2.2.2.2.2.2.2.2.2.2.1 (Q_rv x).2.2.2.2.2.2.2.2.2.2.2.2.2.2.2.2.2 ho h1 h2 h3
  refine ⟨(nI (g + 1), nI ((x + 1) % 8), va_up Q_rv x e2), o2, ?_, k1, ?_⟩
  · unfold m_X2_save
    simp (disch := omega) only [tn_nI, ck_nI]
    rw [c1, bd]
    simp (disch := omega) only [lit32, nI_add, nI_lt_iff, nI_div, nI_mul, nI_sub]
    congr 2
    · by_cases c : 8 < h + 1
      · rw [if_pos c]; congr 1; omega
      · rw [if_neg c]; congr 1; omega
    · congr 2
      omega
  · refine ⟨g + 1, (x + 1) % 8, by omega, by omega, rfl, k2, rfl, fun i hi => ?_⟩
    by_cases e : i = g
    · subst e
      refine ⟨a, ho, ?_, fun j hj => ?_⟩
      · dsimp only
        rw [show ((x + 1) % 8 + 8 - (i + 1) + i) % 8 = x by omega, va_up_same]
        exact c2
      · dsimp only
        rw [k4 j hj]
        exact h4 j hj
    · obtain ⟨a', g1, g2, g3⟩ := hist (i + (h - g)) (by omega)
      refine ⟨a', g1, ?_, fun j hj => ?_⟩
      · dsimp only
        rw [show ((x + 1) % 8 + 8 - (g + 1) + i) % 8 = (x + 8 - h + (i + (h - g))) % 8 by omega, va_up_other _ _ (by omega)]
        exact g2
      · dsimp only
        rw [k5 i j (by omega) hj]
        exact g3 j hj
/-! ===== undo ===== -/
theorem undoM_ok (M_s M_ke : Nat → Int32) {h : Nat} (hh : h ≤ 8) (h0 : 0 < h) : OkS (m_X12_undo M_s M_ke (nI h)) (fun o => o.1 = nI (h - 1) ∧ o.2.2 = nI (h - 1) ∧ ∀ j, j < 131 → o.2.1 j = M_ke (131 * (h - 1) + j)) := by
  unfold m_X12_undo
  simp (disch := omega) only [lit32, nI_eq_iff, nI_sub]
  rw [if_neg (by omega)]
  refine ok_bind (Q := fun r => ∀ j, j < 131 → r j = M_ke (131 * (h - 1) + j)) ?_ (fun r hr => ok_some ⟨rfl, rfl, hr⟩)
  refine ok_for (fun i st => st.1 = nI i ∧ ∀ j, j < i → st.2 j = M_ke (131 * (h - 1) + j)) 131 ⟨rfl, fun j hj => absurd hj (Nat.not_lt_zero j)⟩ ?_ ?_ (by omega)
  · rintro i ⟨s1, s2⟩ hi ⟨e1, e2⟩
    dsimp only at e1 e2
    subst e1
    unfold m_X12_undo_B22
    simp (disch := omega) only [lit32, nI_le_iff, nI_mul, nI_add, ck_nI, tn_nI]
    rw [if_neg (by omega)]
    refine ok_l ⟨rfl, fun j hj => ?_⟩
    by_cases e : j = i
    · subst e
      exact upd_eq _ _ _
    · exact (upd_ne _ _ (by omega)).trans (e2 j (by omega))
  · rintro ⟨s1, s2⟩ ⟨e1, e2⟩
    dsimp only at e1 e2
    subst e1
    unfold m_X12_undo_B22
    simp (disch := omega) only [lit32, nI_le_iff]
    rw [if_pos (by omega)]
    exact ok_r e2
theorem step16 : Step_16 Rel0 := by
  intro T_co T_n W_n W_ac W_fa W_in W_yr W_ti S_st S_mi S_fi S_sp S_cl S_nu S_co S_ke S_di C_n C_sz C_cd Y_n Y_nx M_s M_ke M_km M_te M_n Q_rv hR
  obtain ⟨ht, ⟨a, ho, r1, r2, r3, r4⟩, h, x, hh, hx, rfl, rfl, rfl, hist⟩ := hR
  by_cases c : h = 0
  · subst c
    refine ⟨((-2), W_n, W_ac, W_fa, W_in, W_yr, W_ti, S_st, S_mi, S_fi, S_sp, S_cl, S_nu, S_co, S_ke, S_di, C_n, C_sz, C_cd, nI 0, nI x), ((-2), M_s, nI 0), ?_, ?_, rfl, ht, ⟨a, ho, r1, r2, r3, r4⟩, 0, x, hh, hx, rfl, rfl, rfl, hist⟩
    · unfold m_X11_undo
      rw [if_pos (show nI 0 = 0 from rfl)]
    · unfold m_X12_undo
      rw [if_pos (show nI 0 = 0 from rfl)]
  · obtain ⟨o2, k1, k2, k3, k4⟩ := undoM_ok M_s M_ke hh (by omega)
    obtain ⟨a', g1, g2, g3⟩ := hist (h - 1) (by omega)
    have ex : (x + 8 - h + (h - 1)) % 8 = (x + 7) % 8 := by omega
    rw [ex] at g2
    rcases hq : Q_rv ((x + 7) % 8) with ⟨v0, v1, v2, v3, v4, v5, v6, v7, v8, v9, v10, v11, v12, v13, v14, v15, v16, v17⟩
    rw [hq] at g2
    obtain ⟨w1, w2, w3⟩ := g2
    obtain ⟨e2, c1, c2⟩ := copyFrom_ok W_n W_ac W_fa W_in W_yr W_ti S_st S_mi S_fi S_sp S_cl S_nu S_co S_ke S_di C_n C_sz C_cd g1 w1 w2 w3
    obtain ⟨p0, p1, p2, p3, p4, p5, p6, p7, p8, p9, p10, p11, p12, p13, p14, p15, p16, p17⟩ := e2
    obtain ⟨z1, z2, z3⟩ := c2
    refine ⟨(nI (h - 1), p0, p1, p2, p3, p4, p5, p6, p7, p8, p9, p10, p11, p12, p13, p14, p15, p16, p17, nI (h - 1), nI ((x + 7) % 8)), o2, ?_, k1, k2.symm, ht, ⟨a', g1, z1, z2, z3, fun j hj => ?_⟩, h - 1, (x + 7) % 8, by omega, by omega, rfl, k3, rfl, fun i hi => ?_⟩
    · unfold m_X11_undo m_X2_restore
      simp (disch := omega) only [lit32, nI_eq_iff, nI_add, nI_sub, nI_div, nI_mul]
      rw [if_neg c, show x + 8 - 1 - (x + 8 - 1) / 8 * 8 = (x + 7) % 8 by omega]
      simp (disch := omega) only [tn_nI, ck_nI]
      rw [hq, c1]
      rfl
    · rw [k4 j hj]
      exact g3 j hj
    · obtain ⟨a'', q1, q2, q3⟩ := hist i (by omega)
      refine ⟨a'', q1, ?_, q3⟩
      rw [show ((x + 7) % 8 + 8 - (h - 1) + i) % 8 = (x + 8 - h + i) % 8 by omega]
      exact q2
