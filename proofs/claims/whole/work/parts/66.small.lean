theorem step0 : Step_0 Rel0 := by
  intro T_co T_n W_n W_ac W_fa W_in W_yr W_ti S_st S_mi S_fi S_sp S_cl S_nu S_co S_ke S_di C_n C_sz C_cd Y_n Y_nx M_s M_ke M_km M_te M_n Q_rv x1 hR
  obtain ⟨⟨t, t1, rfl, rfl, t2⟩, hb, hc⟩ := hR
  rcases rng x1 0 255 (by omega) (by omega) with ⟨k, k1, k2, rfl, f1, f2⟩ | ⟨f1, f2⟩
  · by_cases c : t = 150
    · subst c
      refine ⟨((-3), T_co, nI 150), ((-3), M_te, nI 150), ?_, ?_, rfl, ⟨150, t1, rfl, rfl, t2⟩, hb, hc⟩
      · unfold m_X11_appendCharacter
        rw [show (0 : Int32) = nI 0 from rfl, show (255 : Int32) = nI 255 from rfl, f1, bd, if_neg (by decide), if_neg (by decide)]
      · unfold m_X12_appendCharacter
        rw [show (0 : Int64) = lN 0 from rfl, show (255 : Int64) = lN 255 from rfl, f2, bd, if_neg (by decide), if_pos (by rfl)]
    · refine ⟨(nI (t + 1), upd T_co t (nI k), nI (t + 1)), (nI (t + 1), upd M_te t (nI k), nI (t + 1)), ?_, ?_, rfl, ⟨t + 1, by omega, rfl, rfl, fun i hi => ?_⟩, hb, hc⟩
      · unfold m_X11_appendCharacter
        rw [show (0 : Int32) = nI 0 from rfl, show (255 : Int32) = nI 255 from rfl, f1, bd, if_neg (by decide)]
        unfold m_X8_append m_X8_append_J30
        simp (disch := omega) only [lit32, nI_lt_iff, nI_le_iff, nI_add, ck_nI, tn_nI]
        rw [if_pos (by omega), if_neg (by omega), bd]
      · unfold m_X12_appendCharacter
        rw [show (0 : Int64) = lN 0 from rfl, show (255 : Int64) = lN 255 from rfl, f2, bd, if_neg (by decide)]
        simp (disch := omega) only [lit32, nI_eq_iff, nI_add, ck_nI, tn_nI]
        rw [if_neg c]
      · by_cases e : i = t
        · subst e
          exact ⟨k, by omega, upd_eq _ _ _, upd_eq _ _ _⟩
        · obtain ⟨c', q1, q2, q3⟩ := t2 i (by omega)
          exact ⟨c', q1, (upd_ne _ _ e).trans q2, (upd_ne _ _ e).trans q3⟩
  · refine ⟨((-1), T_co, nI t), ((-1), M_te, nI t), ?_, ?_, rfl, ⟨t, t1, rfl, rfl, t2⟩, hb, hc⟩
    · unfold m_X11_appendCharacter
      rw [show (0 : Int32) = nI 0 from rfl, show (255 : Int32) = nI 255 from rfl, f1, bd, if_pos (by rfl)]
    · unfold m_X12_appendCharacter
      rw [show (0 : Int64) = lN 0 from rfl, show (255 : Int64) = lN 255 from rfl, f2, bd, if_pos (by rfl)]
theorem step1 : Step_1 Rel0 := by
  intro T_co T_n W_n W_ac W_fa W_in W_yr W_ti S_st S_mi S_fi S_sp S_cl S_nu S_co S_ke S_di C_n C_sz C_cd Y_n Y_nx M_s M_ke M_km M_te M_n Q_rv hR
  obtain ⟨⟨t, t1, rfl, rfl, t2⟩, hb, hc⟩ := hR
  exact ⟨(nI t, 0), (nI t, 0), rfl, rfl, rfl, ⟨0, by omega, rfl, rfl, fun i hi => absurd hi (Nat.not_lt_zero i)⟩, hb, hc⟩
theorem step17 : Step_17 Rel0 := by
  intro T_co T_n W_n W_ac W_fa W_in W_yr W_ti S_st S_mi S_fi S_sp S_cl S_nu S_co S_ke S_di C_n C_sz C_cd Y_n Y_nx M_s M_ke M_km M_te M_n Q_rv hR
  have hR' := hR
  obtain ⟨ht, ⟨a, ho, r1, r2, r3, r4⟩, h5⟩ := hR
  refine ⟨W_n, M_s 0, rfl, ?_, ?_, hR'⟩
  · unfold m_X12_workCount
    rw [ck_lit (by decide) (by decide)]
    rfl
  · rw [r1.1, r4 0 (by omega)]
theorem step19 : Step_19 Rel0 := by
  intro T_co T_n W_n W_ac W_fa W_in W_yr W_ti S_st S_mi S_fi S_sp S_cl S_nu S_co S_ke S_di C_n C_sz C_cd Y_n Y_nx M_s M_ke M_km M_te M_n Q_rv hR
  have hR' := hR
  obtain ⟨ht, ⟨a, ho, r1, r2, r3, r4⟩, h5⟩ := hR
  refine ⟨C_n, M_s 70, rfl, ?_, ?_, hR'⟩
  · unfold m_X12_citationCount
    rw [ck_lit (by decide) (by decide)]
    rfl
  · rw [r3.1, r4 70 (by omega)]
theorem step18 : Step_18 Rel0 := by
  intro T_co T_n W_n W_ac W_fa W_in W_yr W_ti S_st S_mi S_fi S_sp S_cl S_nu S_co S_ke S_di C_n C_sz C_cd Y_n Y_nx M_s M_ke M_km M_te M_n Q_rv x1 hR
  have hR' := hR
  obtain ⟨ht, ⟨a, ho, r1, r2, r3, r4⟩, h5⟩ := hR
  have h8 := ho.1.1
  rcases hasW x1 ho.1.1 (r4 0 (by omega)) with ⟨k, k1, rfl, f1, f2⟩ | ⟨f1, f2⟩
  · refine ⟨nI (a (1 + 7 * k)), nI (a (1 + 7 * k)), ?_, ?_, rfl, hR'⟩
    · unfold m_X11_authorCount m_X11_authorCount_J24
      rw [r1.1, f1, bd, if_neg (by decide)]
      simp (disch := omega) only [ck_nI, tn_nI]
      rw [(r1.2 k k1).1]
    · unfold m_X12_authorCount m_X12_authorCount_J17
      rw [f2, bd, if_neg (by decide)]
      unfold m_X12_authors
      simp (disch := omega) only [lit32, nI_mul, nI_add, ck_nI, tn_nI]
      rw [r4 _ (by omega), bd]
  · refine ⟨(-1), (-1), ?_, ?_, rfl, hR'⟩
    · unfold m_X11_authorCount m_X11_authorCount_J24
      rw [r1.1, f1, bd, if_pos (by rfl)]
    · unfold m_X12_authorCount m_X12_authorCount_J17
      rw [f2, bd, if_pos (by rfl)]
theorem step20 : Step_20 Rel0 := by
  intro T_co T_n W_n W_ac W_fa W_in W_yr W_ti S_st S_mi S_fi S_sp S_cl S_nu S_co S_ke S_di C_n C_sz C_cd Y_n Y_nx M_s M_ke M_km M_te M_n Q_rv x1 hR
  have hR' := hR
  obtain ⟨ht, ⟨a, ho, r1, r2, r3, r4⟩, h5⟩ := hR
  have h8 := ho.2.2.1
  rcases hasC x1 ho.2.2.1 (r4 70 (by omega)) with ⟨k, k1, rfl, f1, f2⟩ | ⟨f1, f2⟩
  · refine ⟨nI (a (71 + 6 * k)), nI (a (71 + 6 * k)), ?_, ?_, rfl, hR'⟩
    · unfold m_X11_citationSize m_X11_citationSize_J24
      rw [r3.1, f1, bd, if_neg (by decide)]
      simp (disch := omega) only [ck_nI, tn_nI]
      rw [(r3.2 k k1).1]
    · unfold m_X12_citationSize m_X12_citationSize_J17
      rw [f2, bd, if_neg (by decide)]
      unfold m_X12_cites
      simp (disch := omega) only [lit32, nI_mul, nI_add, ck_nI, tn_nI]
      rw [r4 _ (by omega), bd]
  · refine ⟨(-1), (-1), ?_, ?_, rfl, hR'⟩
    · unfold m_X11_citationSize m_X11_citationSize_J24
      rw [r3.1, f1, bd, if_pos (by rfl)]
    · unfold m_X12_citationSize m_X12_citationSize_J17
      rw [f2, bd, if_pos (by rfl)]
