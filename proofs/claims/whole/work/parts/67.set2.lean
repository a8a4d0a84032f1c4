theorem OkE_up2 {a : Nat → Nat} {s k d : Nat} (hs : s < 3) (hk : k ≤ 3) (hd : d ≤ 1) (ho : OkE a) : OkE (upN (upN a (64 + 2 * s) k) (65 + 2 * s) d) := by
  obtain ⟨⟨h57, h58, ⟨h59a, h59b⟩, h60, h61, h62, h63⟩, hj⟩ := ho
  refine ⟨⟨?_, ?_, ⟨?_, ?_⟩, ?_, ?_, ?_, ?_⟩, fun j hj' => ?_⟩
  all_goals first | (rw [upN_ne _ _ (by omega), upN_ne _ _ (by omega)]; assumption) | skip
  have h1 : upN (upN a (64 + 2 * s) k) (65 + 2 * s) d (64 + 2 * j) = if j = s then k else a (64 + 2 * j) := by
    rw [upN_ne _ _ (by omega)]
    by_cases e : j = s
    · subst e; rw [upN_eq, if_pos rfl]
    · rw [upN_ne _ _ (by omega), if_neg e]
  have h2 : upN (upN a (64 + 2 * s) k) (65 + 2 * s) d (65 + 2 * j) = if j = s then d else a (65 + 2 * j) := by
    by_cases e : j = s
    · subst e; rw [upN_eq, if_pos rfl]
    · rw [upN_ne _ _ (by omega), upN_ne _ _ (by omega), if_neg e]
  rw [h1, h2]
  by_cases e : j = s
  · rw [if_pos e, if_pos e]; exact ⟨hk, hd⟩
  · rw [if_neg e, if_neg e]; exact hj j hj'
theorem step7 : Step_7 Rel0 := by
  intro T_co T_n W_n W_ac W_fa W_in W_yr W_ti S_st S_mi S_fi S_sp S_cl S_nu S_co S_ke S_di C_n C_sz C_cd Y_n Y_nx M_s M_ke M_km M_te M_n Q_rv x1 x2 hR
  obtain ⟨ht, ⟨a, ho, r1, r2, r3, r4⟩, h5⟩ := hR
  have out : ∀ (e1 : m_X11_setEtAl W_n W_ac W_fa W_in W_yr W_ti S_st S_mi S_fi S_sp S_cl S_nu S_co S_ke S_di C_n C_sz C_cd Y_n Y_nx Q_rv x1 x2 = some ((-1), S_mi, S_fi, Y_n, Y_nx, Q_rv)) (e2 : m_X12_setEtAl M_s M_ke M_km x1 x2 = some ((-1), M_s, M_ke, M_km)), ∃ (o : Int32 × Int32 × Int32 × Int32 × Int32 × (Nat → StV)) (o2 : Int32 × (Nat → Int32) × (Nat → Int32) × Int32), m_X11_setEtAl W_n W_ac W_fa W_in W_yr W_ti S_st S_mi S_fi S_sp S_cl S_nu S_co S_ke S_di C_n C_sz C_cd Y_n Y_nx Q_rv x1 x2 = some o ∧ m_X12_setEtAl M_s M_ke M_km x1 x2 = some o2 ∧ o.1 = o2.1 ∧ Rel0 T_co T_n W_n W_ac W_fa W_in W_yr W_ti S_st o.2.1 o.2.2.1 S_sp S_cl S_nu S_co S_ke S_di C_n C_sz C_cd o.2.2.2.1 o.2.2.2.2.1 o.2.2.2.2.2 o2.2.1 o2.2.2.1 o2.2.2.2 M_te M_n :=
    fun e1 e2 => ⟨_, _, e1, e2, rfl, ht, ⟨a, ho, r1, r2, r3, r4⟩, h5⟩
  rcases rng x1 0 5 (by omega) (by omega) with ⟨k, k1, k2, rfl, f1, f2⟩ | ⟨f1, f2⟩
  · rcases rng x2 1 3 (by omega) (by omega) with ⟨d, d1, d2, rfl, g1, g2⟩ | ⟨g1, g2⟩
    · obtain ⟨o1, o2, s1, s2, s3⟩ := save_ok ho r1 r2 r3 r4 h5
      refine ⟨(nI (10 * a 58 + a 59), nI k, nI d, o1.1, o1.2.1, o1.2.2), (nI (10 * a 58 + a 59), upd (upd M_s 58 (nI k)) 59 (nI d), o2.1, o2.2), ?_, ?_, rfl, ht, ⟨upN (upN a 58 k) 59 d, ?_, ?_, ?_, ?_, RM_up (RM_up r4)⟩, s3⟩
      · unfold m_X11_setEtAl
        rw [show (0 : Int32) = nI 0 from rfl, show (5 : Int32) = nI 5 from rfl, f1, bd, if_neg (by decide), show (1 : Int32) = nI 1 from rfl, show (3 : Int32) = nI 3 from rfl, g1, bd, if_neg (by decide), s1, bd]
        rw [r2.1.2.1, r2.1.2.2.1, lit32, nI_mul, nI_add]
      · unfold m_X12_setEtAl
        rw [show (0 : Int64) = lN 0 from rfl, show (5 : Int64) = lN 5 from rfl, f2, bd, if_neg (by decide), show (1 : Int64) = lN 1 from rfl, show (3 : Int64) = lN 3 from rfl, g2, bd, if_neg (by decide), show (58 : Int32) = nI 58 from rfl, sets_ok s2 (by omega), bd, ck_lit (by decide) (by decide), ck_lit (by decide) (by decide)]
        rw [show Int32.toNatClampNeg 59 = 59 from rfl]
        dsimp only
        rw [upd_ne _ _ (by omega), r4 58 (by omega), r4 59 (by omega), lit32, nI_mul, nI_add]
      · obtain ⟨hw, ⟨⟨h57, h58, ⟨h59a, h59b⟩, h60, h61, h62, h63⟩, hs⟩, hc⟩ := ho
        refine ⟨OkW_cg (fun i hi => (upN_ne _ _ (by omega)).trans (upN_ne _ _ (by omega))) hw, ⟨⟨?_, ?_, ⟨?_, ?_⟩, ?_, ?_, ?_, ?_⟩, fun j hj => ?_⟩, OkC_cg ((upN_ne _ _ (by omega)).trans (upN_ne _ _ (by omega))) (fun i h1 h2 => (upN_ne _ _ (by omega)).trans (upN_ne _ _ (by omega))) hc⟩
        · rw [upN_ne _ _ (by omega), upN_ne _ _ (by omega)]; exact h57
        · rw [upN_ne _ _ (by omega), upN_eq]; exact k2
        · rw [upN_eq]; exact d1
        · rw [upN_eq]; exact d2
        · rw [upN_ne _ _ (by omega), upN_ne _ _ (by omega)]; exact h60
        · rw [upN_ne _ _ (by omega), upN_ne _ _ (by omega)]; exact h61
        · rw [upN_ne _ _ (by omega), upN_ne _ _ (by omega)]; exact h62
        · rw [upN_ne _ _ (by omega), upN_ne _ _ (by omega)]; exact h63
        · rw [upN_ne _ _ (by omega), upN_ne _ _ (by omega), upN_ne _ _ (by omega), upN_ne _ _ (by omega)]; exact hs j hj
      · exact RW_cg (fun i hi => (upN_ne _ _ (by omega)).trans (upN_ne _ _ (by omega))) ho.1 r1
      · obtain ⟨⟨r57, r58, r59, r60, r61, r62, r63⟩, rs⟩ := r2
        refine ⟨⟨?_, ?_, ?_, ?_, ?_, ?_, ?_⟩, fun j hj => ?_⟩
        · rw [upN_ne _ _ (by omega), upN_ne _ _ (by omega)]; exact r57
        · rw [upN_ne _ _ (by omega), upN_eq]
        · rw [upN_eq]
        · rw [upN_ne _ _ (by omega), upN_ne _ _ (by omega)]; exact r60
        · rw [upN_ne _ _ (by omega), upN_ne _ _ (by omega)]; exact r61
        · rw [upN_ne _ _ (by omega), upN_ne _ _ (by omega)]; exact r62
        · rw [upN_ne _ _ (by omega), upN_ne _ _ (by omega)]; exact r63
        · rw [upN_ne _ _ (by omega), upN_ne _ _ (by omega), upN_ne _ _ (by omega), upN_ne _ _ (by omega)]; exact rs j hj
      · exact RT_cg (fun i h1 h2 => (upN_ne _ _ (by omega)).trans (upN_ne _ _ (by omega))) ho.2.2 r3
    · refine out ?_ ?_
      · unfold m_X11_setEtAl m_X11_setEtAl_J18
        rw [show (0 : Int32) = nI 0 from rfl, show (5 : Int32) = nI 5 from rfl, f1, bd, if_neg (by decide), show (1 : Int32) = nI 1 from rfl, show (3 : Int32) = nI 3 from rfl, g1, bd, if_pos (by rfl)]
      · unfold m_X12_setEtAl m_X12_setEtAl_J24
        rw [show (0 : Int64) = lN 0 from rfl, show (5 : Int64) = lN 5 from rfl, f2, bd, if_neg (by decide), show (1 : Int64) = lN 1 from rfl, show (3 : Int64) = lN 3 from rfl, g2, bd, if_pos (by rfl)]
  · refine out ?_ ?_
    · unfold m_X11_setEtAl m_X11_setEtAl_J18
      rw [show (0 : Int32) = nI 0 from rfl, show (5 : Int32) = nI 5 from rfl, f1, bd, if_pos (by rfl)]
    · unfold m_X12_setEtAl m_X12_setEtAl_J24
      rw [show (0 : Int64) = lN 0 from rfl, show (5 : Int64) = lN 5 from rfl, f2, bd, if_pos (by rfl)]
theorem step10 : Step_10 Rel0 := by
  intro T_co T_n W_n W_ac W_fa W_in W_yr W_ti S_st S_mi S_fi S_sp S_cl S_nu S_co S_ke S_di C_n C_sz C_cd Y_n Y_nx M_s M_ke M_km M_te M_n Q_rv x1 x2 x3 hR
  obtain ⟨ht, ⟨a, ho, r1, r2, r3, r4⟩, h5⟩ := hR
  have out : ∀ (e1 : m_X11_setSortSlot W_n W_ac W_fa W_in W_yr W_ti S_st S_mi S_fi S_sp S_cl S_nu S_co S_ke S_di C_n C_sz C_cd Y_n Y_nx Q_rv x1 x2 x3 = some ((-1), S_ke, S_di, Y_n, Y_nx, Q_rv)) (e2 : m_X12_setSortSlot M_s M_ke M_km x1 x2 x3 = some ((-1), M_s, M_ke, M_km)), ∃ (o : Int32 × (Nat → Int32) × (Nat → Int32) × Int32 × Int32 × (Nat → StV)) (o2 : Int32 × (Nat → Int32) × (Nat → Int32) × Int32), m_X11_setSortSlot W_n W_ac W_fa W_in W_yr W_ti S_st S_mi S_fi S_sp S_cl S_nu S_co S_ke S_di C_n C_sz C_cd Y_n Y_nx Q_rv x1 x2 x3 = some o ∧ m_X12_setSortSlot M_s M_ke M_km x1 x2 x3 = some o2 ∧ o.1 = o2.1 ∧ Rel0 T_co T_n W_n W_ac W_fa W_in W_yr W_ti S_st S_mi S_fi S_sp S_cl S_nu S_co o.2.1 o.2.2.1 C_n C_sz C_cd o.2.2.2.1 o.2.2.2.2.1 o.2.2.2.2.2 o2.2.1 o2.2.2.1 o2.2.2.2 M_te M_n :=
    fun e1 e2 => ⟨_, _, e1, e2, rfl, ht, ⟨a, ho, r1, r2, r3, r4⟩, h5⟩
  have z0 : (0 : Int32) = nI 0 := rfl
  have y0 : (0 : Int64) = lN 0 := rfl
  rcases rng x1 0 2 (by omega) (by omega) with ⟨s, s1', s2', rfl, f1, f2⟩ | ⟨f1, f2⟩
  · rcases rng x2 0 3 (by omega) (by omega) with ⟨k, k1, k2, rfl, g1, g2⟩ | ⟨g1, g2⟩
    · rcases rng x3 0 1 (by omega) (by omega) with ⟨d, d1, d2, rfl, j1, j2⟩ | ⟨j1, j2⟩
      · obtain ⟨o1, o2, s1, s2, s3⟩ := save_ok ho r1 r2 r3 r4 h5
        refine ⟨(nI (2 * a (64 + 2 * s) + a (65 + 2 * s)), upd S_ke s (nI k), upd S_di s (nI d), o1.1, o1.2.1, o1.2.2), (nI (2 * a (64 + 2 * s) + a (65 + 2 * s)), upd (upd M_s (64 + 2 * s) (nI k)) (65 + 2 * s) (nI d), o2.1, o2.2), ?_, ?_, rfl, ht, ⟨upN (upN a (64 + 2 * s) k) (65 + 2 * s) d, ?_, ?_, ?_, ?_, RM_up (RM_up r4)⟩, s3⟩
        · unfold m_X11_setSortSlot
          rw [z0, show (2 : Int32) = nI 2 from rfl, f1, bd, if_neg (by decide), show (3 : Int32) = nI 3 from rfl, g1, bd, if_neg (by decide), show (1 : Int32) = nI 1 from rfl, j1, bd, if_neg (by decide), s1, bd]
          simp (disch := omega) only [ck_nI, tn_nI]
          rw [(r2.2 s (by omega)).1, (r2.2 s (by omega)).2, nI_mul, nI_add]
        · unfold m_X12_setSortSlot
          rw [y0, show (2 : Int64) = lN 2 from rfl, f2, bd, if_neg (by decide), show (3 : Int64) = lN 3 from rfl, g2, bd, if_neg (by decide), show (1 : Int64) = lN 1 from rfl, j2, bd, if_neg (by decide)]
          simp (disch := omega) only [lit32, nI_mul, nI_add]
          rw [sets_ok s2 (by omega), bd]
          simp (disch := omega) only [ck_nI, tn_nI]
          rw [show 64 + 2 * s + 1 = 65 + 2 * s by omega, upd_ne _ _ (by omega), r4 (64 + 2 * s) (by omega), r4 (65 + 2 * s) (by omega), nI_mul, nI_add]
        · exact ⟨OkW_cg (fun i hi => (upN_ne _ _ (by omega)).trans (upN_ne _ _ (by omega))) ho.1, OkE_up2 (by omega) k2 d2 ho.2.1, OkC_cg ((upN_ne _ _ (by omega)).trans (upN_ne _ _ (by omega))) (fun i h1 h2 => (upN_ne _ _ (by omega)).trans (upN_ne _ _ (by omega))) ho.2.2⟩
        · exact RW_cg (fun i hi => (upN_ne _ _ (by omega)).trans (upN_ne _ _ (by omega))) ho.1 r1
        · obtain ⟨⟨r57, r58, r59, r60, r61, r62, r63⟩, rs⟩ := r2
          refine ⟨⟨?_, ?_, ?_, ?_, ?_, ?_, ?_⟩, fun j hj => ?_⟩
          · rw [upN_ne _ _ (by omega), upN_ne _ _ (by omega)]; exact r57
          · rw [upN_ne _ _ (by omega), upN_ne _ _ (by omega)]; exact r58
          · rw [upN_ne _ _ (by omega), upN_ne _ _ (by omega)]; exact r59
          · rw [upN_ne _ _ (by omega), upN_ne _ _ (by omega)]; exact r60
          · rw [upN_ne _ _ (by omega), upN_ne _ _ (by omega)]; exact r61
          · rw [upN_ne _ _ (by omega), upN_ne _ _ (by omega)]; exact r62
          · rw [upN_ne _ _ (by omega), upN_ne _ _ (by omega)]; exact r63
          · by_cases e : j = s
            · subst e
              dsimp only
              rw [upd_eq, upd_eq, upN_ne _ _ (by omega), upN_eq, upN_eq]
              exact ⟨rfl, rfl⟩
            · dsimp only
              rw [upd_ne _ _ e, upd_ne _ _ e, upN_ne _ _ (by omega), upN_ne _ _ (by omega), upN_ne _ _ (by omega), upN_ne _ _ (by omega)]
              exact rs j hj
        · exact RT_cg (fun i h1 h2 => (upN_ne _ _ (by omega)).trans (upN_ne _ _ (by omega))) ho.2.2 r3
      · refine out ?_ ?_
        · unfold m_X11_setSortSlot m_X11_setSortSlot_J27
          rw [z0, show (2 : Int32) = nI 2 from rfl, f1, bd, if_neg (by decide), show (3 : Int32) = nI 3 from rfl, g1, bd, if_neg (by decide), show (1 : Int32) = nI 1 from rfl, j1, bd, if_pos (by rfl)]
        · unfold m_X12_setSortSlot m_X12_setSortSlot_J34
          rw [y0, show (2 : Int64) = lN 2 from rfl, f2, bd, if_neg (by decide), show (3 : Int64) = lN 3 from rfl, g2, bd, if_neg (by decide), show (1 : Int64) = lN 1 from rfl, j2, bd, if_pos (by rfl)]
    · refine out ?_ ?_
      · unfold m_X11_setSortSlot m_X11_setSortSlot_J27
        rw [z0, show (2 : Int32) = nI 2 from rfl, f1, bd, if_neg (by decide), show (3 : Int32) = nI 3 from rfl, g1, bd, if_pos (by rfl)]
      · unfold m_X12_setSortSlot m_X12_setSortSlot_J34
        rw [y0, show (2 : Int64) = lN 2 from rfl, f2, bd, if_neg (by decide), show (3 : Int64) = lN 3 from rfl, g2, bd, if_pos (by rfl)]
  · refine out ?_ ?_
    · unfold m_X11_setSortSlot m_X11_setSortSlot_J27
      rw [z0, show (2 : Int32) = nI 2 from rfl, f1, bd, if_pos (by rfl)]
    · unfold m_X12_setSortSlot m_X12_setSortSlot_J34
      rw [y0, show (2 : Int64) = lN 2 from rfl, f2, bd, if_pos (by rfl)]
theorem step5 : Step_5 Rel0 := by
  intro T_co T_n W_n W_ac W_fa W_in W_yr W_ti S_st S_mi S_fi S_sp S_cl S_nu S_co S_ke S_di C_n C_sz C_cd Y_n Y_nx M_s M_ke M_km M_te M_n Q_rv x1 x2 hR
  obtain ⟨ht, ⟨a, ho, r1, r2, r3, r4⟩, h5⟩ := hR
  have h8 := ho.1.1
  have out : ∀ (e1 : m_X11_setYear W_n W_ac W_fa W_in W_yr W_ti S_st S_mi S_fi S_sp S_cl S_nu S_co S_ke S_di C_n C_sz C_cd Y_n Y_nx Q_rv x1 x2 = some ((-1), W_yr, Y_n, Y_nx, Q_rv)) (e2 : m_X12_setYear M_s M_ke M_km x1 x2 = some ((-1), M_s, M_ke, M_km)), ∃ (o : Int32 × (Nat → Int32) × Int32 × Int32 × (Nat → StV)) (o2 : Int32 × (Nat → Int32) × (Nat → Int32) × Int32), m_X11_setYear W_n W_ac W_fa W_in W_yr W_ti S_st S_mi S_fi S_sp S_cl S_nu S_co S_ke S_di C_n C_sz C_cd Y_n Y_nx Q_rv x1 x2 = some o ∧ m_X12_setYear M_s M_ke M_km x1 x2 = some o2 ∧ o.1 = o2.1 ∧ Rel0 T_co T_n W_n W_ac W_fa W_in o.2.1 W_ti S_st S_mi S_fi S_sp S_cl S_nu S_co S_ke S_di C_n C_sz C_cd o.2.2.1 o.2.2.2.1 o.2.2.2.2 o2.2.1 o2.2.2.1 o2.2.2.2 M_te M_n :=
    fun e1 e2 => ⟨_, _, e1, e2, rfl, ht, ⟨a, ho, r1, r2, r3, r4⟩, h5⟩
  rcases hasW x1 ho.1.1 (r4 0 (by omega)) with ⟨k, k1, rfl, f1, f2⟩ | ⟨f1, f2⟩
  · rcases rng x2 0 99 (by omega) (by omega) with ⟨d, d1, d2, rfl, g1, g2⟩ | ⟨g1, g2⟩
    · obtain ⟨o1, o2, s1, s2, s3⟩ := save_ok ho r1 r2 r3 r4 h5
      refine ⟨(nI (a (6 + 7 * k)), upd W_yr k (nI d), o1.1, o1.2.1, o1.2.2), (nI (a (6 + 7 * k)), upd M_s (6 + 7 * k) (nI d), o2.1, o2.2), ?_, ?_, rfl, ht, ⟨upN a (6 + 7 * k) d, ?_, ?_, ?_, ?_, RM_up r4⟩, s3⟩
      · unfold m_X11_setYear
        rw [show m_X9_has W_n (nI k) = some 1 by rw [r1.1]; exact f1, bd, if_neg (by decide), show (0 : Int32) = nI 0 from rfl, show (99 : Int32) = nI 99 from rfl, g1, bd, if_neg (by decide), s1, bd]
        simp (disch := omega) only [ck_nI, tn_nI]
        rw [(r1.2 k k1).2.2.1]
      · unfold m_X12_setYear
        rw [f2, bd, if_neg (by decide), show (0 : Int64) = lN 0 from rfl, show (99 : Int64) = lN 99 from rfl, g2, bd, if_neg (by decide)]
        simp (disch := omega) only [lit32, nI_mul, nI_add]
        rw [sets_ok s2 (by omega), bd, show 1 + 7 * k + 5 = 6 + 7 * k by omega, r4 _ (by omega)]
      · refine ⟨⟨by rw [upN_ne _ _ (by omega)]; exact h8, fun w hw => ?_⟩, ?_, OkC_cg (upN_ne _ _ (by omega)) (fun i h1 h2 => upN_ne _ _ (by omega)) ho.2.2⟩
        · rw [upN_ne _ _ (by omega)] at hw
          obtain ⟨q1, q2, q3, q4⟩ := ho.1.2 w hw
          rw [upN_ne _ _ (show 1 + 7 * w ≠ 6 + 7 * k by omega), upN_ne _ _ (show 7 + 7 * w ≠ 6 + 7 * k by omega)]
          refine ⟨q1, fun z hz => by rw [upN_ne _ _ (by omega)]; exact q2 z hz, ?_, q4⟩
          by_cases e : w = k
          · subst e; rw [upN_eq]; exact d2
          · rw [upN_ne _ _ (by omega)]; exact q3
        · obtain ⟨⟨h57, h58, ⟨h59a, h59b⟩, h60, h61, h62, h63⟩, hs⟩ := ho.2.1
          refine ⟨⟨?_, ?_, ⟨?_, ?_⟩, ?_, ?_, ?_, ?_⟩, fun j hj => ?_⟩
          all_goals first | (rw [upN_ne _ _ (by omega)]; assumption) | skip
          rw [upN_ne _ _ (by omega), upN_ne _ _ (by omega)]
          exact hs j hj
      · refine ⟨by rw [upN_ne _ _ (by omega)]; exact r1.1, fun w hw => ?_⟩
        rw [upN_ne _ _ (by omega)] at hw
        obtain ⟨q1, q2, q3, q4⟩ := ho.1.2 w hw
        obtain ⟨p1, p2, p3, p4⟩ := r1.2 w hw
        rw [upN_ne _ _ (show 1 + 7 * w ≠ 6 + 7 * k by omega), upN_ne _ _ (show 7 + 7 * w ≠ 6 + 7 * k by omega)]
        refine ⟨p1, fun z hz => by rw [upN_ne _ _ (by omega)]; exact p2 z hz, ?_, p4⟩
        dsimp only
        by_cases e : w = k
        · subst e; rw [upd_eq, upN_eq]
        · rw [upd_ne _ _ e, upN_ne _ _ (by omega)]; exact p3
      · obtain ⟨⟨r57, r58, r59, r60, r61, r62, r63⟩, rs⟩ := r2
        refine ⟨⟨?_, ?_, ?_, ?_, ?_, ?_, ?_⟩, fun j hj => ?_⟩
        all_goals first | (rw [upN_ne _ _ (by omega)]; assumption) | skip
        rw [upN_ne _ _ (by omega), upN_ne _ _ (by omega)]
        exact rs j hj
      · exact RT_cg (fun i h1 h2 => upN_ne _ _ (by omega)) ho.2.2 r3
    · refine out ?_ ?_
      · unfold m_X11_setYear m_X11_setYear_J21
        rw [r1.1, f1, bd, if_neg (by decide), show (0 : Int32) = nI 0 from rfl, show (99 : Int32) = nI 99 from rfl, g1, bd, if_pos (by rfl)]
      · unfold m_X12_setYear m_X12_setYear_J20
        rw [f2, bd, if_neg (by decide), show (0 : Int64) = lN 0 from rfl, show (99 : Int64) = lN 99 from rfl, g2, bd, if_pos (by rfl)]
  · refine out ?_ ?_
    · unfold m_X11_setYear m_X11_setYear_J21
      rw [r1.1, f1, bd, if_pos (by rfl)]
    · unfold m_X12_setYear m_X12_setYear_J20
      rw [f2, bd, if_pos (by rfl)]
