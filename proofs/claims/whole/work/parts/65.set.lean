/-! ===== a number changed ===== -/
def upN (a : Nat → Nat) (k v : Nat) : Nat → Nat := fun j => if j = k then v else a j
theorem upN_eq (a : Nat → Nat) (k v : Nat) : upN a k v k = v := by simp [upN]
theorem upN_ne (a : Nat → Nat) {k j : Nat} (v : Nat) (h : j ≠ k) : upN a k v j = a j := by simp [upN, h]
theorem OkW_cg {a b : Nat → Nat} (h : ∀ i, i < 57 → b i = a i) (ho : OkW a) : OkW b := by
  refine ⟨by rw [h 0 (by omega)]; exact ho.1, fun w hw => ?_⟩
  rw [h 0 (by omega)] at hw
  have h8 := ho.1
  obtain ⟨g1, g2, g3, g4⟩ := ho.2 w hw
  rw [h (1 + 7 * w) (by omega), h (6 + 7 * w) (by omega), h (7 + 7 * w) (by omega)]
  exact ⟨g1, fun k hk => by rw [h (2 + 7 * w + k) (by omega)]; exact g2 k hk, g3, g4⟩
theorem RW_cg {a b : Nat → Nat} {W_n : Int32} {ac fa ini yr ti : Nat → Int32} (h : ∀ i, i < 57 → b i = a i) (ho : OkW a) (hr : RW W_n ac fa ini yr ti a) : RW W_n ac fa ini yr ti b := by
  refine ⟨by rw [h 0 (by omega)]; exact hr.1, fun w hw => ?_⟩
  rw [h 0 (by omega)] at hw
  have h8 := ho.1
  obtain ⟨g1, g2, g3, g4⟩ := ho.2 w hw
  obtain ⟨r1, r2, r3, r4⟩ := hr.2 w hw
  rw [h (1 + 7 * w) (by omega), h (6 + 7 * w) (by omega), h (7 + 7 * w) (by omega)]
  exact ⟨r1, fun k hk => by rw [h (2 + 7 * w + k) (by omega)]; exact r2 k hk, r3, r4⟩
theorem OkC_cg {a b : Nat → Nat} (h0 : b 0 = a 0) (h : ∀ i, 70 ≤ i → i < 131 → b i = a i) (ho : OkC a) : OkC b := by
  refine ⟨by rw [h 70 (by omega) (by omega)]; exact ho.1, fun c hc => ?_⟩
  rw [h 70 (by omega) (by omega)] at hc
  have h8 := ho.1
  obtain ⟨g1, g2, g3⟩ := ho.2 c hc
  rw [h (71 + 6 * c) (by omega) (by omega), h0]
  refine ⟨g1, fun k hk => by rw [h (72 + 6 * c + k) (by omega) (by omega)]; exact g2 k hk, fun k l hk hl => ?_⟩
  rw [h (72 + 6 * c + k) (by omega) (by omega), h (72 + 6 * c + l) (by omega) (by omega)]
  exact g3 k l hk hl
theorem RT_cg {a b : Nat → Nat} {C_n : Int32} {sz cd : Nat → Int32} (h : ∀ i, 70 ≤ i → i < 131 → b i = a i) (ho : OkC a) (hr : RT C_n sz cd a) : RT C_n sz cd b := by
  refine ⟨by rw [h 70 (by omega) (by omega)]; exact hr.1, fun c hc => ?_⟩
  rw [h 70 (by omega) (by omega)] at hc
  have h8 := ho.1
  obtain ⟨g1, g2, g3⟩ := ho.2 c hc
  obtain ⟨r1, r2⟩ := hr.2 c hc
  rw [h (71 + 6 * c) (by omega) (by omega)]
  exact ⟨r1, fun k hk => by rw [h (72 + 6 * c + k) (by omega) (by omega)]; exact r2 k hk⟩
theorem RM_up {s : Nat → Int32} {a : Nat → Nat} {k v : Nat} (h : RM s a) : RM (upd s k (nI v)) (upN a k v) := by
  intro j hj
  by_cases e : j = k
  · subst e
    rw [upd_eq, upN_eq]
  · rw [upd_ne _ _ e, upN_ne _ _ e]
    exact h j hj
theorem sets_ok {M_s M_ke : Nat → Int32} {M_km : Int32} {o2 : (Nat → Int32) × Int32} (h : m_X12_keeps M_s M_ke M_km = some o2) {k : Nat} (hk : k < 131) (v : Int32) : m_X12_sets M_s M_ke M_km (nI k) v = some (M_s k, upd M_s k v, o2.1, o2.2) := by
  unfold m_X12_sets
  rw [h, bd]
  simp (disch := omega) only [ck_nI, tn_nI]

theorem step6 : Step_6 Rel0 := by
  intro T_co T_n W_n W_ac W_fa W_in W_yr W_ti S_st S_mi S_fi S_sp S_cl S_nu S_co S_ke S_di C_n C_sz C_cd Y_n Y_nx M_s M_ke M_km M_te M_n Q_rv x1 hR
  obtain ⟨ht, ⟨a, ho, r1, r2, r3, r4⟩, h5⟩ := hR
  rcases rng x1 0 2 (by omega) (by omega) with ⟨k, k1, k2, rfl, f1, f2⟩ | ⟨f1, f2⟩
  · obtain ⟨o1, o2, s1, s2, s3⟩ := save_ok ho r1 r2 r3 r4 h5
    refine ⟨(S_st, nI k, o1.1, o1.2.1, o1.2.2), (M_s 57, upd M_s 57 (nI k), o2.1, o2.2), ?_, ?_, ?_, ht, ⟨upN a 57 k, ?_, ?_, ?_, ?_, RM_up r4⟩, s3⟩
    · unfold m_X11_setStyle
      rw [show (0 : Int32) = nI 0 from rfl, show (2 : Int32) = nI 2 from rfl, f1, bd, if_neg (by decide), s1, bd]
    · unfold m_X12_setStyle m_X12_setStyle_J23
      rw [show (0 : Int64) = lN 0 from rfl, show (2 : Int64) = lN 2 from rfl, f2, bd, if_neg (by decide), show (57 : Int32) = nI 57 from rfl, sets_ok s2 (by omega), bd]
    · rw [r4 57 (by omega)]
      exact r2.1.1
    · obtain ⟨hw, ⟨⟨h57, h58, ⟨h59a, h59b⟩, h60, h61, h62, h63⟩, hs⟩, hc⟩ := ho
      exact ⟨OkW_cg (fun i hi => upN_ne _ _ (by omega)) hw, ⟨⟨by rw [upN_eq]; exact k2, by rw [upN_ne _ _ (by omega)]; exact h58, ⟨by rw [upN_ne _ _ (by omega)]; exact h59a, by rw [upN_ne _ _ (by omega)]; exact h59b⟩, by rw [upN_ne _ _ (by omega)]; exact h60, by rw [upN_ne _ _ (by omega)]; exact h61, by rw [upN_ne _ _ (by omega)]; exact h62, by rw [upN_ne _ _ (by omega)]; exact h63⟩, fun j hj => by rw [upN_ne _ _ (by omega), upN_ne _ _ (by omega)]; exact hs j hj⟩, OkC_cg (upN_ne _ _ (by omega)) (fun i h1 h2 => upN_ne _ _ (by omega)) hc⟩
    · exact RW_cg (fun i hi => upN_ne _ _ (by omega)) ho.1 r1
    · obtain ⟨⟨r57, r58, r59, r60, r61, r62, r63⟩, rs⟩ := r2
      exact ⟨⟨by rw [upN_eq], by rw [upN_ne _ _ (by omega)]; exact r58, by rw [upN_ne _ _ (by omega)]; exact r59, by rw [upN_ne _ _ (by omega)]; exact r60, by rw [upN_ne _ _ (by omega)]; exact r61, by rw [upN_ne _ _ (by omega)]; exact r62, by rw [upN_ne _ _ (by omega)]; exact r63⟩, fun j hj => by rw [upN_ne _ _ (by omega), upN_ne _ _ (by omega)]; exact rs j hj⟩
    · exact RT_cg (fun i h1 h2 => upN_ne _ _ (by omega)) ho.2.2 r3
  · refine ⟨((-1), S_st, Y_n, Y_nx, Q_rv), ((-1), M_s, M_ke, M_km), ?_, ?_, rfl, ht, ⟨a, ho, r1, r2, r3, r4⟩, h5⟩
    · unfold m_X11_setStyle
      rw [show (0 : Int32) = nI 0 from rfl, show (2 : Int32) = nI 2 from rfl, f1, bd, if_pos (by rfl)]
    · unfold m_X12_setStyle m_X12_setStyle_J23
      rw [show (0 : Int64) = lN 0 from rfl, show (2 : Int64) = lN 2 from rfl, f2, bd, if_pos (by rfl)]

theorem step8 : Step_8 Rel0 := by
  intro T_co T_n W_n W_ac W_fa W_in W_yr W_ti S_st S_mi S_fi S_sp S_cl S_nu S_co S_ke S_di C_n C_sz C_cd Y_n Y_nx M_s M_ke M_km M_te M_n Q_rv x1 hR
  obtain ⟨ht, ⟨a, ho, r1, r2, r3, r4⟩, h5⟩ := hR
  rcases rng x1 0 7 (by omega) (by omega) with ⟨k, k1, k2, rfl, f1, f2⟩ | ⟨f1, f2⟩
  · obtain ⟨o1, o2, s1, s2, s3⟩ := save_ok ho r1 r2 r3 r4 h5
    refine ⟨(S_sp, nI k, o1.1, o1.2.1, o1.2.2), (M_s 60, upd M_s 60 (nI k), o2.1, o2.2), ?_, ?_, ?_, ht, ⟨upN a 60 k, ?_, ?_, ?_, ?_, RM_up r4⟩, s3⟩
    · unfold m_X11_setDisambiguation
      rw [show (0 : Int32) = nI 0 from rfl, show (7 : Int32) = nI 7 from rfl, f1, bd, if_neg (by decide), s1, bd]
    · unfold m_X12_setDisambiguation m_X12_setDisambiguation_J23
      rw [show (0 : Int64) = lN 0 from rfl, show (7 : Int64) = lN 7 from rfl, f2, bd, if_neg (by decide), show (60 : Int32) = nI 60 from rfl, sets_ok s2 (by omega), bd]
    · rw [r4 60 (by omega)]
      exact r2.1.2.2.2.1
    · obtain ⟨hw, ⟨⟨h57, h58, ⟨h59a, h59b⟩, h60, h61, h62, h63⟩, hs⟩, hc⟩ := ho
      exact ⟨OkW_cg (fun i hi => upN_ne _ _ (by omega)) hw, ⟨⟨by rw [upN_ne _ _ (by omega)]; exact h57, by rw [upN_ne _ _ (by omega)]; exact h58, ⟨by rw [upN_ne _ _ (by omega)]; exact h59a, by rw [upN_ne _ _ (by omega)]; exact h59b⟩, by rw [upN_eq]; exact k2, by rw [upN_ne _ _ (by omega)]; exact h61, by rw [upN_ne _ _ (by omega)]; exact h62, by rw [upN_ne _ _ (by omega)]; exact h63⟩, fun j hj => by rw [upN_ne _ _ (by omega), upN_ne _ _ (by omega)]; exact hs j hj⟩, OkC_cg (upN_ne _ _ (by omega)) (fun i h1 h2 => upN_ne _ _ (by omega)) hc⟩
    · exact RW_cg (fun i hi => upN_ne _ _ (by omega)) ho.1 r1
    · obtain ⟨⟨r57, r58, r59, r60, r61, r62, r63⟩, rs⟩ := r2
      exact ⟨⟨by rw [upN_ne _ _ (by omega)]; exact r57, by rw [upN_ne _ _ (by omega)]; exact r58, by rw [upN_ne _ _ (by omega)]; exact r59, by rw [upN_eq], by rw [upN_ne _ _ (by omega)]; exact r61, by rw [upN_ne _ _ (by omega)]; exact r62, by rw [upN_ne _ _ (by omega)]; exact r63⟩, fun j hj => by rw [upN_ne _ _ (by omega), upN_ne _ _ (by omega)]; exact rs j hj⟩
    · exact RT_cg (fun i h1 h2 => upN_ne _ _ (by omega)) ho.2.2 r3
  · refine ⟨((-1), S_sp, Y_n, Y_nx, Q_rv), ((-1), M_s, M_ke, M_km), ?_, ?_, rfl, ht, ⟨a, ho, r1, r2, r3, r4⟩, h5⟩
    · unfold m_X11_setDisambiguation
      rw [show (0 : Int32) = nI 0 from rfl, show (7 : Int32) = nI 7 from rfl, f1, bd, if_pos (by rfl)]
    · unfold m_X12_setDisambiguation m_X12_setDisambiguation_J23
      rw [show (0 : Int64) = lN 0 from rfl, show (7 : Int64) = lN 7 from rfl, f2, bd, if_pos (by rfl)]

theorem step9 : Step_9 Rel0 := by
  intro T_co T_n W_n W_ac W_fa W_in W_yr W_ti S_st S_mi S_fi S_sp S_cl S_nu S_co S_ke S_di C_n C_sz C_cd Y_n Y_nx M_s M_ke M_km M_te M_n Q_rv x1 hR
  obtain ⟨ht, ⟨a, ho, r1, r2, r3, r4⟩, h5⟩ := hR
  rcases rng x1 0 2 (by omega) (by omega) with ⟨k, k1, k2, rfl, f1, f2⟩ | ⟨f1, f2⟩
  · obtain ⟨o1, o2, s1, s2, s3⟩ := save_ok ho r1 r2 r3 r4 h5
    refine ⟨(S_cl, nI k, o1.1, o1.2.1, o1.2.2), (M_s 61, upd M_s 61 (nI k), o2.1, o2.2), ?_, ?_, ?_, ht, ⟨upN a 61 k, ?_, ?_, ?_, ?_, RM_up r4⟩, s3⟩
    · unfold m_X11_setCollapseLevel
      rw [show (0 : Int32) = nI 0 from rfl, show (2 : Int32) = nI 2 from rfl, f1, bd, if_neg (by decide), s1, bd]
    · unfold m_X12_setCollapseLevel m_X12_setCollapseLevel_J23
      rw [show (0 : Int64) = lN 0 from rfl, show (2 : Int64) = lN 2 from rfl, f2, bd, if_neg (by decide), show (61 : Int32) = nI 61 from rfl, sets_ok s2 (by omega), bd]
    · rw [r4 61 (by omega)]
      exact r2.1.2.2.2.2.1
    · obtain ⟨hw, ⟨⟨h57, h58, ⟨h59a, h59b⟩, h60, h61, h62, h63⟩, hs⟩, hc⟩ := ho
      exact ⟨OkW_cg (fun i hi => upN_ne _ _ (by omega)) hw, ⟨⟨by rw [upN_ne _ _ (by omega)]; exact h57, by rw [upN_ne _ _ (by omega)]; exact h58, ⟨by rw [upN_ne _ _ (by omega)]; exact h59a, by rw [upN_ne _ _ (by omega)]; exact h59b⟩, by rw [upN_ne _ _ (by omega)]; exact h60, by rw [upN_eq]; exact k2, by rw [upN_ne _ _ (by omega)]; exact h62, by rw [upN_ne _ _ (by omega)]; exact h63⟩, fun j hj => by rw [upN_ne _ _ (by omega), upN_ne _ _ (by omega)]; exact hs j hj⟩, OkC_cg (upN_ne _ _ (by omega)) (fun i h1 h2 => upN_ne _ _ (by omega)) hc⟩
    · exact RW_cg (fun i hi => upN_ne _ _ (by omega)) ho.1 r1
    · obtain ⟨⟨r57, r58, r59, r60, r61, r62, r63⟩, rs⟩ := r2
      exact ⟨⟨by rw [upN_ne _ _ (by omega)]; exact r57, by rw [upN_ne _ _ (by omega)]; exact r58, by rw [upN_ne _ _ (by omega)]; exact r59, by rw [upN_ne _ _ (by omega)]; exact r60, by rw [upN_eq], by rw [upN_ne _ _ (by omega)]; exact r62, by rw [upN_ne _ _ (by omega)]; exact r63⟩, fun j hj => by rw [upN_ne _ _ (by omega), upN_ne _ _ (by omega)]; exact rs j hj⟩
    · exact RT_cg (fun i h1 h2 => upN_ne _ _ (by omega)) ho.2.2 r3
  · refine ⟨((-1), S_cl, Y_n, Y_nx, Q_rv), ((-1), M_s, M_ke, M_km), ?_, ?_, rfl, ht, ⟨a, ho, r1, r2, r3, r4⟩, h5⟩
    · unfold m_X11_setCollapseLevel
      rw [show (0 : Int32) = nI 0 from rfl, show (2 : Int32) = nI 2 from rfl, f1, bd, if_pos (by rfl)]
    · unfold m_X12_setCollapseLevel m_X12_setCollapseLevel_J23
      rw [show (0 : Int64) = lN 0 from rfl, show (2 : Int64) = lN 2 from rfl, f2, bd, if_pos (by rfl)]

theorem step11 : Step_11 Rel0 := by
  intro T_co T_n W_n W_ac W_fa W_in W_yr W_ti S_st S_mi S_fi S_sp S_cl S_nu S_co S_ke S_di C_n C_sz C_cd Y_n Y_nx M_s M_ke M_km M_te M_n Q_rv x1 hR
  obtain ⟨ht, ⟨a, ho, r1, r2, r3, r4⟩, h5⟩ := hR
  rcases rng x1 0 1 (by omega) (by omega) with ⟨k, k1, k2, rfl, f1, f2⟩ | ⟨f1, f2⟩
  · obtain ⟨o1, o2, s1, s2, s3⟩ := save_ok ho r1 r2 r3 r4 h5
    refine ⟨(S_nu, nI k, o1.1, o1.2.1, o1.2.2), (M_s 62, upd M_s 62 (nI k), o2.1, o2.2), ?_, ?_, ?_, ht, ⟨upN a 62 k, ?_, ?_, ?_, ?_, RM_up r4⟩, s3⟩
    · unfold m_X11_setNumbering
      rw [show (0 : Int32) = nI 0 from rfl, show (1 : Int32) = nI 1 from rfl, f1, bd, if_neg (by decide), s1, bd]
    · unfold m_X12_setNumbering m_X12_setNumbering_J21
      rw [show (0 : Int64) = lN 0 from rfl, show (1 : Int64) = lN 1 from rfl, f2, bd, if_neg (by decide), show (62 : Int32) = nI 62 from rfl, sets_ok s2 (by omega), bd]
    · rw [r4 62 (by omega)]
      exact r2.1.2.2.2.2.2.1
    · obtain ⟨hw, ⟨⟨h57, h58, ⟨h59a, h59b⟩, h60, h61, h62, h63⟩, hs⟩, hc⟩ := ho
      exact ⟨OkW_cg (fun i hi => upN_ne _ _ (by omega)) hw, ⟨⟨by rw [upN_ne _ _ (by omega)]; exact h57, by rw [upN_ne _ _ (by omega)]; exact h58, ⟨by rw [upN_ne _ _ (by omega)]; exact h59a, by rw [upN_ne _ _ (by omega)]; exact h59b⟩, by rw [upN_ne _ _ (by omega)]; exact h60, by rw [upN_ne _ _ (by omega)]; exact h61, by rw [upN_eq]; exact k2, by rw [upN_ne _ _ (by omega)]; exact h63⟩, fun j hj => by rw [upN_ne _ _ (by omega), upN_ne _ _ (by omega)]; exact hs j hj⟩, OkC_cg (upN_ne _ _ (by omega)) (fun i h1 h2 => upN_ne _ _ (by omega)) hc⟩
    · exact RW_cg (fun i hi => upN_ne _ _ (by omega)) ho.1 r1
    · obtain ⟨⟨r57, r58, r59, r60, r61, r62, r63⟩, rs⟩ := r2
      exact ⟨⟨by rw [upN_ne _ _ (by omega)]; exact r57, by rw [upN_ne _ _ (by omega)]; exact r58, by rw [upN_ne _ _ (by omega)]; exact r59, by rw [upN_ne _ _ (by omega)]; exact r60, by rw [upN_ne _ _ (by omega)]; exact r61, by rw [upN_eq], by rw [upN_ne _ _ (by omega)]; exact r63⟩, fun j hj => by rw [upN_ne _ _ (by omega), upN_ne _ _ (by omega)]; exact rs j hj⟩
    · exact RT_cg (fun i h1 h2 => upN_ne _ _ (by omega)) ho.2.2 r3
  · refine ⟨((-1), S_nu, Y_n, Y_nx, Q_rv), ((-1), M_s, M_ke, M_km), ?_, ?_, rfl, ht, ⟨a, ho, r1, r2, r3, r4⟩, h5⟩
    · unfold m_X11_setNumbering
      rw [show (0 : Int32) = nI 0 from rfl, show (1 : Int32) = nI 1 from rfl, f1, bd, if_pos (by rfl)]
    · unfold m_X12_setNumbering m_X12_setNumbering_J21
      rw [show (0 : Int64) = lN 0 from rfl, show (1 : Int64) = lN 1 from rfl, f2, bd, if_pos (by rfl)]

theorem step12 : Step_12 Rel0 := by
  intro T_co T_n W_n W_ac W_fa W_in W_yr W_ti S_st S_mi S_fi S_sp S_cl S_nu S_co S_ke S_di C_n C_sz C_cd Y_n Y_nx M_s M_ke M_km M_te M_n Q_rv x1 hR
  obtain ⟨ht, ⟨a, ho, r1, r2, r3, r4⟩, h5⟩ := hR
  rcases rng x1 0 1 (by omega) (by omega) with ⟨k, k1, k2, rfl, f1, f2⟩ | ⟨f1, f2⟩
  · obtain ⟨o1, o2, s1, s2, s3⟩ := save_ok ho r1 r2 r3 r4 h5
    refine ⟨(S_co, nI k, o1.1, o1.2.1, o1.2.2), (M_s 63, upd M_s 63 (nI k), o2.1, o2.2), ?_, ?_, ?_, ht, ⟨upN a 63 k, ?_, ?_, ?_, ?_, RM_up r4⟩, s3⟩
    · unfold m_X11_setCiteOrder
      rw [show (0 : Int32) = nI 0 from rfl, show (1 : Int32) = nI 1 from rfl, f1, bd, if_neg (by decide), s1, bd]
    · unfold m_X12_setCiteOrder m_X12_setCiteOrder_J21
      rw [show (0 : Int64) = lN 0 from rfl, show (1 : Int64) = lN 1 from rfl, f2, bd, if_neg (by decide), show (63 : Int32) = nI 63 from rfl, sets_ok s2 (by omega), bd]
    · rw [r4 63 (by omega)]
      exact r2.1.2.2.2.2.2.2
    · obtain ⟨hw, ⟨⟨h57, h58, ⟨h59a, h59b⟩, h60, h61, h62, h63⟩, hs⟩, hc⟩ := ho
      exact ⟨OkW_cg (fun i hi => upN_ne _ _ (by omega)) hw, ⟨⟨by rw [upN_ne _ _ (by omega)]; exact h57, by rw [upN_ne _ _ (by omega)]; exact h58, ⟨by rw [upN_ne _ _ (by omega)]; exact h59a, by rw [upN_ne _ _ (by omega)]; exact h59b⟩, by rw [upN_ne _ _ (by omega)]; exact h60, by rw [upN_ne _ _ (by omega)]; exact h61, by rw [upN_ne _ _ (by omega)]; exact h62, by rw [upN_eq]; exact k2⟩, fun j hj => by rw [upN_ne _ _ (by omega), upN_ne _ _ (by omega)]; exact hs j hj⟩, OkC_cg (upN_ne _ _ (by omega)) (fun i h1 h2 => upN_ne _ _ (by omega)) hc⟩
    · exact RW_cg (fun i hi => upN_ne _ _ (by omega)) ho.1 r1
    · obtain ⟨⟨r57, r58, r59, r60, r61, r62, r63⟩, rs⟩ := r2
      exact ⟨⟨by rw [upN_ne _ _ (by omega)]; exact r57, by rw [upN_ne _ _ (by omega)]; exact r58, by rw [upN_ne _ _ (by omega)]; exact r59, by rw [upN_ne _ _ (by omega)]; exact r60, by rw [upN_ne _ _ (by omega)]; exact r61, by rw [upN_ne _ _ (by omega)]; exact r62, by rw [upN_eq]⟩, fun j hj => by rw [upN_ne _ _ (by omega), upN_ne _ _ (by omega)]; exact rs j hj⟩
    · exact RT_cg (fun i h1 h2 => upN_ne _ _ (by omega)) ho.2.2 r3
  · refine ⟨((-1), S_co, Y_n, Y_nx, Q_rv), ((-1), M_s, M_ke, M_km), ?_, ?_, rfl, ht, ⟨a, ho, r1, r2, r3, r4⟩, h5⟩
    · unfold m_X11_setCiteOrder
      rw [show (0 : Int32) = nI 0 from rfl, show (1 : Int32) = nI 1 from rfl, f1, bd, if_pos (by rfl)]
    · unfold m_X12_setCiteOrder m_X12_setCiteOrder_J21
      rw [show (0 : Int64) = lN 0 from rfl, show (1 : Int64) = lN 1 from rfl, f2, bd, if_pos (by rfl)]
