/-! ===== what is asked of the labels ===== -/
theorem bt_m1 : ∀ i, i < 32 → bt (-1) i = true := by decide
theorem bt_xor (x y : Int32) (i : Nat) : bt (x ^^^ y) i = (bt x i ^^ bt y i) := by unfold bt; rw [Int32.toBitVec_xor, BitVec.getLsbD_xor]
theorem ambM_ok {s : Nat → Int32} {a sh ini sx : Nat → Nat} (ho : OkW a) (r4 : RM s a) {M_sh M_in M_su : Nat → Int32} (hM : LbM a sh ini sx M_sh M_in M_su) (hO : LbO a sh ini sx) {x : Nat} (hx : x < a 0) : OkS (it (m_X12_ambiguousWith_B18 (nI x) s M_sh M_in M_su) fu (0, 0)) (fun r => ∀ j, j < 32 → bt r j = (decide (j < a 0) && (decide (j ≠ x) && lab a sh ini sx j x))) := by
  have h8 := ho.1
  refine ok_for (fun i st => st.2 = nI i ∧ ∀ j, j < 32 → bt st.1 j = (decide (j < i) && (decide (j ≠ x) && lab a sh ini sx j x))) (a 0) ⟨rfl, fun j hj => by rw [bt_0, decide_eq_false (by omega)]; rfl⟩ ?_ ?_ (by omega)
  · rintro i ⟨s1, s2⟩ hi ⟨e1, e2⟩
    dsimp only at e1 e2
    subst e1
    have no : (decide (i ≠ x) && lab a sh ini sx i x) = false → ∀ j, j < 32 → bt s1 j = (decide (j < i + 1) && (decide (j ≠ x) && lab a sh ini sx j x)) := by
      intro hl j hj
      rw [e2 j hj]
      by_cases e : j = i
      · subst e; rw [hl, Bool.and_false, Bool.and_false]
      · rw [decide_eq_decide.mpr (show j < i ↔ j < i + 1 by omega)]
    have or0 : s1 ||| 0 = s1 := bt_ext (fun i hi => by rw [bt_or, bt_0, Bool.or_false])
    unfold m_X12_ambiguousWith_B18 m_X12_ambiguousWith_J49 m_X12_ambiguousWith_J50
    rw [ck_lit (by decide) (by decide), show Int32.toNatClampNeg 0 = 0 from rfl, r4 0 (by omega)]
    dsimp only
    rw [if_neg (by rw [nI_le_iff (by omega) (by omega)]; omega), labelM_ok ho r4 hM hO hi hx, bd, nI_s, or0]
    by_cases c : i = x
    · rw [if_pos (by rw [c])]
      exact ok_l ⟨rfl, no (by rw [decide_eq_false (fun h => h c), Bool.false_and])⟩
    · rw [if_neg (by rw [nI_eq_iff (by omega) (by omega)]; exact c)]
      cases hl : lab a sh ini sx i x
      · rw [if_pos (by decide)]
        exact ok_l ⟨rfl, no (by rw [hl, Bool.and_false])⟩
      · rw [if_neg (by decide)]
        refine ok_l ⟨rfl, fun j hj => ?_⟩
        dsimp only
        rw [bt_or, e2 j hj, bt_one i (by omega) j hj]
        by_cases e : j = i
        · subst e
          rw [hl, decide_eq_true rfl, decide_eq_true c, decide_eq_true (show j < j + 1 by omega), Bool.or_true]
          rfl
        · rw [decide_eq_false e, Bool.or_false, decide_eq_decide.mpr (show j < i ↔ j < i + 1 by omega)]
  · rintro ⟨s1, s2⟩ ⟨e1, e2⟩
    dsimp only at e1 e2
    subst e1
    unfold m_X12_ambiguousWith_B18
    rw [ck_lit (by decide) (by decide), show Int32.toNatClampNeg 0 = 0 from rfl, r4 0 (by omega)]
    dsimp only
    rw [if_pos (by rw [nI_le_iff (by omega) (by omega)]; omega)]
    exact ok_r e2
theorem step23 : Step_23 Rel0 := by
  intro T_co T_n W_n W_ac W_fa W_in W_yr W_ti S_st S_mi S_fi S_sp S_cl S_nu S_co S_ke S_di C_n C_sz C_cd Y_n Y_nx A_or A_nu A_li L_sh L_wi L_su L_nk L_gr M_s M_ke M_km M_te M_n M_bo M_bn M_sh M_in M_su M_gr M_tr Q_rv x1 hR
  have hR' := hR
  obtain ⟨ht, ⟨a, ho, r1, r2, r3, r4⟩, h5⟩ := hR
  have h8 := ho.1.1
  unfold m_X11_shownAuthors m_X12_shownAuthors
  rcases hasW x1 h8 (r4 0 (by omega)) with ⟨w, hw, k2, f1, f2⟩ | ⟨f1, f2⟩
  · subst k2
    obtain ⟨u, v, g1, g2, nm, sh, ini, sx, hA, hC, hM, hO⟩ := labels2 ho r1 r2 r3 r4 A_or A_nu A_li L_sh L_wi L_su L_nk L_gr M_bo M_bn M_sh M_in M_su M_gr M_tr
    rw [show m_X9_has W_n (nI w) = some 1 by rw [r1.1]; exact f1, f2, bd, bd, if_neg (by decide), if_neg (by decide), g1, g2, bd, bd, ck_nI (by omega) (by omega), ck_nI (by omega) (by omega), tn_nI (by omega)]
    exact ⟨_, _, rfl, rfl, by dsimp only; rw [(hC w hw).1, (hM w hw).1], hR'⟩
  · rw [show m_X9_has W_n x1 = some 0 by rw [r1.1]; exact f1, f2, bd, bd, if_pos rfl, if_pos rfl]
    exact ⟨_, _, rfl, rfl, rfl, hR'⟩
theorem step24 : Step_24 Rel0 := by
  intro T_co T_n W_n W_ac W_fa W_in W_yr W_ti S_st S_mi S_fi S_sp S_cl S_nu S_co S_ke S_di C_n C_sz C_cd Y_n Y_nx A_or A_nu A_li L_sh L_wi L_su L_nk L_gr M_s M_ke M_km M_te M_n M_bo M_bn M_sh M_in M_su M_gr M_tr Q_rv x1 hR
  have hR' := hR
  obtain ⟨ht, ⟨a, ho, r1, r2, r3, r4⟩, h5⟩ := hR
  have h8 := ho.1.1
  unfold m_X11_showsInitials m_X12_showsInitials m_X11_showsInitials_J37 m_X12_showsInitials_J28
  rcases hasW x1 h8 (r4 0 (by omega)) with ⟨w, hw, k2, f1, f2⟩ | ⟨f1, f2⟩
  · subst k2
    obtain ⟨u, v, g1, g2, nm, sh, ini, sx, hA, hC, hM, hO⟩ := labels2 ho r1 r2 r3 r4 A_or A_nu A_li L_sh L_wi L_su L_nk L_gr M_bo M_bn M_sh M_in M_su M_gr M_tr
    rw [show m_X9_has W_n (nI w) = some 1 by rw [r1.1]; exact f1, f2, bd, bd, if_neg (by decide), if_neg (by decide), g1, g2, bd, bd, ck_nI (by omega) (by omega), ck_nI (by omega) (by omega), tn_nI (by omega), (hC w hw).2.1, (hM w hw).2.1]
    by_cases c : nI (ini w) = 0
    · rw [if_pos c, if_pos c]
      exact ⟨_, _, rfl, rfl, rfl, hR'⟩
    · rw [if_neg c, if_neg c]
      exact ⟨_, _, rfl, rfl, rfl, hR'⟩
  · rw [show m_X9_has W_n x1 = some 0 by rw [r1.1]; exact f1, f2, bd, bd, if_pos rfl, if_pos rfl]
    exact ⟨_, _, rfl, rfl, rfl, hR'⟩
theorem step25 : Step_25 Rel0 := by
  intro T_co T_n W_n W_ac W_fa W_in W_yr W_ti S_st S_mi S_fi S_sp S_cl S_nu S_co S_ke S_di C_n C_sz C_cd Y_n Y_nx A_or A_nu A_li L_sh L_wi L_su L_nk L_gr M_s M_ke M_km M_te M_n M_bo M_bn M_sh M_in M_su M_gr M_tr Q_rv x1 hR
  have hR' := hR
  obtain ⟨ht, ⟨a, ho, r1, r2, r3, r4⟩, h5⟩ := hR
  have h8 := ho.1.1
  unfold m_X11_suffixOf m_X12_suffixOf m_X11_suffixOf_J46
  rcases hasW x1 h8 (r4 0 (by omega)) with ⟨w, hw, k2, f1, f2⟩ | ⟨f1, f2⟩
  · subst k2
    obtain ⟨u, v, g1, g2, nm, sh, ini, sx, hA, hC, hM, hO⟩ := labels2 ho r1 r2 r3 r4 A_or A_nu A_li L_sh L_wi L_su L_nk L_gr M_bo M_bn M_sh M_in M_su M_gr M_tr
    have hs := (hO w hw).2.2
    rw [show m_X9_has W_n (nI w) = some 1 by rw [r1.1]; exact f1, f2, bd, bd, if_neg (by decide), if_neg (by decide), g1, g2, bd, bd, ck_nI (by omega) (by omega), ck_nI (by omega) (by omega), ck_nI (by omega) (by omega), tn_nI (by omega), (hC w hw).2.2.1, (hM w hw).2.2]
    by_cases c : sx w = 0
    · rw [if_pos (by rw [c]; rfl), if_pos c]
      exact ⟨_, _, rfl, rfl, rfl, hR'⟩
    · rw [if_neg (by rw [show (0 : Int32) = nI 0 from rfl, nI_eq_iff (by omega) (by omega)]; exact c), if_neg c]
      exact ⟨_, _, rfl, rfl, rfl, hR'⟩
  · rw [show m_X9_has W_n x1 = some 0 by rw [r1.1]; exact f1, f2, bd, bd, if_pos rfl, if_pos rfl]
    exact ⟨_, _, rfl, rfl, rfl, hR'⟩
theorem step26 : Step_26 Rel0 := by
  intro T_co T_n W_n W_ac W_fa W_in W_yr W_ti S_st S_mi S_fi S_sp S_cl S_nu S_co S_ke S_di C_n C_sz C_cd Y_n Y_nx A_or A_nu A_li L_sh L_wi L_su L_nk L_gr M_s M_ke M_km M_te M_n M_bo M_bn M_sh M_in M_su M_gr M_tr Q_rv x1 hR
  have hR' := hR
  obtain ⟨ht, ⟨a, ho, r1, r2, r3, r4⟩, h5⟩ := hR
  have h8 := ho.1.1
  unfold m_X11_ambiguousWith m_X12_ambiguousWith
  rcases hasW x1 h8 (r4 0 (by omega)) with ⟨w, hw, k2, f1, f2⟩ | ⟨f1, f2⟩
  · subst k2
    obtain ⟨u, v, g1, g2, nm, sh, ini, sx, hA, hC, hM, hO⟩ := labels2 ho r1 r2 r3 r4 A_or A_nu A_li L_sh L_wi L_su L_nk L_gr M_bo M_bn M_sh M_in M_su M_gr M_tr
    obtain ⟨y, y1, y2⟩ := likeC_ok ho.1 r1 hC hO hw
    obtain ⟨z, z1, z2⟩ := ambM_ok ho.1 r4 hM hO hw
    have e : (y &&& ((1 <<< (nI w &&& 31)) ^^^ (-1))) = z := by
      apply bt_ext
      intro i hi
      rw [z2 i hi, bt_and, bt_xor, bt_m1 i hi, bt_one w (by omega) i hi, y2 i hi, lab_sym]
      by_cases c : i = w
      · subst c
        simp
      · simp [c]
    rw [show m_X9_has W_n (nI w) = some 1 by rw [r1.1]; exact f1, f2, bd, bd, if_neg (by decide), if_neg (by decide), g1, g2, bd, bd, y1, bd, z1, bd, e]
    exact ⟨_, _, rfl, rfl, rfl, hR'⟩
  · rw [show m_X9_has W_n x1 = some 0 by rw [r1.1]; exact f1, f2, bd, bd, if_pos rfl, if_pos rfl]
    exact ⟨_, _, rfl, rfl, rfl, hR'⟩
