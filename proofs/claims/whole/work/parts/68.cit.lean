/-! ===== citations: begin, add, remove ===== -/
theorem OkE_cg {a b : Nat → Nat} (h : ∀ i, 57 ≤ i → i < 70 → b i = a i) (ho : OkE a) : OkE b := by
  obtain ⟨⟨h57, h58, ⟨h59a, h59b⟩, h60, h61, h62, h63⟩, hs⟩ := ho
  refine ⟨⟨?_, ?_, ⟨?_, ?_⟩, ?_, ?_, ?_, ?_⟩, fun j hj => ?_⟩
  all_goals first | (rw [h _ (by omega) (by omega)]; assumption) | skip
  rw [h _ (by omega) (by omega), h _ (by omega) (by omega)]
  exact hs j hj
theorem RS_cg {a b : Nat → Nat} {S_st S_mi S_fi S_sp S_cl S_nu S_co : Int32} {S_ke S_di : Nat → Int32} (h : ∀ i, 57 ≤ i → i < 70 → b i = a i) (hr : RS S_st S_mi S_fi S_sp S_cl S_nu S_co S_ke S_di a) : RS S_st S_mi S_fi S_sp S_cl S_nu S_co S_ke S_di b := by
  obtain ⟨⟨r57, r58, r59, r60, r61, r62, r63⟩, rs⟩ := hr
  refine ⟨⟨?_, ?_, ?_, ?_, ?_, ?_, ?_⟩, fun j hj => ?_⟩
  all_goals first | (rw [h _ (by omega) (by omega)]; assumption) | skip
  rw [h _ (by omega) (by omega), h _ (by omega) (by omega)]
  exact rs j hj
theorem cadd_ok {sz cd : Nat → Int32} {c n : Nat} {k : Int32} (hc : c < 10) (hn : n < 5) (h : sz c = nI n) : m_X1_add sz cd (nI c) k = some (upd sz c (nI (n + 1)), upd cd (5 * c + n) k) := by
  unfold m_X1_add m_X1_add_J32
  simp (disch := omega) only [tn_nI, ck_nI, h, lit32, nI_le_iff, nI_mul, nI_add]
  rw [if_neg (by omega), Nat.mul_comm c 5]
theorem cites_ok {sz cd M_s : Nat → Int32} {C_n : Int32} {a : Nat → Nat} (ho : OkC a) (h8 : a 0 ≤ 8) (r3 : RT C_n sz cd a) (r4 : RM M_s a) {c k : Nat} (hc : c < a 70) (hk : k < 8) : (m_X1_cites sz cd (nI c) (nI k) = some 1 ∧ m_X12_doesCite M_s (nI c) (nI k) = some 1) ∨ ((∀ i, i < a (71 + 6 * c) → a (72 + 6 * c + i) ≠ k) ∧ m_X1_cites sz cd (nI c) (nI k) = some 0 ∧ m_X12_doesCite M_s (nI c) (nI k) = some 0) := by
  have h10 := ho.1
  obtain ⟨⟨g1, g2⟩, g3, g4⟩ := ho.2 c hc
  obtain ⟨q1, q2⟩ := r3.2 c hc
  have hs : M_s (71 + 6 * c) = nI (a (71 + 6 * c)) := r4 _ (by omega)
  have hcit : m_X12_cites M_s (nI c) = some (nI (a (71 + 6 * c))) := by
    unfold m_X12_cites
    simp (disch := omega) only [lit32, nI_mul, nI_add, ck_nI, tn_nI, hs]
  have hat : ∀ i, i < a (71 + 6 * c) → m_X1_workAt cd (nI c) (nI i) = some (nI (a (72 + 6 * c + i))) := by
    intro i hi
    unfold m_X1_workAt
    simp (disch := omega) only [lit32, nI_mul, nI_add, ck_nI, tn_nI]
    rw [Nat.mul_comm c 5, q2 i hi]
  have hcd : ∀ i, i < a (71 + 6 * c) → m_X12_cited M_s (nI c) (nI i) = some (nI (a (72 + 6 * c + i))) := by
    intro i hi
    unfold m_X12_cited
    simp (disch := omega) only [lit32, nI_mul, nI_add, ck_nI, tn_nI]
    rw [show 71 + 6 * c + 1 + i = 72 + 6 * c + i by omega, r4 _ (by omega)]
  by_cases hex : ∃ i, i < a (71 + 6 * c) ∧ a (72 + 6 * c + i) = k
  · refine Or.inl ⟨?_, ?_⟩
    · have : OkS (it (m_X1_cites_B2 (nI c) (nI k) sz cd) fu 0) (fun r => r = Sum.inl ()) := by
        refine ok_for (fun i st => st = nI i ∧ ∀ j, j < i → a (72 + 6 * c + j) ≠ k) (a (71 + 6 * c)) ⟨rfl, fun j hj => absurd hj (Nat.not_lt_zero j)⟩ ?_ ?_ (by omega)
        · rintro i st hi ⟨rfl, e2⟩
          have := g3 i hi
          unfold m_X1_cites_B2
          simp (disch := omega) only [ck_nI, tn_nI, q1, nI_le_iff]
          rw [if_neg (by omega), hat i hi, bd]
          simp (disch := omega) only [nI_eq_iff]
          by_cases e : a (72 + 6 * c + i) = k
          · rw [if_pos e]; exact ok_r rfl
          · rw [if_neg e]
            refine ok_l ⟨by simp only [lit32, nI_add], fun j hj => ?_⟩
            by_cases ej : j = i
            · rw [ej]; exact e
            · exact e2 j (by omega)
        · rintro st ⟨rfl, e2⟩
          obtain ⟨i, hi, hi'⟩ := hex
          exact absurd hi' (e2 i hi)
      obtain ⟨r, h1, rfl⟩ := this
      unfold m_X1_cites
      rw [h1]
      rfl
    · have : OkS (it (m_X12_doesCite_B5 (nI c) (nI k) M_s) fu (0, 0)) (fun r => r = 1) := by
        refine ok_for (fun i st => st.2 = nI i ∧ ((st.1 = 1 ∧ ∃ j, j < i ∧ a (72 + 6 * c + j) = k) ∨ (st.1 = 0 ∧ ∀ j, j < i → a (72 + 6 * c + j) ≠ k))) (a (71 + 6 * c)) ⟨rfl, Or.inr ⟨rfl, fun j hj => absurd hj (Nat.not_lt_zero j)⟩⟩ ?_ ?_ (by omega)
        · rintro i ⟨s1, s2⟩ hi ⟨e1, e2⟩
          dsimp only at e1 e2
          subst e1
          have := g3 i hi
          unfold m_X12_doesCite_B5 m_X12_doesCite_J30 m_X12_doesCite_J35
          rw [hcit, bd]
          simp (disch := omega) only [nI_le_iff]
          rw [if_neg (by omega), hcd i hi, bd]
          simp (disch := omega) only [nI_eq_iff]
          rcases e2 with ⟨rfl, j, hj, hj'⟩ | ⟨rfl, e2⟩
          · rw [if_neg (by decide)]
            exact ok_l ⟨by simp only [lit32, nI_add], Or.inl ⟨rfl, j, by omega, hj'⟩⟩
          · rw [if_pos rfl]
            by_cases e : a (72 + 6 * c + i) = k
            · rw [if_pos e]
              exact ok_l ⟨by simp only [lit32, nI_add], Or.inl ⟨rfl, i, by omega, e⟩⟩
            · rw [if_neg e]
              refine ok_l ⟨by simp only [lit32, nI_add], Or.inr ⟨rfl, fun j hj => ?_⟩⟩
              by_cases ej : j = i
              · rw [ej]; exact e
              · exact e2 j (by omega)
        · rintro ⟨s1, s2⟩ ⟨e1, e2⟩
          dsimp only at e1 e2
          subst e1
          unfold m_X12_doesCite_B5
          rw [hcit, bd]
          rw [if_pos (by rw [nI_le_iff (by omega) (by omega)]; omega)]
          rcases e2 with ⟨rfl, _⟩ | ⟨rfl, e2⟩
          · exact ok_r rfl
          · obtain ⟨i, hi, hi'⟩ := hex
            exact absurd hi' (e2 i hi)
      obtain ⟨r, h1, rfl⟩ := this
      unfold m_X12_doesCite
      rw [h1, bd, ckb_1]
  · have hex' : ∀ i, i < a (71 + 6 * c) → a (72 + 6 * c + i) ≠ k := fun i hi e => hex ⟨i, hi, e⟩
    refine Or.inr ⟨hex', ?_, ?_⟩
    · have : OkS (it (m_X1_cites_B2 (nI c) (nI k) sz cd) fu 0) (fun r => r = Sum.inr ()) := by
        refine ok_for (fun i st => st = nI i) (a (71 + 6 * c)) rfl ?_ ?_ (by omega)
        · rintro i st hi rfl
          have := g3 i hi
          unfold m_X1_cites_B2
          simp (disch := omega) only [ck_nI, tn_nI, q1, nI_le_iff]
          rw [if_neg (by omega), hat i hi, bd]
          simp (disch := omega) only [nI_eq_iff]
          rw [if_neg (hex' i hi)]
          exact ok_l (by simp only [lit32, nI_add])
        · rintro st rfl
          unfold m_X1_cites_B2
          simp (disch := omega) only [ck_nI, tn_nI, q1, nI_le_iff]
          rw [if_pos (by omega)]
          exact ok_r rfl
      obtain ⟨r, h1, rfl⟩ := this
      unfold m_X1_cites
      rw [h1]
      rfl
    · have : OkS (it (m_X12_doesCite_B5 (nI c) (nI k) M_s) fu (0, 0)) (fun r => r = 0) := by
        refine ok_for (fun i st => st.2 = nI i ∧ st.1 = 0) (a (71 + 6 * c)) ⟨rfl, rfl⟩ ?_ ?_ (by omega)
        · rintro i ⟨s1, s2⟩ hi ⟨e1, e2⟩
          dsimp only at e1 e2
          subst e1 e2
          have := g3 i hi
          unfold m_X12_doesCite_B5 m_X12_doesCite_J30 m_X12_doesCite_J35
          rw [hcit, bd]
          simp (disch := omega) only [nI_le_iff]
          rw [if_neg (by omega), if_pos trivial, hcd i hi, bd]
          rw [if_neg (by rw [nI_eq_iff (by omega) (by omega)]; exact hex' i hi)]
          exact ok_l ⟨by simp only [lit32, nI_add], rfl⟩
        · rintro ⟨s1, s2⟩ ⟨e1, e2⟩
          dsimp only at e1 e2
          subst e1 e2
          unfold m_X12_doesCite_B5
          rw [hcit, bd]
          rw [if_pos (by rw [nI_le_iff (by omega) (by omega)]; omega)]
          exact ok_r rfl
      obtain ⟨r, h1, rfl⟩ := this
      unfold m_X12_doesCite
      rw [h1, bd, ckb_0]
theorem step13 : Step_13 Rel0 := by
  intro T_co T_n W_n W_ac W_fa W_in W_yr W_ti S_st S_mi S_fi S_sp S_cl S_nu S_co S_ke S_di C_n C_sz C_cd Y_n Y_nx M_s M_ke M_km M_te M_n Q_rv x1 hR
  obtain ⟨ht, ⟨a, ho, r1, r2, r3, r4⟩, h5⟩ := hR
  have h8 := ho.1.1
  have h10 := ho.2.2.1
  rcases hasW x1 ho.1.1 (r4 0 (by omega)) with ⟨k, k1, rfl, f1, f2⟩ | ⟨f1, f2⟩
  · by_cases hn : a 70 = 10
    · refine ⟨((-3), C_n, C_sz, C_cd, Y_n, Y_nx, Q_rv), ((-3), M_s, M_ke, M_km), ?_, ?_, rfl, ht, ⟨a, ho, r1, r2, r3, r4⟩, h5⟩
      · unfold m_X11_beginCitation
        rw [r1.1, f1, bd, if_neg (by decide), r3.1, hn, if_neg (by decide)]
      · unfold m_X12_beginCitation
        rw [f2, bd, if_neg (by decide), ck_lit (by decide) (by decide), show Int32.toNatClampNeg 70 = 70 from rfl, r4 70 (by omega), hn, if_pos (show nI 10 = 10 from rfl)]
    · obtain ⟨o1, o2, s1, s2, s3⟩ := save_ok ho r1 r2 r3 r4 h5
      have h70 : M_s 70 = nI (a 70) := r4 70 (by omega)
      refine ⟨(nI (a 70), nI (a 70 + 1), upd (upd C_sz (a 70) 0) (a 70) (nI 1), upd C_cd (5 * a 70) (nI k), o1.1, o1.2.1, o1.2.2), (nI (a 70), upd (upd (upd M_s (71 + 6 * a 70) (nI 1)) (72 + 6 * a 70) (nI k)) 70 (nI (a 70 + 1)), o2.1, o2.2), ?_, ?_, rfl, ht, ⟨upN (upN (upN a (71 + 6 * a 70) 1) (72 + 6 * a 70) k) 70 (a 70 + 1), ⟨?_, ?_, ?_⟩, ?_, ?_, ?_, RM_up (RM_up (RM_up r4))⟩, s3⟩
      · unfold m_X11_beginCitation
        rw [show m_X9_has W_n (nI k) = some 1 by rw [r1.1]; exact f1, bd, if_neg (by decide), if_pos (by rw [r3.1, show (10 : Int32) = nI 10 from rfl, nI_lt_iff (by omega) (by omega)]; omega), s1, bd]
        unfold m_X1_begin m_X1_begin_J38
        rw [if_neg (by rw [r3.1, show (10 : Int32) = nI 10 from rfl, nI_le_iff (by omega) (by omega)]; omega), r3.1, ck_nI (by omega) (by omega), tn_nI (by omega), cadd_ok (n := 0) (by omega) (by omega) ((upd_eq _ _ _).trans rfl), bd, bd]
        simp (disch := omega) only [lit32, nI_add, nI_sub]
        rfl
      · unfold m_X12_beginCitation
        rw [f2, bd, if_neg (by decide), s2]
        simp (disch := omega) only [lit32, ck_nI, tn_nI, h70, nI_mul, nI_add, bd]
        rw [if_neg (by rw [nI_eq_iff (by omega) (by omega)]; exact hn)]
        simp (disch := omega) only [lit32, ck_nI, tn_nI, h70, nI_mul, nI_add, bd, upd_ne, upd_eq, nI_sub]
        rw [show 71 + 6 * a 70 + 1 = 72 + 6 * a 70 by omega]
        rfl
      · exact OkW_cg (fun i hi => (upN_ne _ _ (by omega)).trans ((upN_ne _ _ (by omega)).trans (upN_ne _ _ (by omega)))) ho.1
      · exact OkE_cg (fun i h1 h2 => (upN_ne _ _ (by omega)).trans ((upN_ne _ _ (by omega)).trans (upN_ne _ _ (by omega)))) ho.2.1
      · refine ⟨by rw [upN_eq]; omega, fun c hc => ?_⟩
        rw [upN_eq] at hc
        rw [show upN (upN (upN a (71 + 6 * a 70) 1) (72 + 6 * a 70) k) 70 (a 70 + 1) 0 = a 0 from (upN_ne _ _ (by omega)).trans ((upN_ne _ _ (by omega)).trans (upN_ne _ _ (by omega)))]
        by_cases e : c = a 70
        · subst e
          rw [upN_ne _ _ (by omega), upN_ne _ _ (by omega), upN_eq]
          refine ⟨⟨by omega, by omega⟩, fun k' hk' => ?_, fun k' l h1 h2 => by omega⟩
          have : k' = 0 := by omega
          subst this
          rw [upN_ne _ _ (by omega), Nat.add_zero, upN_eq]
          exact k1
        · have hb : ∀ j, j < 6 → upN (upN (upN a (71 + 6 * a 70) 1) (72 + 6 * a 70) k) 70 (a 70 + 1) (71 + 6 * c + j) = a (71 + 6 * c + j) := fun j hj => (upN_ne _ _ (by omega)).trans ((upN_ne _ _ (by omega)).trans (upN_ne _ _ (by omega)))
          obtain ⟨g1, g3, g4⟩ := ho.2.2.2 c (by omega)
          have hb0 := hb 0 (by omega)
          rw [Nat.add_zero] at hb0
          have hb1 : ∀ j, j < 5 → upN (upN (upN a (71 + 6 * a 70) 1) (72 + 6 * a 70) k) 70 (a 70 + 1) (72 + 6 * c + j) = a (72 + 6 * c + j) := fun j hj => by
            have := hb (j + 1) (by omega)
            rw [show 71 + 6 * c + (j + 1) = 72 + 6 * c + j by omega] at this
            exact this
          rw [hb0]
          refine ⟨g1, fun k' hk' => ?_, fun k' l h1 h2 => ?_⟩
          · rw [hb1 k' (by omega)]; exact g3 k' hk'
          · rw [hb1 k' (by omega), hb1 l (by omega)]; exact g4 k' l h1 h2
      · exact RW_cg (fun i hi => (upN_ne _ _ (by omega)).trans ((upN_ne _ _ (by omega)).trans (upN_ne _ _ (by omega)))) ho.1 r1
      · exact RS_cg (fun i h1 h2 => (upN_ne _ _ (by omega)).trans ((upN_ne _ _ (by omega)).trans (upN_ne _ _ (by omega)))) r2
      · refine ⟨by rw [upN_eq], fun c hc => ?_⟩
        rw [upN_eq] at hc
        dsimp only
        by_cases e : c = a 70
        · subst e
          rw [upN_ne _ _ (by omega), upN_ne _ _ (by omega), upN_eq, upd_eq]
          refine ⟨rfl, fun k' hk' => ?_⟩
          have : k' = 0 := by omega
          subst this
          rw [upN_ne _ _ (by omega), Nat.add_zero, Nat.add_zero, upN_eq, upd_eq]
        · obtain ⟨g1, g3, g4⟩ := ho.2.2.2 c (by omega)
          obtain ⟨q1, q2⟩ := r3.2 c (by omega)
          rw [upd_ne _ _ e, upd_ne _ _ e, upN_ne _ _ (by omega), upN_ne _ _ (by omega), upN_ne _ _ (by omega)]
          refine ⟨q1, fun k' hk' => ?_⟩
          rw [upd_ne _ _ (by omega), upN_ne _ _ (by omega), upN_ne _ _ (by omega), upN_ne _ _ (by omega)]
          exact q2 k' hk'
  · refine ⟨((-1), C_n, C_sz, C_cd, Y_n, Y_nx, Q_rv), ((-1), M_s, M_ke, M_km), ?_, ?_, rfl, ht, ⟨a, ho, r1, r2, r3, r4⟩, h5⟩
    · unfold m_X11_beginCitation
      rw [r1.1, f1, bd, if_pos rfl]
    · unfold m_X12_beginCitation
      rw [f2, bd, if_pos rfl]
