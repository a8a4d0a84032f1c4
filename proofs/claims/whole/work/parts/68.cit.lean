/-! ===== citations: begin, add, remove ===== -/
theorem OkE_cg {a b : Nat → Nat} (h : ∀ i, 57 ≤ i → i < 70 → b i = a i) (ho : OkE a) : OkE b := by
  obtain ⟨⟨h57, h58, ⟨h59a, h59b⟩, h60, h61, h62, h63⟩, hs⟩ := ho
  refine ⟨⟨?_, ?_, ⟨?_, ?_⟩, ?_, ?_, ?_, ?_⟩, fun j hj => ?_⟩
  all_goals first | (rw [h _ (by omega) (by omega)]; assumption) | skip
  rw [h _ (by omega) (by omega), h _ (by omega) (by omega)]
  exact hs j hj
theorem RS_cg {a b : Nat → Nat} {S_st S_mi S_fi S_sp S_cl S_nu S_co : Int32} {S_ke S_di : Nat → Int32} (h : ∀ i, 57 ≤ i → i < 70 → b i = a i) (hr : RS S_st S_mi S_fi S_sp S_cl S_nu S_co S_ke S_di a) : RS S_st S_mi S_fi S_sp S_cl S_nu S_co S_ke S_di b := by
  obtain ⟨⟨r57, r58, r59, r60, r61, r62, r63⟩, rs⟩ := hr
  refine ⟨⟨?_, ?_, ?_, ?_, ?_, ?_, ?_⟩, fun j hj => ?_⟩
  all_goals first | (rw [h _ (by omega) (by omega)]; assumption) | skip
  rw [h _ (by omega) (by omega), h _ (by omega) (by omega)]
  exact rs j hj
theorem cadd_ok {sz cd : Nat → Int32} {c n : Nat} {k : Int32} (hc : c < 10) (hn : n < 5) (h : sz c = nI n) : m_X1_add sz cd (nI c) k = some (upd sz c (nI (n + 1)), upd cd (5 * c + n) k) := by
  unfold m_X1_add m_X1_add_J32
  simp (disch := omega) only [tn_nI, ck_nI, h, lit32, nI_le_iff, nI_mul, nI_add]
  rw [if_neg (by omega), Nat.mul_comm c 5]
theorem cites_ok {sz cd M_s : Nat → Int32} {C_n : Int32} {a : Nat → Nat} (ho : OkC a) (h8 : a 0 ≤ 8) (r3 : RT C_n sz cd a) (r4 : RM M_s a) {c k : Nat} (hc : c < a 70) (hk : k < 8) : (m_X1_cites sz cd (nI c) (nI k) = some 1 ∧ m_X12_doesCite M_s (nI c) (nI k) = some 1) ∨ ((∀ i, i < a (71 + 6 * c) → a (72 + 6 * c + i) ≠ k) ∧ m_X1_cites sz cd (nI c) (nI k) = some 0 ∧ m_X12_doesCite M_s (nI c) (nI k) = some 0) := by
  have h10 := ho.1
  obtain ⟨⟨g1, g2⟩, g3, g4⟩ := ho.2 c hc
  obtain ⟨q1, q2⟩ := r3.2 c hc
  have hs : M_s (71 + 6 * c) = nI (a (71 + 6 * c)) := r4 _ (by omega)
  have hcit : m_X12_cites M_s (nI c) = some (nI (a (71 + 6 * c))) := by
    unfold m_X12_cites
    simp (disch := omega) only [lit32, nI_mul, nI_add, ck_nI, tn_nI, hs]
  have hat : ∀ i, i < a (71 + 6 * c) → m_X1_workAt cd (nI c) (nI i) = some (nI (a (72 + 6 * c + i))) := by
    intro i hi
    unfold m_X1_workAt
    simp (disch := omega) only [lit32, nI_mul, nI_add, ck_nI, tn_nI]
    rw [Nat.mul_comm c 5, q2 i hi]
  have hcd : ∀ i, i < a (71 + 6 * c) → m_X12_cited M_s (nI c) (nI i) = some (nI (a (72 + 6 * c + i))) := by
    intro i hi
    unfold m_X12_cited
    simp (disch := omega) only [lit32, nI_mul, nI_add, ck_nI, tn_nI]
    rw [show 71 + 6 * c + 1 + i = 72 + 6 * c + i by omega, r4 _ (by omega)]
  by_cases hex : ∃ i, i < a (71 + 6 * c) ∧ a (72 + 6 * c + i) = k
  · refine Or.inl ⟨?_, ?_⟩
    · have : OkS (it (m_X1_cites_B2 (nI c) (nI k) sz cd) fu 0) (fun r => r = Sum.inl ()) := by
        refine ok_for (fun i st => st = nI i ∧ ∀ j, j < i → a (72 + 6 * c + j) ≠ k) (a (71 + 6 * c)) ⟨rfl, fun j hj => absurd hj (Nat.not_lt_zero j)⟩ ?_ ?_ (by omega)
        · rintro i st hi ⟨rfl, e2⟩
          have := g3 i hi
          unfold m_X1_cites_B2
          simp (disch := omega) only [ck_nI, tn_nI, q1, nI_le_iff]
          rw [if_neg (by omega), hat i hi, bd]
          simp (disch := omega) only [nI_eq_iff]
          by_cases e : a (72 + 6 * c + i) = k
          · rw [if_pos e]; exact ok_r rfl
          · rw [if_neg e]
            refine ok_l ⟨by simp only [lit32, nI_add], fun j hj => ?_⟩
            by_cases ej : j = i
            · rw [ej]; exact e
            · exact e2 j (by omega)
        · rintro st ⟨rfl, e2⟩
          obtain ⟨i, hi, hi'⟩ := hex
          exact absurd hi' (e2 i hi)
      obtain ⟨r, h1, rfl⟩ := this
      unfold m_X1_cites
      rw [h1]
      rfl
    · have : OkS (it (m_X12_doesCite_B5 (nI c) (nI k) M_s) fu (0, 0)) (fun r => r = 1) := by
        refine ok_for (fun i st => st.2 = nI i ∧ ((st.1 = 1 ∧ ∃ j, j < i ∧ a (72 + 6 * c + j) = k) ∨ (st.1 = 0 ∧ ∀ j, j < i → a (72 + 6 * c + j) ≠ k))) (a (71 + 6 * c)) ⟨rfl, Or.inr ⟨rfl, fun j hj => absurd hj (Nat.not_lt_zero j)⟩⟩ ?_ ?_ (by omega)
        · rintro i ⟨s1, s2⟩ hi ⟨e1, e2⟩
          dsimp only at e1 e2
          subst e1
          have := g3 i hi
          unfold m_X12_doesCite_B5 m_X12_doesCite_J30 m_X12_doesCite_J35
          rw [hcit, bd]
          simp (disch := omega) only [nI_le_iff]
          rw [if_neg (by omega), hcd i hi, bd]
          simp (disch := omega) only [nI_eq_iff]
          rcases e2 with ⟨rfl, j, hj, hj'⟩ | ⟨rfl, e2⟩
          · rw [if_neg (by decide)]
            exact ok_l ⟨by simp only [lit32, nI_add], Or.inl ⟨rfl, j, by omega, hj'⟩⟩
          · rw [if_pos rfl]
            by_cases e : a (72 + 6 * c + i) = k
            · rw [if_pos e]
              exact ok_l ⟨by simp only [lit32, nI_add], Or.inl ⟨rfl, i, by omega, e⟩⟩
            · rw [if_neg e]
              refine ok_l ⟨by simp only [lit32, nI_add], Or.inr ⟨rfl, fun j hj => ?_⟩⟩
              by_cases ej : j = i
              · rw [ej]; exact e
              · exact e2 j (by omega)
        · rintro ⟨s1, s2⟩ ⟨e1, e2⟩
          dsimp only at e1 e2
          subst e1
          unfold m_X12_doesCite_B5
          rw [hcit, bd]
          rw [if_pos (by rw [nI_le_iff (by omega) (by omega)]; omega)]
          rcases e2 with ⟨rfl, _⟩ | ⟨rfl, e2⟩
          · exact ok_r rfl
          · obtain ⟨i, hi, hi'⟩ := hex
            exact absurd hi' (e2 i hi)
      obtain ⟨r, h1, rfl⟩ := this
      unfold m_X12_doesCite
      rw [h1, bd, ckb_1]
  · have hex' : ∀ i, i < a (71 + 6 * c) → a (72 + 6 * c + i) ≠ k := fun i hi e => hex ⟨i, hi, e⟩
    refine Or.inr ⟨hex', ?_, ?_⟩
    · have : OkS (it (m_X1_cites_B2 (nI c) (nI k) sz cd) fu 0) (fun r => r = Sum.inr ()) := by
        refine ok_for (fun i st => st = nI i) (a (71 + 6 * c)) rfl ?_ ?_ (by omega)
        · rintro i st hi rfl
          have := g3 i hi
          unfold m_X1_cites_B2
          simp (disch := omega) only [ck_nI, tn_nI, q1, nI_le_iff]
          rw [if_neg (by omega), hat i hi, bd]
          simp (disch := omega) only [nI_eq_iff]
          rw [if_neg (hex' i hi)]
          exact ok_l (by simp only [lit32, nI_add])
        · rintro st rfl
          unfold m_X1_cites_B2
          simp (disch := omega) only [ck_nI, tn_nI, q1, nI_le_iff]
          rw [if_pos (by omega)]
          exact ok_r rfl
      obtain ⟨r, h1, rfl⟩ := this
      unfold m_X1_cites
      rw [h1]
      rfl
    · have : OkS (it (m_X12_doesCite_B5 (nI c) (nI k) M_s) fu (0, 0)) (fun r => r = 0) := by
        refine ok_for (fun i st => st.2 = nI i ∧ st.1 = 0) (a (71 + 6 * c)) ⟨rfl, rfl⟩ ?_ ?_ (by omega)
        · rintro i ⟨s1, s2⟩ hi ⟨e1, e2⟩
          dsimp only at e1 e2
          subst e1 e2
          have := g3 i hi
          unfold m_X12_doesCite_B5 m_X12_doesCite_J30 m_X12_doesCite_J35
          rw [hcit, bd]
          simp (disch := omega) only [nI_le_iff]
          rw [if_neg (by omega), if_pos trivial, hcd i hi, bd]
          rw [if_neg (by rw [nI_eq_iff (by omega) (by omega)]; exact hex' i hi)]
          exact ok_l ⟨by simp only [lit32, nI_add], rfl⟩
        · rintro ⟨s1, s2⟩ ⟨e1, e2⟩
          dsimp only at e1 e2
          subst e1 e2
          unfold m_X12_doesCite_B5
          rw [hcit, bd]
          rw [if_pos (by rw [nI_le_iff (by omega) (by omega)]; omega)]
          exact ok_r rfl
      obtain ⟨r, h1, rfl⟩ := this
      unfold m_X12_doesCite
      rw [h1, bd, ckb_0]
theorem step13 : Step_13 Rel0 := by
  intro T_co T_n W_n W_ac W_fa W_in W_yr W_ti S_st S_mi S_fi S_sp S_cl S_nu S_co S_ke S_di C_n C_sz C_cd Y_n Y_nx M_s M_ke M_km M_te M_n Q_rv x1 hR
  obtain ⟨ht, ⟨a, ho, r1, r2, r3, r4⟩, h5⟩ := hR
  have h8 := ho.1.1
  have h10 := ho.2.2.1
  rcases hasW x1 ho.1.1 (r4 0 (by omega)) with ⟨k, k1, rfl, f1, f2⟩ | ⟨f1, f2⟩
  · by_cases hn : a 70 = 10
    · refine ⟨((-3), C_n, C_sz, C_cd, Y_n, Y_nx, Q_rv), ((-3), M_s, M_ke, M_km), ?_, ?_, rfl, ht, ⟨a, ho, r1, r2, r3, r4⟩, h5⟩
      · unfold m_X11_beginCitation
        rw [r1.1, f1, bd, if_neg (by decide), r3.1, hn, if_neg (by decide)]
      · unfold m_X12_beginCitation
        rw [f2, bd, if_neg (by decide), ck_lit (by decide) (by decide), show Int32.toNatClampNeg 70 = 70 from rfl, r4 70 (by omega), hn, if_pos (show nI 10 = 10 from rfl)]
    · obtain ⟨o1, o2, s1, s2, s3⟩ := save_ok ho r1 r2 r3 r4 h5
      have h70 : M_s 70 = nI (a 70) := r4 70 (by omega)
      refine ⟨(nI (a 70), nI (a 70 + 1), upd (upd C_sz (a 70) 0) (a 70) (nI 1), upd C_cd (5 * a 70) (nI k), o1.1, o1.2.1, o1.2.2), (nI (a 70), upd (upd (upd M_s (71 + 6 * a 70) (nI 1)) (72 + 6 * a 70) (nI k)) 70 (nI (a 70 + 1)), o2.1, o2.2), ?_, ?_, rfl, ht, ⟨upN (upN (upN a (71 + 6 * a 70) 1) (72 + 6 * a 70) k) 70 (a 70 + 1), ⟨?_, ?_, ?_⟩, ?_, ?_, ?_, RM_up (RM_up (RM_up r4))⟩, s3⟩
      · unfold m_X11_beginCitation
        rw [show m_X9_has W_n (nI k) = some 1 by rw [r1.1]; exact f1, bd, if_neg (by decide), if_pos (by rw [r3.1, show (10 : Int32) = nI 10 from rfl, nI_lt_iff (by omega) (by omega)]; omega), s1, bd]
        unfold m_X1_begin m_X1_begin_J38
        rw [if_neg (by rw [r3.1, show (10 : Int32) = nI 10 from rfl, nI_le_iff (by omega) (by omega)]; omega), r3.1, ck_nI (by omega) (by omega), tn_nI (by omega), cadd_ok (sz := upd C_sz (a 70) 0) (c := a 70) (n := 0) (by omega) (by omega) ((upd_eq _ _ _).trans rfl), bd, bd]
        simp (disch := omega) only [lit32, nI_add, nI_sub]
        rfl
      · unfold m_X12_beginCitation
        rw [f2, bd, if_neg (by decide), s2]
        simp (disch := omega) only [lit32, ck_nI, tn_nI, h70, nI_mul, nI_add, bd]
        rw [if_neg (by rw [nI_eq_iff (by omega) (by omega)]; exact hn)]
        simp (disch := omega) only [lit32, ck_nI, tn_nI, h70, nI_mul, nI_add, bd, upd_ne, upd_eq, nI_sub]
        rw [show 71 + 6 * a 70 + 1 = 72 + 6 * a 70 by omega]
        rfl
      · exact OkW_cg (fun i hi => (upN_ne _ _ (by omega)).trans ((upN_ne _ _ (by omega)).trans (upN_ne _ _ (by omega)))) ho.1
      · exact OkE_cg (fun i h1 h2 => (upN_ne _ _ (by omega)).trans ((upN_ne _ _ (by omega)).trans (upN_ne _ _ (by omega)))) ho.2.1
      · refine ⟨by rw [upN_eq]; omega, fun c hc => ?_⟩
        rw [upN_eq] at hc
        rw [show upN (upN (upN a (71 + 6 * a 70) 1) (72 + 6 * a 70) k) 70 (a 70 + 1) 0 = a 0 from (upN_ne _ _ (by omega)).trans ((upN_ne _ _ (by omega)).trans (upN_ne _ _ (by omega)))]
        by_cases e : c = a 70
        · subst e
          rw [upN_ne _ _ (by omega), upN_ne _ _ (by omega), upN_eq]
          refine ⟨⟨by omega, by omega⟩, fun k' hk' => ?_, fun k' l h1 h2 => by omega⟩
          have : k' = 0 := by omega
          subst this
          rw [upN_ne _ _ (by omega), Nat.add_zero, upN_eq]
          exact k1
        · have hb : ∀ j, j < 6 → upN (upN (upN a (71 + 6 * a 70) 1) (72 + 6 * a 70) k) 70 (a 70 + 1) (71 + 6 * c + j) = a (71 + 6 * c + j) := fun j hj => (upN_ne _ _ (by omega)).trans ((upN_ne _ _ (by omega)).trans (upN_ne _ _ (by omega)))
          obtain ⟨g1, g3, g4⟩ := ho.2.2.2 c (by omega)
          have hb0 := hb 0 (by omega)
          simp only [Nat.add_zero] at hb0
          have hb1 : ∀ j, j < 5 → upN (upN (upN a (71 + 6 * a 70) 1) (72 + 6 * a 70) k) 70 (a 70 + 1) (72 + 6 * c + j) = a (72 + 6 * c + j) := fun j hj => by
            have := hb (j + 1) (by omega)
            rw [show 71 + 6 * c + (j + 1) = 72 + 6 * c + j by omega] at this
            exact this
          rw [hb0]
          refine ⟨g1, fun k' hk' => ?_, fun k' l h1 h2 => ?_⟩
          · rw [hb1 k' (by omega)]; exact g3 k' hk'
          · rw [hb1 k' (by omega), hb1 l (by omega)]; exact g4 k' l h1 h2
      · exact RW_cg (fun i hi => (upN_ne _ _ (by omega)).trans ((upN_ne _ _ (by omega)).trans (upN_ne _ _ (by omega)))) ho.1 r1
      · exact RS_cg (fun i h1 h2 => (upN_ne _ _ (by omega)).trans ((upN_ne _ _ (by omega)).trans (upN_ne _ _ (by omega)))) r2
      · refine ⟨by rw [upN_eq], fun c hc => ?_⟩
        rw [upN_eq] at hc
        dsimp only
        by_cases e : c = a 70
        · subst e
          rw [upN_ne _ _ (by omega), upN_ne _ _ (by omega), upN_eq, upd_eq]
          refine ⟨rfl, fun k' hk' => ?_⟩
          have : k' = 0 := by omega
          subst this
          rw [upN_ne _ _ (by omega), Nat.add_zero, Nat.add_zero, upN_eq, upd_eq]
        · obtain ⟨g1, g3, g4⟩ := ho.2.2.2 c (by omega)
          obtain ⟨q1, q2⟩ := r3.2 c (by omega)
          rw [upd_ne _ _ e, upd_ne _ _ e, upN_ne _ _ (by omega), upN_ne _ _ (by omega), upN_ne _ _ (by omega)]
          refine ⟨q1, fun k' hk' => ?_⟩
          rw [upd_ne _ _ (by omega), upN_ne _ _ (by omega), upN_ne _ _ (by omega), upN_ne _ _ (by omega)]
          exact q2 k' hk'
  · refine ⟨((-1), C_n, C_sz, C_cd, Y_n, Y_nx, Q_rv), ((-1), M_s, M_ke, M_km), ?_, ?_, rfl, ht, ⟨a, ho, r1, r2, r3, r4⟩, h5⟩
    · unfold m_X11_beginCitation
      rw [r1.1, f1, bd, if_pos rfl]
    · unfold m_X12_beginCitation
      rw [f2, bd, if_pos rfl]
theorem step14 : Step_14 Rel0 := by
  intro T_co T_n W_n W_ac W_fa W_in W_yr W_ti S_st S_mi S_fi S_sp S_cl S_nu S_co S_ke S_di C_n C_sz C_cd Y_n Y_nx M_s M_ke M_km M_te M_n Q_rv x1 hR
  obtain ⟨ht, ⟨a, ho, r1, r2, r3, r4⟩, h5⟩ := hR
  have h8 := ho.1.1
  have h10 := ho.2.2.1
  have h70 : M_s 70 = nI (a 70) := r4 70 (by omega)
  have out : ∀ (v : Int32) (e1 : m_X11_addToCitation W_n W_ac W_fa W_in W_yr W_ti S_st S_mi S_fi S_sp S_cl S_nu S_co S_ke S_di C_n C_sz C_cd Y_n Y_nx Q_rv x1 = some (v, C_sz, C_cd, Y_n, Y_nx, Q_rv)) (e2 : m_X12_addToCitation M_s M_ke M_km x1 = some (v, M_s, M_ke, M_km)), ∃ (o : Int32 × (Nat → Int32) × (Nat → Int32) × Int32 × Int32 × (Nat → StV)) (o2 : Int32 × (Nat → Int32) × (Nat → Int32) × Int32), m_X11_addToCitation W_n W_ac W_fa W_in W_yr W_ti S_st S_mi S_fi S_sp S_cl S_nu S_co S_ke S_di C_n C_sz C_cd Y_n Y_nx Q_rv x1 = some o ∧ m_X12_addToCitation M_s M_ke M_km x1 = some o2 ∧ o.1 = o2.1 ∧ Rel0 T_co T_n W_n W_ac W_fa W_in W_yr W_ti S_st S_mi S_fi S_sp S_cl S_nu S_co S_ke S_di C_n o.2.1 o.2.2.1 o.2.2.2.1 o.2.2.2.2.1 o.2.2.2.2.2 o2.2.1 o2.2.2.1 o2.2.2.2 M_te M_n :=
    fun v e1 e2 => ⟨_, _, e1, e2, rfl, ht, ⟨a, ho, r1, r2, r3, r4⟩, h5⟩
  rcases hasW x1 ho.1.1 (r4 0 (by omega)) with ⟨k, k1, rfl, f1, f2⟩ | ⟨f1, f2⟩
  · have hh : m_X9_has W_n (nI k) = some 1 := by rw [r1.1]; exact f1
    by_cases hn : a 70 = 0
    · refine out (-2) ?_ ?_
      · unfold m_X11_addToCitation m_X11_addToCitation_J39
        rw [hh, bd, if_neg (by decide), r3.1, hn, if_pos (by decide)]
      · unfold m_X12_addToCitation m_X12_addToCitation_J33
        rw [f2, bd, if_neg (by decide), ck_lit (by decide) (by decide), show Int32.toNatClampNeg 70 = 70 from rfl, h70, hn, if_pos (by decide)]
    · obtain ⟨c, hc⟩ : ∃ c, a 70 = c + 1 := ⟨a 70 - 1, by omega⟩
      have hc1 : C_n - 1 = nI c := by rw [r3.1, hc, show (1 : Int32) = nI 1 from rfl, nI_sub (by omega) (by omega)]; rfl
      have hc2 : nI (a 70) - 1 = nI c := by rw [hc, show (1 : Int32) = nI 1 from rfl, nI_sub (by omega) (by omega)]; rfl
      have hc3 : ¬ (nI c < 0) := by rw [show (0 : Int32) = nI 0 from rfl, nI_lt_iff (by omega) (by omega)]; omega
      obtain ⟨⟨g1, g2⟩, g3, g4⟩ := ho.2.2.2 c (by omega)
      obtain ⟨q1, q2⟩ := r3.2 c (by omega)
      have hs : M_s (71 + 6 * c) = nI (a (71 + 6 * c)) := r4 _ (by omega)
      have hcit : m_X12_cites M_s (nI c) = some (nI (a (71 + 6 * c))) := by
        unfold m_X12_cites
        simp (disch := omega) only [lit32, nI_mul, nI_add, ck_nI, tn_nI, hs]
      rcases cites_ok ho.2.2 ho.1.1 r3 r4 (c := c) (k := k) (by omega) (by omega) with ⟨d1, d2⟩ | ⟨d0, d1, d2⟩
      · refine out (-2) ?_ ?_
        · unfold m_X11_addToCitation m_X11_addToCitation_J39
          rw [hh, bd, if_neg (by decide), hc1, if_neg hc3, d1, bd, if_neg (by decide)]
        · unfold m_X12_addToCitation m_X12_addToCitation_J33
          rw [f2, bd, if_neg (by decide), ck_lit (by decide) (by decide), show Int32.toNatClampNeg 70 = 70 from rfl, h70, hc2, if_neg hc3, d2, bd, if_neg (by decide)]
      · by_cases h5' : a (71 + 6 * c) = 5
        · refine out (-3) ?_ ?_
          · unfold m_X11_addToCitation m_X11_addToCitation_J39
            rw [hh, bd, if_neg (by decide), hc1, if_neg hc3, d1, bd, if_pos rfl, ck_nI (by omega) (by omega), tn_nI (by omega), q1, h5', if_neg (by decide)]
          · unfold m_X12_addToCitation m_X12_addToCitation_J33
            rw [f2, bd, if_neg (by decide), ck_lit (by decide) (by decide), show Int32.toNatClampNeg 70 = 70 from rfl, h70, hc2, if_neg hc3, d2, bd, if_pos rfl, hcit, bd, h5', if_pos (by decide)]
        · obtain ⟨o1, o2, s1, s2, s3⟩ := save_ok ho r1 r2 r3 r4 h5
          obtain ⟨m, hm⟩ : ∃ m, a (71 + 6 * c) = m := ⟨_, rfl⟩
          rw [hm] at g1 g2 g3 g4 q1 q2 hs hcit d0 h5'
          refine ⟨(nI (m + 1), upd C_sz c (nI (m + 1)), upd C_cd (5 * c + m) (nI k), o1.1, o1.2.1, o1.2.2), (nI (m + 1), upd (upd M_s (72 + 6 * c + m) (nI k)) (71 + 6 * c) (nI (m + 1)), o2.1, o2.2), ?_, ?_, rfl, ht, ⟨upN (upN a (72 + 6 * c + m) k) (71 + 6 * c) (m + 1), ⟨?_, ?_, ?_⟩, ?_, ?_, ?_, RM_up (RM_up r4)⟩, s3⟩
          · unfold m_X11_addToCitation
            rw [hh, bd, if_neg (by decide), hc1, if_neg hc3, d1, bd, if_pos rfl, ck_nI (by omega) (by omega), tn_nI (by omega), q1, if_pos (by rw [show (5 : Int32) = nI 5 from rfl, nI_lt_iff (by omega) (by omega)]; omega), s1, bd, cadd_ok (by omega) (by omega) q1, bd, ck_nI (by omega) (by omega)]
            dsimp only
            rw [upd_eq]
          · unfold m_X12_addToCitation
            rw [f2, bd, if_neg (by decide), ck_lit (by decide) (by decide), show Int32.toNatClampNeg 70 = 70 from rfl, h70, hc2, if_neg hc3, d2, bd, if_pos rfl, hcit, bd, if_neg (by rw [show (5 : Int32) = nI 5 from rfl, nI_eq_iff (by omega) (by omega)]; omega), s2, bd, bd]
            unfold m_X12_cites
            simp (disch := omega) only [lit32, ck_nI, tn_nI, hs, nI_mul, nI_add, bd, upd_ne, upd_eq]
            rw [show 71 + 6 * c + 1 + m = 72 + 6 * c + m by omega]
          · exact OkW_cg (fun i hi => (upN_ne _ _ (by omega)).trans (upN_ne _ _ (by omega))) ho.1
          · exact OkE_cg (fun i h1 h2 => (upN_ne _ _ (by omega)).trans (upN_ne _ _ (by omega))) ho.2.1
          · refine ⟨by rw [upN_ne _ _ (by omega), upN_ne _ _ (by omega)]; exact h10, fun d hd => ?_⟩
            rw [upN_ne _ _ (by omega), upN_ne _ _ (by omega)] at hd
            rw [show upN (upN a (72 + 6 * c + m) k) (71 + 6 * c) (m + 1) 0 = a 0 from (upN_ne _ _ (by omega)).trans (upN_ne _ _ (by omega))]
            by_cases e : d = c
            · subst e
              rw [upN_eq]
              have hx : ∀ i, i < m → upN (upN a (72 + 6 * d + m) k) (71 + 6 * d) (m + 1) (72 + 6 * d + i) = a (72 + 6 * d + i) := fun i hi => (upN_ne _ _ (by omega)).trans (upN_ne _ _ (by omega))
              have hy : upN (upN a (72 + 6 * d + m) k) (71 + 6 * d) (m + 1) (72 + 6 * d + m) = k := (upN_ne _ _ (by omega)).trans (upN_eq _ _ _)
              refine ⟨⟨by omega, by omega⟩, fun i hi => ?_, fun i l h1 h2 => ?_⟩
              · by_cases ei : i = m
                · subst ei; rw [hy]; exact k1
                · rw [hx i (by omega)]; exact g3 i (by omega)
              · rw [hx i (by omega)]
                by_cases el : l = m
                · subst el; rw [hy]; exact d0 i (by omega)
                · rw [hx l (by omega)]; exact g4 i l h1 (by omega)
            · obtain ⟨⟨p1, p1'⟩, p3, p4⟩ := ho.2.2.2 d hd
              have hx : ∀ i, i < 5 → upN (upN a (72 + 6 * c + m) k) (71 + 6 * c) (m + 1) (72 + 6 * d + i) = a (72 + 6 * d + i) := fun i hi => (upN_ne _ _ (by omega)).trans (upN_ne _ _ (by omega))
              rw [show upN (upN a (72 + 6 * c + m) k) (71 + 6 * c) (m + 1) (71 + 6 * d) = a (71 + 6 * d) from (upN_ne _ _ (by omega)).trans (upN_ne _ _ (by omega))]
              refine ⟨⟨p1, p1'⟩, fun i hi => ?_, fun i l h1 h2 => ?_⟩
              · rw [hx i (by omega)]; exact p3 i hi
              · rw [hx i (by omega), hx l (by omega)]; exact p4 i l h1 h2
          · exact RW_cg (fun i hi => (upN_ne _ _ (by omega)).trans (upN_ne _ _ (by omega))) ho.1 r1
          · exact RS_cg (fun i h1 h2 => (upN_ne _ _ (by omega)).trans (upN_ne _ _ (by omega))) r2
          · refine ⟨by rw [upN_ne _ _ (by omega), upN_ne _ _ (by omega)]; exact r3.1, fun d hd => ?_⟩
            rw [upN_ne _ _ (by omega), upN_ne _ _ (by omega)] at hd
            dsimp only
            by_cases e : d = c
            · subst e
              rw [upN_eq, upd_eq]
              refine ⟨rfl, fun i hi => ?_⟩
              by_cases ei : i = m
              · subst ei
                rw [upN_ne _ _ (by omega), upN_eq, upd_eq]
              · rw [upN_ne _ _ (by omega), upN_ne _ _ (by omega), upd_ne _ _ (by omega)]
                exact q2 i (by omega)
            · obtain ⟨⟨p1, p1'⟩, p3, p4⟩ := ho.2.2.2 d hd
              obtain ⟨t1, t2⟩ := r3.2 d hd
              rw [upd_ne _ _ e, upN_ne _ _ (by omega), upN_ne _ _ (by omega)]
              refine ⟨t1, fun i hi => ?_⟩
              rw [upd_ne _ _ (by omega), upN_ne _ _ (by omega), upN_ne _ _ (by omega)]
              exact t2 i hi
  · refine out (-1) ?_ ?_
    · unfold m_X11_addToCitation
      rw [r1.1, f1, bd, if_pos rfl]
    · unfold m_X12_addToCitation
      rw [f2, bd, if_pos rfl]
theorem copyCitS_ok (C_sz C_cd : Nat → Int32) {f t : Nat} (hf : f < 10) (ht : t < 10) (hne : f ≠ t) : OkS (m_X1_copyCitation_self C_sz C_cd (nI f) (nI t)) (fun o => o.1 = upd C_sz t (C_sz f) ∧ (∀ k, k < 5 → o.2 (5 * t + k) = C_cd (5 * f + k)) ∧ (∀ j, j < 5 * t ∨ 5 * t + 5 ≤ j → o.2 j = C_cd j)) := by
  unfold m_X1_copyCitation_self
  simp (disch := omega) only [ck_nI, tn_nI]
  refine ok_bind (Q := fun r => (∀ k, k < 5 → r (5 * t + k) = C_cd (5 * f + k)) ∧ (∀ j, j < 5 * t ∨ 5 * t + 5 ≤ j → r j = C_cd j)) ?_ (fun r h => ok_some ⟨rfl, h⟩)
  refine ok_for (fun i st => st.1 = nI i ∧ (∀ k, k < i → st.2 (5 * t + k) = C_cd (5 * f + k)) ∧ (∀ j, j < 5 * t ∨ 5 * t + i ≤ j → st.2 j = C_cd j)) 5 ⟨rfl, fun k hk => absurd hk (Nat.not_lt_zero k), fun j _ => rfl⟩ ?_ ?_ (by omega)
  · rintro i ⟨s1, s2⟩ hi ⟨e1, e2, e3⟩
    dsimp only at e1 e2 e3
    subst e1
    unfold m_X1_copyCitation_self_B15
    simp (disch := omega) only [lit32, nI_le_iff, nI_mul, nI_add, ck_nI, tn_nI]
    rw [if_neg (by omega)]
    refine ok_l ⟨rfl, fun k hk => ?_, fun j hj => ?_⟩
    · dsimp only
      by_cases e : k = i
      · subst e
        rw [Nat.mul_comm t 5, upd_eq, Nat.mul_comm f 5]
        exact e3 _ (by omega)
      · rw [upd_ne _ _ (by omega)]
        exact e2 k (by omega)
    · dsimp only
      rw [upd_ne _ _ (by omega)]
      exact e3 j (by omega)
  · rintro ⟨s1, s2⟩ ⟨e1, e2, e3⟩
    dsimp only at e1 e2 e3
    subst e1
    unfold m_X1_copyCitation_self_B15
    simp (disch := omega) only [lit32, nI_le_iff]
    rw [if_pos (by omega)]
    exact ok_r ⟨e2, e3⟩
/-- the row of numbers with citation x gone -/
def gone (a : Nat → Nat) (x : Nat) : Nat → Nat := fun j => if j = 70 then a 70 - 1 else if 71 + 6 * x ≤ j ∧ j < 71 + 6 * (a 70 - 1) then a (j + 6) else a j
theorem gone_lo {a : Nat → Nat} {x j : Nat} (h : j < 70) : gone a x j = a j := by
  unfold gone
  rw [if_neg (by omega), if_neg (by omega)]
theorem gone_at {a : Nat → Nat} {x c k : Nat} (hk : k < 6) (hc : c + 1 < a 70) : gone a x (71 + 6 * c + k) = a (71 + 6 * (if c < x then c else c + 1) + k) := by
  unfold gone
  rw [if_neg (by omega)]
  by_cases e : c < x
  · rw [if_neg (by omega), if_pos e]
  · rw [if_pos (by omega), if_neg e]
    congr 1
    omega
theorem gone_at0 {a : Nat → Nat} {x c : Nat} (hc : c + 1 < a 70) : gone a x (71 + 6 * c) = a (71 + 6 * (if c < x then c else c + 1)) := gone_at (k := 0) (by omega) hc
theorem gone_at1 {a : Nat → Nat} {x c k : Nat} (hk : k < 5) (hc : c + 1 < a 70) : gone a x (72 + 6 * c + k) = a (72 + 6 * (if c < x then c else c + 1) + k) := by
  have := gone_at (a := a) (x := x) (c := c) (k := k + 1) (by omega) hc
  rw [show 71 + 6 * c + (k + 1) = 72 + 6 * c + k by omega, show 71 + 6 * (if c < x then c else c + 1) + (k + 1) = 72 + 6 * (if c < x then c else c + 1) + k by omega] at this
  exact this
theorem OkC_gone {a : Nat → Nat} {x : Nat} (hx : x < a 70) (ho : OkC a) : OkC (gone a x) := by
  have h10 := ho.1
  have h70 : gone a x 70 = a 70 - 1 := rfl
  refine ⟨by rw [h70]; omega, fun c hc => ?_⟩
  rw [h70] at hc
  have hd : (if c < x then c else c + 1) < a 70 := by split <;> omega
  obtain ⟨⟨p1, p1'⟩, p3, p4⟩ := ho.2 _ hd
  rw [gone_at0 (by omega), gone_lo (j := 0) (by omega)]
  refine ⟨⟨p1, p1'⟩, fun i hi => ?_, fun i l h1 h2 => ?_⟩
  · rw [gone_at1 (by omega) (by omega)]; exact p3 i hi
  · rw [gone_at1 (by omega) (by omega), gone_at1 (by omega) (by omega)]; exact p4 i l h1 h2
theorem step15 : Step_15 Rel0 := by
  intro T_co T_n W_n W_ac W_fa W_in W_yr W_ti S_st S_mi S_fi S_sp S_cl S_nu S_co S_ke S_di C_n C_sz C_cd Y_n Y_nx M_s M_ke M_km M_te M_n Q_rv x1 hR
  obtain ⟨ht, ⟨a, ho, r1, r2, r3, r4⟩, h5⟩ := hR
  have h8 := ho.1.1
  have h10 := ho.2.2.1
  have h70 : M_s 70 = nI (a 70) := r4 70 (by omega)
  rcases hasC x1 ho.2.2.1 h70 with ⟨x, k1, rfl, f1, f2⟩ | ⟨f1, f2⟩
  · obtain ⟨o1, o2, s1, s2, s3⟩ := save_ok ho r1 r2 r3 r4 h5
    obtain ⟨⟨g1, g2⟩, g3, g4⟩ := ho.2.2.2 x k1
    obtain ⟨q1, q2⟩ := r3.2 x k1
    have hs : M_s (71 + 6 * x) = nI (a (71 + 6 * x)) := r4 _ (by omega)
    have hcit : m_X12_cites M_s (nI x) = some (nI (a (71 + 6 * x))) := by
      unfold m_X12_cites
      simp (disch := omega) only [lit32, nI_mul, nI_add, ck_nI, tn_nI, hs]
    have hA : OkS (it (m_X1_removeAt_B4 (nI (a 70))) fu (nI x + 1, C_sz, C_cd)) (fun r => ∀ c, c + 1 < a 70 → SameC r.1 r.2 C_sz C_cd c (if c < x then c else c + 1)) := by
      refine ok_for (fun t st => st.1 = nI (x + 1 + t) ∧ (∀ c, c < a 70 → (x ≤ c ∧ c < x + t → SameC st.2.1 st.2.2 C_sz C_cd c (c + 1)) ∧ (c < x ∨ x + t ≤ c → SameC st.2.1 st.2.2 C_sz C_cd c c))) (a 70 - 1 - x) ⟨by rw [show (1 : Int32) = nI 1 from rfl, nI_add], fun c hc => ⟨fun h => by omega, fun _ => ⟨rfl, fun k hk => rfl⟩⟩⟩ ?_ ?_ (by omega)
      · rintro t ⟨s1, s2, s3⟩ hi ⟨e1, e2⟩
        dsimp only at e1 e2
        subst e1
        unfold m_X1_removeAt_B4
        rw [if_neg (by rw [nI_le_iff (by omega) (by omega)]; omega)]
        dsimp only
        rw [show nI (x + 1 + t) - 1 = nI (x + t) by rw [show (1 : Int32) = nI 1 from rfl, nI_sub (by omega) (by omega)]; congr 1; omega]
        refine ok_bind (copyCitS_ok s2 s3 (f := x + 1 + t) (t := x + t) (by omega) (by omega) (by omega)) ?_
        rintro ⟨p1, p2⟩ ⟨c1, c2, c3⟩
        dsimp only at c1 c2 c3
        subst c1
        refine ok_l ⟨by simp only [lit32, nI_add]; rfl, fun c hc => ⟨fun h => ?_, fun h => ?_⟩⟩
        · by_cases e : c = x + t
          · subst e
            obtain ⟨u1, u2⟩ := (e2 (x + t + 1) (by omega)).2 (by omega)
            refine ⟨?_, fun k hk => ?_⟩
            · dsimp only; rw [upd_eq, show x + 1 + t = x + t + 1 by omega]; exact u1
            · dsimp only; rw [c2 k hk, show x + 1 + t = x + t + 1 by omega]; exact u2 k hk
          · obtain ⟨u1, u2⟩ := (e2 c (by omega)).1 (by omega)
            refine ⟨?_, fun k hk => ?_⟩
            · dsimp only; rw [upd_ne _ _ e]; exact u1
            · dsimp only; rw [c3 _ (by omega)]; exact u2 k hk
        · obtain ⟨u1, u2⟩ := (e2 c (by omega)).2 (by omega)
          refine ⟨?_, fun k hk => ?_⟩
          · dsimp only; rw [upd_ne _ _ (by omega)]; exact u1
          · dsimp only; rw [c3 _ (by omega)]; exact u2 k hk
      · rintro ⟨s1, s2, s3⟩ ⟨e1, e2⟩
        dsimp only at e1 e2
        subst e1
        unfold m_X1_removeAt_B4
        rw [if_pos (by rw [nI_le_iff (by omega) (by omega)]; omega)]
        refine ok_r (fun c hc => ?_)
        dsimp only
        by_cases e : c < x
        · rw [if_pos e]; exact (e2 c (by omega)).2 (by omega)
        · rw [if_neg e]; exact (e2 c (by omega)).1 (by omega)
    have hB : OkS (it m_X12_removeCitation_B39 fu (nI (71 + 6 * x), upd M_s 70 (nI (a 70 - 1)))) (fun r => RM r (gone a x)) := by
      refine ok_for (fun t st => st.1 = nI (71 + 6 * x + t) ∧ ∀ j, j < 131 → st.2 j = nI (if j = 70 then a 70 - 1 else if 71 + 6 * x ≤ j ∧ j < 71 + 6 * x + t then a (j + 6) else a j)) (6 * (a 70 - 1 - x)) ⟨rfl, fun j hj => ?_⟩ ?_ ?_ (by omega)
      · dsimp only
        by_cases e : j = 70
        · rw [e, upd_eq, if_pos rfl]
        · rw [upd_ne _ _ e, if_neg e, if_neg (by omega)]; exact r4 j hj
      · rintro t ⟨s1, s2⟩ hi ⟨e1, e2⟩
        dsimp only at e1 e2
        subst e1
        have e70 := e2 70 (by omega)
        rw [if_pos rfl] at e70
        unfold m_X12_removeCitation_B39
        simp (disch := omega) only [lit32, ck_nI, tn_nI, e70, nI_mul, nI_add, nI_le_iff]
        rw [if_neg (by omega)]
        refine ok_l ⟨rfl, fun j hj => ?_⟩
        dsimp only
        by_cases e : j = 71 + 6 * x + t
        · subst e
          rw [upd_eq, e2 _ (by omega), if_neg (by omega), if_neg (by omega), if_neg (by omega), if_pos (by omega)]
        · rw [upd_ne _ _ e, e2 j hj]
          congr 1
          by_cases e' : j = 70
          · rw [if_pos e', if_pos e']
          · rw [if_neg e', if_neg e']
            by_cases h : 71 + 6 * x ≤ j ∧ j < 71 + 6 * x + t
            · rw [if_pos h, if_pos (by omega)]
            · rw [if_neg h, if_neg (by omega)]
      · rintro ⟨s1, s2⟩ ⟨e1, e2⟩
        dsimp only at e1 e2
        subst e1
        have e70 := e2 70 (by omega)
        rw [if_pos rfl] at e70
        unfold m_X12_removeCitation_B39
        simp (disch := omega) only [lit32, ck_nI, tn_nI, e70, nI_mul, nI_add, nI_le_iff]
        rw [if_pos (by omega)]
        refine ok_r (fun j hj => ?_)
        rw [e2 j hj, show 71 + 6 * x + 6 * (a 70 - 1 - x) = 71 + 6 * (a 70 - 1) by omega]
        rfl
    obtain ⟨rA, hA1, hA2⟩ := hA
    obtain ⟨rB, hB1, hB2⟩ := hB
    refine ⟨(nI (a (71 + 6 * x)), nI (a 70 - 1), rA.1, rA.2, o1.1, o1.2.1, o1.2.2), (nI (a (71 + 6 * x)), rB, o2.1, o2.2), ?_, ?_, rfl, ht, ⟨gone a x, ⟨?_, ?_, ?_⟩, ?_, ?_, ?_, hB2⟩, s3⟩
    · unfold m_X11_removeCitation m_X1_removeAt
      rw [show m_X1_has C_n (nI x) = some 1 by rw [r3.1]; exact f1, bd, if_neg (by decide), s1, bd, ck_nI (by omega) (by omega), tn_nI (by omega), r3.1, hA1, bd, bd, q1, show (1 : Int32) = nI 1 from rfl, nI_sub (by omega) (by omega)]
    · unfold m_X12_removeCitation
      rw [f2, bd, if_neg (by decide), s2, bd, hcit, bd]
      simp (disch := omega) only [lit32, ck_nI, tn_nI, h70, nI_mul, nI_add, nI_sub]
      rw [hB1, bd]
    · exact OkW_cg (fun i hi => gone_lo (by omega)) ho.1
    · exact OkE_cg (fun i h1 h2 => gone_lo h2) ho.2.1
    · exact OkC_gone k1 ho.2.2
    · exact RW_cg (fun i hi => gone_lo (by omega)) ho.1 r1
    · exact RS_cg (fun i h1 h2 => gone_lo h2) r2
    · refine ⟨rfl, fun c hc => ?_⟩
      have hc' : c < a 70 - 1 := hc
      have hd : (if c < x then c else c + 1) < a 70 := by split <;> omega
      obtain ⟨u1, u2⟩ := hA2 c (by omega)
      obtain ⟨t1, t2⟩ := r3.2 _ hd
      have := ho.2.2.2 _ hd
      dsimp only
      rw [gone_at0 (by omega), u1]
      refine ⟨t1, fun k hk => ?_⟩
      rw [u2 k (by omega), gone_at1 (by omega) (by omega)]
      exact t2 k hk
  · refine ⟨((-1), C_n, C_sz, C_cd, Y_n, Y_nx, Q_rv), ((-1), M_s, M_ke, M_km), ?_, ?_, rfl, ht, ⟨a, ho, r1, r2, r3, r4⟩, h5⟩
    · unfold m_X11_removeCitation
      rw [r3.1, f1, bd, if_pos rfl]
    · unfold m_X12_removeCitation
      rw [f2, bd, if_pos rfl]
