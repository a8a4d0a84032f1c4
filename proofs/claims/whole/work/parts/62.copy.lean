/-- the class's works, one after the other, are those -/
def SameW (ac fa ini yr ti ac' fa' ini' yr' ti' : Nat → Int32) (w w' : Nat) : Prop := ac w = ac' w' ∧ (∀ k, k < 4 → fa (4 * w + k) = fa' (4 * w' + k) ∧ ini (4 * w + k) = ini' (4 * w' + k)) ∧ yr w = yr' w' ∧ ti w = ti' w'
theorem copyFromW_ok (W_n : Int32) (W_ac W_fa W_in W_yr W_ti X_ac X_fa X_in X_yr X_ti : Nat → Int32) {n : Nat} (hn : n ≤ 8) : OkS (m_X9_copyFrom W_n W_ac W_fa W_in W_yr W_ti (nI n) X_ac X_fa X_in X_yr X_ti) (fun o => o.1 = nI n ∧ ∀ w, w < n → SameW o.2.1 o.2.2.1 o.2.2.2.1 o.2.2.2.2.1 o.2.2.2.2.2 X_ac X_fa X_in X_yr X_ti w w) := by
  unfold m_X9_copyFrom
  refine ok_bind (Q := fun r => ∀ w, w < n → SameW r.1 r.2.1 r.2.2.1 r.2.2.2.1 r.2.2.2.2 X_ac X_fa X_in X_yr X_ti w w) ?_ (fun r h => ok_some ⟨rfl, h⟩)
  refine ok_for (fun i st => st.1 = nI i ∧ ∀ w, w < i → SameW st.2.1 st.2.2.1 st.2.2.2.1 st.2.2.2.2.1 st.2.2.2.2.2 X_ac X_fa X_in X_yr X_ti w w) n ⟨rfl, fun k hk => absurd hk (Nat.not_lt_zero k)⟩ ?_ ?_ (by omega)
  · rintro i ⟨s1, s2, s3, s4, s5, s6⟩ hi ⟨e1, e2⟩
    dsimp only at e1 e2
    subst e1
    unfold m_X9_copyFrom_B10
    simp (disch := omega) only [lit32, nI_le_iff]
    rw [if_neg (by omega)]
    refine ok_bind (copyWork_ok s2 s3 s4 s5 s6 X_ac X_fa X_in X_yr X_ti (f := i) (t := i) (by omega) (by omega)) (fun o ho => ?_)
    obtain ⟨o1, o2, o3, o4, o5⟩ := o
    obtain ⟨h1, h2, h3, h4, h5⟩ := ho
    dsimp only at h1 h2 h3 h4 h5
    subst h1; subst h2; subst h3
    refine ok_l ⟨by rw [nI_add], fun w hw => ?_⟩
    by_cases e : w = i
    · subst e
      exact ⟨upd_eq _ _ _, h4, upd_eq _ _ _, upd_eq _ _ _⟩
    · obtain ⟨g1, g2, g3, g4⟩ := e2 w (by omega)
      refine ⟨(upd_ne _ _ e).trans g1, fun k hk => ?_, (upd_ne _ _ e).trans g3, (upd_ne _ _ e).trans g4⟩
      dsimp only
      rw [(h5 (4 * w + k) (by omega)).1, (h5 (4 * w + k) (by omega)).2]
      exact g2 k hk
  · rintro ⟨s1, s2, s3, s4, s5, s6⟩ ⟨e1, e2⟩
    dsimp only at e1 e2
    subst e1
    unfold m_X9_copyFrom_B10
    simp (disch := omega) only [lit32, nI_le_iff]
    rw [if_pos (by omega)]
    exact ok_r e2
theorem RW_same {W_n : Int32} {ac fa ini yr ti ac' fa' ini' yr' ti' : Nat → Int32} {a : Nat → Nat} (ho : Ok a) (h : RW W_n ac' fa' ini' yr' ti' a) (hs : ∀ w, w < a 0 → SameW ac fa ini yr ti ac' fa' ini' yr' ti' w w) : RW W_n ac fa ini yr ti a := by
  refine ⟨h.1, fun w hw => ?_⟩
  obtain ⟨h1, h2, h3, h4⟩ := h.2 w hw
  obtain ⟨g1, g2, g3, g4⟩ := hs w hw
  have h5 := (ho.1.2 w hw).1.2
  exact ⟨by rw [g1]; exact h1, fun k hk => by rw [(g2 k (by omega)).1, (g2 k (by omega)).2]; exact h2 k hk, by rw [g3]; exact h3, by rw [g4]; exact h4⟩
theorem copyFromS_ok (S_st S_mi S_fi S_sp S_cl S_nu S_co Z_st Z_mi Z_fi Z_sp Z_cl Z_nu Z_co : Int32) (S_ke S_di Z_ke Z_di : Nat → Int32) : OkS (m_X6_copyFrom S_st S_mi S_fi S_sp S_cl S_nu S_co S_ke S_di Z_st Z_mi Z_fi Z_sp Z_cl Z_nu Z_co Z_ke Z_di) (fun o => ∃ ke di, o = (Z_st, Z_mi, Z_fi, Z_sp, Z_cl, Z_nu, Z_co, ke, di) ∧ ∀ j, j < 3 → ke j = Z_ke j ∧ di j = Z_di j) := by
  unfold m_X6_copyFrom
  refine ok_bind (Q := fun r => ∀ j, j < 3 → r.1 j = Z_ke j ∧ r.2 j = Z_di j) ?_ (fun r h => ok_some ⟨r.1, r.2, rfl, h⟩)
  refine ok_for (fun i st => st.1 = nI i ∧ ∀ j, j < i → st.2.1 j = Z_ke j ∧ st.2.2 j = Z_di j) 3 ⟨rfl, fun k hk => absurd hk (Nat.not_lt_zero k)⟩ ?_ ?_ (by omega)
  · rintro i ⟨s1, s2, s3⟩ hi ⟨e1, e2⟩
    dsimp only at e1 e2
    subst e1
    unfold m_X6_copyFrom_B58
    simp (disch := omega) only [lit32, nI_le_iff, nI_add, ck_nI, tn_nI]
    rw [if_neg (by omega)]
    refine ok_l ⟨rfl, fun j hj => ?_⟩
    by_cases e : j = i
    · subst e
      exact ⟨upd_eq _ _ _, upd_eq _ _ _⟩
    · dsimp only
      rw [upd_ne _ _ e, upd_ne _ _ e]
      exact e2 j (by omega)
  · rintro ⟨s1, s2, s3⟩ ⟨e1, e2⟩
    dsimp only at e1 e2
    subst e1
    unfold m_X6_copyFrom_B58
    simp (disch := omega) only [lit32, nI_le_iff]
    rw [if_pos (by omega)]
    exact ok_r e2
/-- the class's citations are those -/
def SameC (sz cd sz' cd' : Nat → Int32) (c c' : Nat) : Prop := sz c = sz' c' ∧ ∀ k, k < 5 → cd (5 * c + k) = cd' (5 * c' + k)
theorem copyCit_ok (C_sz C_cd K_sz K_cd : Nat → Int32) {f t : Nat} (hf : f < 10) (ht : t < 10) : OkS (m_X1_copyCitation C_sz C_cd K_sz K_cd (nI f) (nI t)) (fun o => o.1 = upd C_sz t (K_sz f) ∧ (∀ k, k < 5 → o.2 (5 * t + k) = K_cd (5 * f + k)) ∧ (∀ j, j < 5 * t ∨ 5 * t + 5 ≤ j → o.2 j = C_cd j)) := by
  unfold m_X1_copyCitation
  simp (disch := omega) only [ck_nI, tn_nI]
  refine ok_bind (Q := fun r => (∀ k, k < 5 → r (5 * t + k) = K_cd (5 * f + k)) ∧ (∀ j, j < 5 * t ∨ 5 * t + 5 ≤ j → r j = C_cd j)) ?_ (fun r h => ok_some ⟨rfl, h⟩)
  refine ok_for (fun i st => st.1 = nI i ∧ (∀ k, k < i → st.2 (5 * t + k) = K_cd (5 * f + k)) ∧ (∀ j, j < 5 * t ∨ 5 * t + i ≤ j → st.2 j = C_cd j)) 5 ⟨rfl, fun k hk => absurd hk (Nat.not_lt_zero k), fun j _ => rfl⟩ ?_ ?_ (by omega)
  · rintro i ⟨s1, s2⟩ hi ⟨e1, e2, e3⟩
    dsimp only at e1 e2 e3
    subst e1
    unfold m_X1_copyCitation_B15
    simp (disch := omega) only [lit32, nI_le_iff, nI_mul, nI_add, ck_nI, tn_nI]
    rw [if_neg (by omega)]
    refine ok_l ⟨rfl, fun k hk => ?_, fun j hj => ?_⟩
    · by_cases e : k = i
      · subst e
        simp [upd, Nat.mul_comm]
      · simp only [upd]
        rw [if_neg (by omega)]
        exact e2 k (by omega)
    · simp only [upd]
      rw [if_neg (by omega)]
      exact e3 j (by omega)
  · rintro ⟨s1, s2⟩ ⟨e1, e2, e3⟩
    dsimp only at e1 e2 e3
    subst e1
    unfold m_X1_copyCitation_B15
    simp (disch := omega) only [lit32, nI_le_iff]
    rw [if_pos (by omega)]
    exact ok_r ⟨e2, e3⟩
theorem copyFromC_ok (C_n : Int32) (C_sz C_cd K_sz K_cd : Nat → Int32) {n : Nat} (hn : n ≤ 10) : OkS (m_X1_copyFrom C_n C_sz C_cd (nI n) K_sz K_cd) (fun o => o.1 = nI n ∧ ∀ c, c < n → SameC o.2.1 o.2.2 K_sz K_cd c c) := by
  unfold m_X1_copyFrom
  refine ok_bind (Q := fun r => ∀ c, c < n → SameC r.1 r.2 K_sz K_cd c c) ?_ (fun r h => ok_some ⟨rfl, h⟩)
  refine ok_for (fun i st => st.1 = nI i ∧ ∀ c, c < i → SameC st.2.1 st.2.2 K_sz K_cd c c) n ⟨rfl, fun k hk => absurd hk (Nat.not_lt_zero k)⟩ ?_ ?_ (by omega)
  · rintro i ⟨s1, s2, s3⟩ hi ⟨e1, e2⟩
    dsimp only at e1 e2
    subst e1
    unfold m_X1_copyFrom_B10
    simp (disch := omega) only [lit32, nI_le_iff]
    rw [if_neg (by omega)]
    refine ok_bind (copyCit_ok s2 s3 K_sz K_cd (f := i) (t := i) (by omega) (by omega)) (fun o ho => ?_)
    obtain ⟨o1, o2⟩ := o
    obtain ⟨h1, h2, h3⟩ := ho
    dsimp only at h1 h2 h3
    subst h1
    refine ok_l ⟨by rw [nI_add], fun c hc => ?_⟩
    by_cases e : c = i
    · subst e
      exact ⟨upd_eq _ _ _, h2⟩
    · obtain ⟨g1, g2⟩ := e2 c (by omega)
      refine ⟨(upd_ne _ _ e).trans g1, fun k hk => ?_⟩
      dsimp only
      rw [h3 (5 * c + k) (by omega)]
      exact g2 k hk
  · rintro ⟨s1, s2, s3⟩ ⟨e1, e2⟩
    dsimp only at e1 e2
    subst e1
    unfold m_X1_copyFrom_B10
    simp (disch := omega) only [lit32, nI_le_iff]
    rw [if_pos (by omega)]
    exact ok_r e2
theorem RT_same {C_n : Int32} {sz cd sz' cd' : Nat → Int32} {a : Nat → Nat} (ho : Ok a) (h : RT C_n sz' cd' a) (hs : ∀ c, c < a 70 → SameC sz cd sz' cd' c c) : RT C_n sz cd a := by
  refine ⟨h.1, fun c hc => ?_⟩
  obtain ⟨h1, h2⟩ := h.2 c hc
  obtain ⟨g1, g2⟩ := hs c hc
  have h5 := (ho.2.2.2 c hc).1.2
  exact ⟨by rw [g1]; exact h1, fun k hk => by rw [g2 k (by omega)]; exact h2 k hk⟩
/-- State.copyFrom: the copy is what the other is -/
theorem copyFrom_ok (W_n : Int32) (W_ac W_fa W_in W_yr W_ti : Nat → Int32) (S_st S_mi S_fi S_sp S_cl S_nu S_co : Int32) (S_ke S_di : Nat → Int32) (C_n : Int32) (C_sz C_cd : Nat → Int32) {X_n : Int32} {X_ac X_fa X_in X_yr X_ti : Nat → Int32} {Z_st Z_mi Z_fi Z_sp Z_cl Z_nu Z_co : Int32} {Z_ke Z_di : Nat → Int32} {K_n : Int32} {K_sz K_cd : Nat → Int32} {a : Nat → Nat} (ho : Ok a) (h1 : RW X_n X_ac X_fa X_in X_yr X_ti a) (h2 : RS Z_st Z_mi Z_fi Z_sp Z_cl Z_nu Z_co Z_ke Z_di a) (h3 : RT K_n K_sz K_cd a) :
    OkS (m_X7_copyFrom W_n W_ac W_fa W_in W_yr W_ti S_st S_mi S_fi S_sp S_cl S_nu S_co S_ke S_di C_n C_sz C_cd X_n X_ac X_fa X_in X_yr X_ti Z_st Z_mi Z_fi Z_sp Z_cl Z_nu Z_co Z_ke Z_di K_n K_sz K_cd) (fun o => RC o a) := by
  unfold m_X7_copyFrom
  rw [h1.1, h3.1]
  refine ok_bind (copyFromW_ok W_n W_ac W_fa W_in W_yr W_ti X_ac X_fa X_in X_yr X_ti ho.1.1) (fun o1 g1 => ?_)
  refine ok_bind (copyFromS_ok S_st S_mi S_fi S_sp S_cl S_nu S_co Z_st Z_mi Z_fi Z_sp Z_cl Z_nu Z_co S_ke S_di Z_ke Z_di) (fun o2 g2 => ?_)
  refine ok_bind (copyFromC_ok C_n C_sz C_cd K_sz K_cd ho.2.2.1) (fun o3 g3 => ?_)
  obtain ⟨ke, di, rfl, g2⟩ := g2
  obtain ⟨p1, p2, p3, p4, p5, p6⟩ := o1
  obtain ⟨q1, q2, q3⟩ := o3
  refine ok_some ⟨?_, ⟨h2.1, fun j hj => ?_⟩, ?_⟩
  · exact RW_same ho (by rw [show p1 = X_n from g1.1.trans h1.1.symm]; exact h1) g1.2
  · dsimp only
    rw [(g2 j hj).1, (g2 j hj).2]
    exact h2.2 j hj
  · exact RT_same ho (by rw [show q1 = K_n from g3.1.trans h3.1.symm]; exact h3) g3.2
