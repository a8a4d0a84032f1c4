/-! ===== what class and reference hold: a row of 131 plain numbers, as the reference lays them ===== -/
def OkW (a : Nat → Nat) : Prop := a 0 ≤ 8 ∧ ∀ w, w < a 0 → (1 ≤ a (1 + 7 * w) ∧ a (1 + 7 * w) ≤ 4) ∧ (∀ k, k < a (1 + 7 * w) → a (2 + 7 * w + k) < 676) ∧ a (6 + 7 * w) ≤ 99 ∧ a (7 + 7 * w) ≤ 25
def OkE (a : Nat → Nat) : Prop := (a 57 ≤ 2 ∧ a 58 ≤ 5 ∧ (1 ≤ a 59 ∧ a 59 ≤ 3) ∧ a 60 ≤ 7 ∧ a 61 ≤ 2 ∧ a 62 ≤ 1 ∧ a 63 ≤ 1) ∧ ∀ j, j < 3 → a (64 + 2 * j) ≤ 3 ∧ a (65 + 2 * j) ≤ 1
def OkC (a : Nat → Nat) : Prop := a 70 ≤ 10 ∧ ∀ c, c < a 70 → (1 ≤ a (71 + 6 * c) ∧ a (71 + 6 * c) ≤ 5) ∧ (∀ k, k < a (71 + 6 * c) → a (72 + 6 * c + k) < a 0) ∧ (∀ k l, k < l → l < a (71 + 6 * c) → a (72 + 6 * c + k) ≠ a (72 + 6 * c + l))
def Ok (a : Nat → Nat) : Prop := OkW a ∧ OkE a ∧ OkC a
def RW (W_n : Int32) (W_ac W_fa W_in W_yr W_ti : Nat → Int32) (a : Nat → Nat) : Prop :=
  W_n = nI (a 0) ∧ ∀ w, w < a 0 → W_ac w = nI (a (1 + 7 * w)) ∧ (∀ k, k < a (1 + 7 * w) → W_fa (4 * w + k) = nI (65 + a (2 + 7 * w + k) / 26) ∧ W_in (4 * w + k) = nI (97 + a (2 + 7 * w + k) % 26)) ∧ W_yr w = nI (a (6 + 7 * w)) ∧ W_ti w = nI (97 + a (7 + 7 * w))
def RS (S_st S_mi S_fi S_sp S_cl S_nu S_co : Int32) (S_ke S_di : Nat → Int32) (a : Nat → Nat) : Prop :=
  (S_st = nI (a 57) ∧ S_mi = nI (a 58) ∧ S_fi = nI (a 59) ∧ S_sp = nI (a 60) ∧ S_cl = nI (a 61) ∧ S_nu = nI (a 62) ∧ S_co = nI (a 63)) ∧ ∀ j, j < 3 → S_ke j = nI (a (64 + 2 * j)) ∧ S_di j = nI (a (65 + 2 * j))
def RT (C_n : Int32) (C_sz C_cd : Nat → Int32) (a : Nat → Nat) : Prop :=
  C_n = nI (a 70) ∧ ∀ c, c < a 70 → C_sz c = nI (a (71 + 6 * c)) ∧ ∀ k, k < a (71 + 6 * c) → C_cd (5 * c + k) = nI (a (72 + 6 * c + k))
def RC (v : StV) (a : Nat → Nat) : Prop := match v with
  | (W_n, W_ac, W_fa, W_in, W_yr, W_ti, S_st, S_mi, S_fi, S_sp, S_cl, S_nu, S_co, S_ke, S_di, C_n, C_sz, C_cd) => RW W_n W_ac W_fa W_in W_yr W_ti a ∧ RS S_st S_mi S_fi S_sp S_cl S_nu S_co S_ke S_di a ∧ RT C_n C_sz C_cd a
def RM (s : Nat → Int32) (a : Nat → Nat) : Prop := ∀ j, j < 131 → s j = nI (a j)
def TR (T_co : Nat → Int32) (T_n : Int32) (M_te : Nat → Int32) (M_n : Int32) : Prop := ∃ t : Nat, t ≤ 150 ∧ T_n = nI t ∧ M_n = nI t ∧ ∀ i, i < t → ∃ c : Nat, c ≤ 255 ∧ T_co i = nI c ∧ M_te i = nI c
def HR (Y_n Y_nx : Int32) (Q_rv : Nat → StV) (M_ke : Nat → Int32) (M_km : Int32) : Prop := ∃ h x : Nat, h ≤ 8 ∧ x < 8 ∧ Y_n = nI h ∧ M_km = nI h ∧ Y_nx = nI x ∧ ∀ i, i < h → ∃ a, Ok a ∧ RC (Q_rv ((x + 8 - h + i) % 8)) a ∧ RM (fun j => M_ke (131 * i + j)) a
def Rel0 : RelT := fun T_co T_n W_n W_ac W_fa W_in W_yr W_ti S_st S_mi S_fi S_sp S_cl S_nu S_co S_ke S_di C_n C_sz C_cd Y_n Y_nx Q_rv M_s M_ke M_km M_te M_n =>
  TR T_co T_n M_te M_n ∧ (∃ a, Ok a ∧ RW W_n W_ac W_fa W_in W_yr W_ti a ∧ RS S_st S_mi S_fi S_sp S_cl S_nu S_co S_ke S_di a ∧ RT C_n C_sz C_cd a ∧ RM M_s a) ∧ HR Y_n Y_nx Q_rv M_ke M_km
theorem init0 : Init Rel0 := by
  refine ⟨⟨0, by omega, rfl, rfl, fun i hi => absurd hi (Nat.not_lt_zero i)⟩, ⟨fun j => if j = 58 then 3 else if j = 59 then 1 else if j = 60 then 7 else if j = 64 then 1 else if j = 66 then 2 else 0, ?_, ?_, ?_, ?_, ?_⟩, ⟨0, 0, by omega, by omega, rfl, rfl, rfl, fun i hi => absurd hi (Nat.not_lt_zero i)⟩⟩
  · refine ⟨⟨by decide, fun w hw => absurd hw (by simp)⟩, ⟨by decide, ?_⟩, ⟨by decide, fun c hc => absurd hc (by simp)⟩⟩
    intro j hj
    rcases (show j = 0 ∨ j = 1 ∨ j = 2 by omega) with rfl | rfl | rfl <;> decide
  · exact ⟨rfl, fun w hw => absurd hw (by simp)⟩
  · refine ⟨⟨rfl, rfl, rfl, rfl, rfl, rfl, rfl⟩, fun j hj => ?_⟩
    rcases (show j = 0 ∨ j = 1 ∨ j = 2 by omega) with rfl | rfl | rfl <;> exact ⟨rfl, rfl⟩
  · exact ⟨rfl, fun w hw => absurd hw (by simp)⟩
  · intro j hj
    simp only [upd]
    by_cases h1 : j = 66
    · subst h1; rfl
    by_cases h2 : j = 64
    · subst h2; rfl
    by_cases h3 : j = 60
    · subst h3; rfl
    by_cases h4 : j = 59
    · subst h4; rfl
    by_cases h5 : j = 58
    · subst h5; rfl
    simp only [h1, h2, h3, h4, h5, if_false]
    rfl
/-! ===== copies ===== -/
theorem copyWork_ok (W_ac W_fa W_in W_yr W_ti X_ac X_fa X_in X_yr X_ti : Nat → Int32) {f t : Nat} (hf : f < 8) (ht : t < 8) : OkS (m_X9_copyWork W_ac W_fa W_in W_yr W_ti X_ac X_fa X_in X_yr X_ti (nI f) (nI t)) (fun o => o.1 = upd W_ac t (X_ac f) ∧ o.2.2.2.1 = upd W_yr t (X_yr f) ∧ o.2.2.2.2 = upd W_ti t (X_ti f) ∧ (∀ k, k < 4 → o.2.1 (4 * t + k) = X_fa (4 * f + k) ∧ o.2.2.1 (4 * t + k) = X_in (4 * f + k)) ∧ (∀ j, j < 4 * t ∨ 4 * t + 4 ≤ j → o.2.1 j = W_fa j ∧ o.2.2.1 j = W_in j)) := by
  unfold m_X9_copyWork
  simp (disch := omega) only [ck_nI, tn_nI]
  refine ok_bind (Q := fun r => (∀ k, k < 4 → r.1 (4 * t + k) = X_fa (4 * f + k) ∧ r.2 (4 * t + k) = X_in (4 * f + k)) ∧ (∀ j, j < 4 * t ∨ 4 * t + 4 ≤ j → r.1 j = W_fa j ∧ r.2 j = W_in j)) ?_ (fun r h => ok_some ⟨rfl, rfl, rfl, h⟩)
  refine ok_for (fun i st => st.1 = nI i ∧ (∀ k, k < i → st.2.1 (4 * t + k) = X_fa (4 * f + k) ∧ st.2.2 (4 * t + k) = X_in (4 * f + k)) ∧ (∀ j, j < 4 * t ∨ 4 * t + i ≤ j → st.2.1 j = W_fa j ∧ st.2.2 j = W_in j)) 4 ⟨rfl, fun k hk => absurd hk (Nat.not_lt_zero k), fun j _ => ⟨rfl, rfl⟩⟩ ?_ ?_ (by omega)
  · rintro i ⟨s1, s2, s3⟩ hi ⟨e1, e2, e3⟩
    dsimp only at e1 e2 e3
    subst e1
    unfold m_X9_copyWork_B39
    simp (disch := omega) only [lit32, nI_le_iff, nI_mul, nI_add, ck_nI, tn_nI]
    rw [if_neg (by omega)]
    refine ok_l ⟨rfl, fun k hk => ?_, fun j hj => ?_⟩
    · by_cases e : k = i
      · subst e
        simp [upd, Nat.mul_comm]
      · have := e2 k (by omega)
        simp only [upd]
        rw [if_neg (by omega), if_neg (by omega)]
        exact this
    · have := e3 j (by omega)
      simp only [upd]
      rw [if_neg (by omega), if_neg (by omega)]
      exact this
  · rintro ⟨s1, s2, s3⟩ ⟨e1, e2, e3⟩
    dsimp only at e1 e2 e3
    subst e1
    unfold m_X9_copyWork_B39
    simp (disch := omega) only [lit32, nI_le_iff]
    rw [if_pos (by omega)]
    exact ok_r ⟨e2, e3⟩
