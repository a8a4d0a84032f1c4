/-! ===== a numeric citation ===== -/
theorem nums2 {s bn nu se ro : Nat → Int32} {a nm q : Nat → Nat} {od li bo : Nat → Int32} (h8 : a 0 ≤ 8) (hA : AR a nm od nu li bo bn) {c : Nat} (h5 : a (71 + 6 * c) ≤ 5) (hqa : ∀ i, i < a (71 + 6 * c) → q i < a 0) (hq : SqR a c q se ro) {i : Nat} (hi : i < a (71 + 6 * c)) : m_X5_numberAt nu se (nI i) = some (nI (nm (q i) + 1)) ∧ m_X12_numberIn bn ro (nI i) = some (nI (nm (q i) + 1)) := by
  obtain ⟨_, x1, x2⟩ := hq i hi
  have hw := hqa i hi
  constructor
  · unfold m_X5_numberAt
    rw [ck_nI (by omega) (by omega), tn_nI (by omega), x1, ck_nI (by omega) (by omega), tn_nI (by omega), (hA.2 _ hw).2.2.1]
  · unfold m_X12_numberIn
    rw [ck_nI (by omega) (by omega), tn_nI (by omega), x2, placeBn h8 hA hw, bd, nI_s]
theorem run2 {s bn nu se ro : Nat → Int32} {a nm q : Nat → Nat} {od li bo : Nat → Int32} (r4 : RM s a) (h8 : a 0 ≤ 8) (hA : AR a nm od nu li bo bn) {c : Nat} (hc : c < 10) (h5 : a (71 + 6 * c) ≤ 5) (hqa : ∀ i, i < a (71 + 6 * c) → q i < a 0) (hq : SqR a c q se ro) {j : Nat} (hj : j < a (71 + 6 * c)) : Ok2 (it (m_X5_runEnd_B2 nu se (nI (a (71 + 6 * c)))) fu (nI j)) (it (m_X12_putNumeric_B19 (nI c) s bn ro) fu (nI j)) (fun u v => ∃ e, j ≤ e ∧ e < a (71 + 6 * c) ∧ u = nI e ∧ v = nI e) := by
  refine ok2_for (fun t st tt => st = nI (j + t) ∧ tt = nI (j + t) ∧ j + t < a (71 + 6 * c)) (a (71 + 6 * c) - 1 - j) ⟨rfl, rfl, hj⟩ ?_ ?_ (by omega)
  · rintro t st tt ht ⟨rfl, rfl, e3⟩
    obtain ⟨n1, n2⟩ := nums2 (s := s) h8 hA h5 hqa hq e3
    obtain ⟨m1, m2⟩ := nums2 (s := s) h8 hA h5 hqa hq (i := j + t + 1) (by omega)
    unfold m_X5_runEnd_B2 m_X12_putNumeric_B19
    rw [citesM_ok r4 (by omega), bd, nI_s]
    have hN : ¬ (nI (a (71 + 6 * c)) ≤ nI (j + t + 1)) := by rw [nI_le_iff (by omega) (by omega)]; omega
    rw [if_neg hN, if_neg hN, n1, n2, m1, m2]
    simp only [bd]
    by_cases e : nI (nm (q (j + t + 1)) + 1) = nI (nm (q (j + t)) + 1) + 1
    · rw [if_pos e]
      exact ok2_il ⟨rfl, rfl, by omega⟩
    · rw [if_neg e]
      exact ok2_ir ⟨j + t, by omega, by omega, rfl, rfl⟩
  · rintro st tt ⟨rfl, rfl, e3⟩
    unfold m_X5_runEnd_B2 m_X12_putNumeric_B19
    rw [citesM_ok r4 (by omega), bd, nI_s]
    have hN : nI (a (71 + 6 * c)) ≤ nI (j + (a (71 + 6 * c) - 1 - j) + 1) := by rw [nI_le_iff (by omega) (by omega)]; omega
    rw [if_pos hN, if_pos hN]
    exact ok2_ir ⟨_, by omega, e3, rfl, rfl⟩
theorem nu2 {s bn nu se ro : Nat → Int32} {a nm q : Nat → Nat} {od li bo : Nat → Int32} (r4 : RM s a) (ho : Ok a) (hA : AR a nm od nu li bo bn) {c : Nat} (hc : c < a 70) (hq : SqR a c q se ro) (E_li M_ou : Nat → Int32) : Ok2 (m_X5_writeNumeric (nI (a 61)) nu 0 E_li se (nI (a (71 + 6 * c)))) (m_X12_putNumeric s bn M_ou 0 ro (nI c)) (fun u v => WR 100 u.1 u.2 v.1 v.2) := by
  have h8 := ho.1.1
  have h10 := ho.2.2.1
  have hcl := ho.2.1.1.2.2.2.2.1
  obtain ⟨q1, q2, q3⟩ := ho.2.2.2 c hc
  have hqa : ∀ i, i < a (71 + 6 * c) → q i < a 0 := fun i hi => by
    obtain ⟨⟨j, hj, e⟩, _⟩ := hq i hi
    rw [e]; exact q2 j hj
  unfold m_X5_writeNumeric m_X12_putNumeric
  refine ok2_bind (wr2 (WR_0 E_li M_ou) (by omega) _) (fun u v h => ?_)
  refine ok2_bind (Q := fun u v => WR 86 u.1 u.2 v.1 v.2) ?_ (fun u v h => ok2_bind (wr2 h (by omega) _) (fun u v h => ok2_some (WR_le h (by omega))))
  refine ok2_for (fun n st tt => ∃ j, n ≤ j ∧ j ≤ a (71 + 6 * c) ∧ st.1 = nI j ∧ tt.1 = nI j ∧ WR (1 + 4 * j) st.2.1 st.2.2 tt.2.1 tt.2.2) (a (71 + 6 * c)) ⟨0, by omega, by omega, rfl, rfl, h⟩ ?_ ?_ (by omega)
  · rintro n ⟨c1, c2, c3⟩ ⟨t1, t2, t3⟩ hn ⟨j, hnj, hj, e1, e2, e3⟩
    dsimp only at e1 e2 e3
    subst e1 e2
    unfold m_X5_writeNumeric_B8 m_X12_putNumeric_B8
    rw [citesM_ok r4 (by omega), bd]
    dsimp only
    by_cases hjS : a (71 + 6 * c) ≤ j
    · have hN : nI (a (71 + 6 * c)) ≤ nI j := by rw [nI_le_iff (by omega) (by omega)]; omega
      rw [if_pos hN, if_pos hN]
      exact ok2_ir (WR_le e3 (by omega))
    · have hN : ¬ (nI (a (71 + 6 * c)) ≤ nI j) := by rw [nI_le_iff (by omega) (by omega)]; omega
      obtain ⟨n1, n2⟩ := nums2 (s := s) h8 hA q1.2 hqa hq (i := j) (by omega)
      obtain ⟨ru, rv, ra, rb, e, re1, re2, rfl, rfl⟩ := run2 r4 h8 hA (c := c) (by omega) q1.2 hqa hq (j := j) (by omega)
      obtain ⟨m1, m2⟩ := nums2 (s := s) h8 hA q1.2 hqa hq (i := e) (by omega)
      rw [if_neg hN, if_neg hN, rb, bd]
      have key : ∀ {E_n M_om : Int32} {E_li M_ou : Nat → Int32}, WR (1 + 4 * j + 1) E_n E_li M_ou M_om → Ok2 (m_X5_writeNumeric_J26 (nI j) (nI (a 61)) nu E_n E_li se (nI (a (71 + 6 * c)))) (m_X12_putNumeric_J63 (nI c) (nI j) (nI e) s bn M_ou M_om ro) (LR (fun st tt => ∃ j, n + 1 ≤ j ∧ j ≤ a (71 + 6 * c) ∧ st.1 = nI j ∧ tt.1 = nI j ∧ WR (1 + 4 * j) st.2.1 st.2.2 tt.2.1 tt.2.2) (fun u v => WR 86 u.1 u.2 v.1 v.2)) := by
        intro E_n M_om E_li M_ou h
        unfold m_X5_writeNumeric_J26 m_X12_putNumeric_J63 m_X5_runEnd m_X5_writeNumeric_J54 m_X12_putNumeric_J112 m_X5_writeNumeric_J79
        rw [n1, n2, bd, bd]
        refine ok2_bind (wd2 h (by omega) _ _ rfl) (fun u v h => ?_)
        rw [ck_lit (by decide) (by decide), show Int32.toNatClampNeg 61 = 61 from rfl, r4 61 (by omega), ra, bd, bd, nI_s]
        by_cases c61 : a 61 = 0
        · rw [if_pos (show nI (a 61) = 0 by rw [c61]; rfl), if_pos (show nI (a 61) ≤ 0 by rw [zle (by omega)]; exact c61), if_pos (show nI j - nI j < 2 by rw [nI_sub (by omega) (by omega), show (2 : Int32) = nI 2 from rfl, nI_lt_iff (by omega) (by omega)]; omega)]
          exact ok2_il ⟨j + 1, by omega, by omega, rfl, rfl, WR_le h (by omega)⟩
        · rw [if_neg (show ¬ (nI (a 61) = 0) by rw [zeq (by omega)]; exact c61), if_neg (show ¬ (nI (a 61) ≤ 0) by rw [zle (by omega)]; exact c61), nI_sub re1 (by omega), show (2 : Int32) = nI 2 from rfl, show (1 : Int32) = nI 1 from rfl]
          simp (disch := omega) only [nI_lt_iff, nI_le_iff]
          by_cases ce : e - j < 2
          · rw [if_pos ce, if_pos (show e - j ≤ 1 by omega)]
            exact ok2_il ⟨j + 1, by omega, by omega, rfl, rfl, WR_le h (by omega)⟩
          · rw [if_neg ce, if_neg (show ¬ (e - j ≤ 1) by omega)]
            refine ok2_bind (wr2 h (by omega) _) (fun u v h => ?_)
            rw [m1, m2, bd, bd]
            refine ok2_bind (wd2 h (by omega) _ _ rfl) (fun u v h => ?_)
            exact ok2_il ⟨e + 1, by omega, by omega, nI_s _, nI_add _ _, WR_le h (by omega)⟩
      by_cases e0 : j = 0
      · have e0' : nI j ≤ 0 := by rw [zle (by omega)]; exact e0
        rw [if_pos e0', if_pos e0']
        exact key (WR_le e3 (by omega))
      · have e0' : ¬ (nI j ≤ 0) := by rw [zle (by omega)]; exact e0
        rw [if_neg e0', if_neg e0']
        exact ok2_bind (wr2 e3 (by omega) _) (fun u v h => key h)
  · rintro ⟨c1, c2, c3⟩ ⟨t1, t2, t3⟩ ⟨j, hnj, hj, e1, e2, e3⟩
    dsimp only at e1 e2 e3
    subst e1 e2
    unfold m_X5_writeNumeric_B8 m_X12_putNumeric_B8
    rw [citesM_ok r4 (by omega), bd]
    dsimp only
    have hN : nI (a (71 + 6 * c)) ≤ nI j := by rw [nI_le_iff (by omega) (by omega)]; omega
    rw [if_pos hN, if_pos hN]
    exact ok2_ir (WR_le e3 (by omega))
/-! ===== a note ===== -/
theorem early2 {C_n : Int32} {C_sz C_cd s : Nat → Int32} {a : Nat → Nat} (hoC : OkC a) (h8 : a 0 ≤ 8) (r3 : RT C_n C_sz C_cd a) (r4 : RM s a) {c w : Nat} (hc : c < a 70) (hw : w < a 0) (hin : ∃ j, j < a (71 + 6 * c) ∧ w = a (72 + 6 * c + j)) : (∃ e, e < c ∧ m_X1_earliestCiting C_n C_sz C_cd (nI w) = some (nI e) ∧ m_X12_earliest s (nI w) (nI c) = some (nI e)) ∨ (m_X1_earliestCiting C_n C_sz C_cd (nI w) = some (nI c) ∧ m_X12_earliest s (nI w) (nI c) = some (-9)) := by
  have h10 := hoC.1
  have lock : Ok2 (it (m_X1_earliestCiting_B2 (nI w) C_n C_sz C_cd) fu 0) (it (m_X12_earliest_B2 (nI w) (nI c) s) fu 0) (fun u v => (∃ e, e < c ∧ u = nI e ∧ v = .inl (nI e)) ∨ (u = nI c ∧ v = .inr ())) := by
    refine ok2_for (fun i st tt => st = nI i ∧ tt = nI i) c ⟨rfl, rfl⟩ ?_ ?_ (by omega)
    · rintro i st tt hi ⟨rfl, rfl⟩
      unfold m_X1_earliestCiting_B2 m_X12_earliest_B2
      rw [r3.1, if_neg (by rw [nI_le_iff (by omega) (by omega)]; omega), if_neg (by rw [nI_le_iff (by omega) (by omega)]; omega)]
      rcases cites_ok hoC h8 r3 r4 (c := i) (k := w) (by omega) (by omega) with ⟨f1, f2⟩ | ⟨_, f1, f2⟩
      · rw [f1, f2, bd, bd, if_neg (by decide), if_neg (by decide)]
        exact ok2_ir (Or.inl ⟨i, hi, rfl, rfl⟩)
      · rw [f1, f2, bd, bd, if_pos rfl, if_pos rfl, nI_s]
        exact ok2_il ⟨rfl, rfl⟩
    · rintro st tt ⟨rfl, rfl⟩
      unfold m_X1_earliestCiting_B2 m_X12_earliest_B2
      rw [r3.1, if_neg (by rw [nI_le_iff (by omega) (by omega)]; omega), if_pos (by rw [nI_le_iff (by omega) (by omega)]; omega)]
      rcases cites_ok hoC h8 r3 r4 (c := c) (k := w) hc (by omega) with ⟨f1, f2⟩ | ⟨f0, f1, f2⟩
      · rw [f1, bd, if_neg (by decide)]
        exact ok2_ir (Or.inr ⟨rfl, rfl⟩)
      · obtain ⟨j, hj, e⟩ := hin
        exact absurd e.symm (f0 j hj)
  obtain ⟨u, v, h1, h2, h3⟩ := lock
  unfold m_X1_earliestCiting m_X12_earliest
  rw [h1, h2, bd, bd]
  rcases h3 with ⟨e, he, rfl, rfl⟩ | ⟨rfl, rfl⟩
  · exact Or.inl ⟨e, he, rfl, rfl⟩
  · exact Or.inr ⟨rfl, rfl⟩
theorem no2 {W_n : Int32} {W_ac W_fa W_in W_yr W_ti s : Nat → Int32} {a sh ini sx : Nat → Nat} (ho : OkW a) (r1 : RW W_n W_ac W_fa W_in W_yr W_ti a) (r4 : RM s a) (hoC : OkC a) {L_sh L_wi L_su : Nat → Int32} {L_nk : Nat → Int64} {M_sh M_in M_su : Nat → Int32} (hC : LbC a sh ini sx L_sh L_wi L_su L_nk) (hM : LbM a sh ini sx M_sh M_in M_su) (hO : LbO a sh ini sx) {C_n : Int32} {C_sz C_cd : Nat → Int32} (r3 : RT C_n C_sz C_cd a) {c : Nat} (hc : c < a 70) {q : Nat → Nat} {se ro : Nat → Int32} (hq : SqR a c q se ro) (E_li M_ou : Nat → Int32) : Ok2 (m_X5_writeNote W_ac W_fa W_in W_yr W_ti C_n C_sz C_cd L_sh L_wi 0 E_li se (nI (a (71 + 6 * c))) (nI c)) (m_X12_putNote s M_sh M_in M_ou 0 ro (nI c)) (fun u v => WR 100 u.1 u.2 v.1 v.2) := by
  have h8 := ho.1
  have h10 := hoC.1
  obtain ⟨q1, q2, q3⟩ := hoC.2 c hc
  have hqa : ∀ i, i < a (71 + 6 * c) → q i < a 0 := fun i hi => by
    obtain ⟨⟨j, hj, e⟩, _⟩ := hq i hi
    rw [e]; exact q2 j hj
  unfold m_X5_writeNote m_X12_putNote
  refine ok2_bind (Q := fun u v => WR 86 u.1 u.2 v.1 v.2) ?_ (fun u v h => ok2_bind (wr2 h (by omega) _) (fun u v h => ok2_some (WR_le h (by omega))))
  refine ok2_for (fun i st tt => st.1 = nI i ∧ tt.1 = nI i ∧ WR (17 * i) st.2.1 st.2.2 tt.2.1 tt.2.2) (a (71 + 6 * c)) ⟨rfl, rfl, WR_0 _ _⟩ ?_ ?_ (by omega)
  · rintro i ⟨c1, c2, c3⟩ ⟨t1, t2, t3⟩ hi ⟨e1, e2, e3⟩
    dsimp only at e1 e2 e3
    subst e1 e2
    obtain ⟨hin, x1, x2⟩ := hq i hi
    have hw := hqa i hi
    have ear := early2 hoC h8 r3 r4 hc hw hin
    have ti := (ho.2 _ hw).2.2.2
    obtain ⟨ev, hev, key⟩ : ∃ ev, m_X12_earliest s (nI (q i)) (nI c) = some ev ∧ ∀ {E_n M_om : Int32} {E_li M_ou : Nat → Int32}, WR (17 * i + 1) E_n E_li M_ou M_om → Ok2 (m_X5_writeNote_J41 (nI c) (nI i) W_ac W_fa W_in W_yr W_ti C_n C_sz C_cd L_sh L_wi E_n E_li se) (m_X12_putNote_J78 (nI c) (nI i) (nI (q i)) (ev + 1) s M_sh M_in M_ou M_om) (LR (fun st tt => st.1 = nI (i + 1) ∧ tt.1 = nI (i + 1) ∧ WR (17 * (i + 1)) st.2.1 st.2.2 tt.2.1 tt.2.2) (fun u v => WR 86 u.1 u.2 v.1 v.2)) := by
      rcases ear with ⟨e, he, f1, f2⟩ | ⟨f1, f2⟩
      · refine ⟨_, f2, fun {E_n M_om E_li M_ou} h => ?_⟩
        unfold m_X5_writeNote_J41 m_X12_putNote_J78 m_X5_writeNoted m_X5_writeNote_J52 m_X12_putNote_J137
        rw [ck_nI (by omega) (by omega), tn_nI (by omega), x1, f1, bd, nI_s, if_neg (by rw [nI_le_iff (by omega) (by omega)]; omega), if_neg (by rw [zle (by omega)]; omega)]
        obtain ⟨u, v, k1, k2, k3⟩ := nam2 ho r1 r4 hC hM hO hw h (by omega)
        rw [k1, k2, bd, bd]
        obtain ⟨u', v', k4, k5, k6⟩ := wr2 k3 (by omega) 110
        rw [k4, k5, bd, bd]
        obtain ⟨u'', v'', k7, k8, k9⟩ := wd2 k6 (by omega) (nI (e + 1)) (48 + (nI (e + 1) - nI (e + 1) / 10 * 10)) (by
          congr 1
          rw [show (10 : Int32) = nI 10 from rfl, nI_div (by omega) (by omega), nI_mul, nI_sub (by omega) (by omega)]
          congr 1
          omega)
        rw [k7, k8, bd, bd, bd, nI_s]
        exact ok2_il ⟨rfl, rfl, WR_le k9 (by omega)⟩
      · refine ⟨_, f2, fun {E_n M_om E_li M_ou} h => ?_⟩
        unfold m_X5_writeNote_J41 m_X12_putNote_J78 m_X5_writeNoted m_X5_writeNote_J52 m_X12_putNote_J137
        rw [ck_nI (by omega) (by omega), tn_nI (by omega), x1, f1, bd, if_pos (by rw [nI_le_iff (by omega) (by omega)]; omega), if_pos (by decide)]
        obtain ⟨u, v, k1, k2, k3⟩ := all2 ho r1 r4 hw h (by omega)
        rw [authorsM r4 (by omega), bd] at k2
        rw [k1, authorsM r4 (by omega), bd, bd, k2, bd, ck_nI (by omega) (by omega), tn_nI (by omega), (r1.2 _ hw).2.2.2, titleM r4 (by omega), bd, show (97 : Int32) + nI (a (7 + 7 * q i)) = nI (97 + a (7 + 7 * q i)) from nI_add 97 _]
        obtain ⟨u', v', k4, k5, k6⟩ := wr2 k3 (by omega) (nI (97 + a (7 + 7 * q i)))
        rw [k4, k5, bd, bd]
        obtain ⟨u'', v'', k7, k8, k9⟩ := yr2 ho r1 r4 hw k6 (by omega)
        rw [k7, k8, bd, bd, bd, nI_s]
        exact ok2_il ⟨rfl, rfl, WR_le k9 (by omega)⟩
    have key2 : ∀ {E_n M_om : Int32} {E_li M_ou : Nat → Int32}, WR (17 * i + 1) E_n E_li M_ou M_om → Ok2 (m_X5_writeNote_J20 (nI c) (nI i) W_ac W_fa W_in W_yr W_ti C_n C_sz C_cd L_sh L_wi E_n E_li se) (m_X12_putNote_J38 (nI c) (nI i) (nI (q i)) (ev + 1) s M_sh M_in M_ou M_om) (LR (fun st tt => st.1 = nI (i + 1) ∧ tt.1 = nI (i + 1) ∧ WR (17 * (i + 1)) st.2.1 st.2.2 tt.2.1 tt.2.2) (fun u v => WR 86 u.1 u.2 v.1 v.2)) := by
      intro E_n M_om E_li M_ou h
      unfold m_X5_writeNote_J20 m_X12_putNote_J38 m_X5_repeatsNoteBefore m_X5_repeatsNoteBefore_J43 m_X5_repeatsNoteBefore_J44
      by_cases e0 : i = 0
      · have e0' : nI i = 0 := by rw [e0]; rfl
        rw [if_pos e0', if_pos e0', ckb_0, ckb_1]
        by_cases cc : c = 0
        · have cc' : nI c ≤ 0 := by rw [zle (by omega)]; exact cc
          rw [if_pos cc', if_pos cc', bd, if_pos rfl]
          exact key h
        · have cc' : ¬ (nI c ≤ 0) := by rw [zle (by omega)]; exact cc
          obtain ⟨z1, z2⟩ := r3.2 (c - 1) (by omega)
          obtain ⟨w1, w2, w3⟩ := hoC.2 (c - 1) (by omega)
          rw [if_neg cc', if_neg cc', show nI c - 1 = nI (c - 1) by rw [show (1 : Int32) = nI 1 from rfl, nI_sub (by omega) (by omega)], ck_nI (by omega) (by omega), tn_nI (by omega), z1, citesM_ok r4 (by omega), bd, show (0 : Int32) = nI 0 from rfl, cited_ok r4 (by omega), bd, workAt_ok (by omega), bd, z2 0 (by omega), ck_nI (by omega) (by omega), tn_nI (by omega)]
          have hse : se 0 = nI (q i) := by rw [← x1, e0]
          rw [hse]
          have hwq := w2 0 (by omega)
          by_cases o1 : nI (a (71 + 6 * (c - 1))) = 1
          · rw [if_pos o1, if_pos o1]
            by_cases o2 : nI (a (72 + 6 * (c - 1) + 0)) = nI (q i)
            · rw [if_pos o2, if_pos o2, bd, if_neg (by decide)]
              unfold m_X5_writeNote_J52 m_X12_putNote_J137
              rw [nI_s]
              exact ok2_bind (wr2 h (by omega) _) (fun u v h => ok2_il ⟨rfl, rfl, WR_le h (by omega)⟩)
            · rw [if_neg o2, if_neg o2, bd, if_pos rfl]
              exact key h
          · rw [if_neg o1, if_neg o1, bd, if_pos rfl]
            exact key h
      · have e0' : ¬ (nI i = 0) := by rw [zeq (by omega)]; exact e0
        rw [if_neg e0', if_neg e0']
        exact key h
    unfold m_X5_writeNote_B2 m_X12_putNote_B2
    rw [citesM_ok r4 (by omega), bd]
    have hN : ¬ (nI (a (71 + 6 * c)) ≤ nI i) := by rw [nI_le_iff (by omega) (by omega)]; omega
    dsimp only
    rw [if_neg hN, if_neg hN, ck_nI (by omega) (by omega), tn_nI (by omega), x2, hev, bd]
    by_cases e0 : i = 0
    · have e0' : nI i ≤ 0 := by rw [zle (by omega)]; exact e0
      rw [if_pos e0', if_pos e0']
      exact key2 (WR_le e3 (by omega))
    · have e0' : ¬ (nI i ≤ 0) := by rw [zle (by omega)]; exact e0
      rw [if_neg e0', if_neg e0']
      exact ok2_bind (wr2 e3 (by omega) _) (fun u v h => key2 h)
  · rintro ⟨c1, c2, c3⟩ ⟨t1, t2, t3⟩ ⟨e1, e2, e3⟩
    dsimp only at e1 e2 e3
    subst e1 e2
    unfold m_X5_writeNote_B2 m_X12_putNote_B2
    rw [citesM_ok r4 (by omega), bd]
    have hN : nI (a (71 + 6 * c)) ≤ nI (a (71 + 6 * c)) := by rw [nI_le_iff (by omega) (by omega)]; omega
    dsimp only
    rw [if_pos hN, if_pos hN]
    exact ok2_ir (WR_le e3 (by omega))
