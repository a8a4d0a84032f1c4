/-! ===== letter by letter: the line of the class, the row of the reference ===== -/
def WR (L : Nat) (E_n : Int32) (E_li M_ou : Nat → Int32) (M_om : Int32) : Prop := ∃ n, n ≤ L ∧ E_n = nI n ∧ M_om = nI n ∧ ∀ i, i < n → E_li i = M_ou i
theorem WR_0 (E_li M_ou : Nat → Int32) : WR 0 0 E_li M_ou 0 := ⟨0, by omega, rfl, rfl, fun i hi => absurd hi (by omega)⟩
theorem WR_le {L L' : Nat} {E_n M_om : Int32} {E_li M_ou : Nat → Int32} (h : WR L E_n E_li M_ou M_om) (hl : L ≤ L') : WR L' E_n E_li M_ou M_om := by
  obtain ⟨n, h1, h2⟩ := h
  exact ⟨n, by omega, h2⟩
theorem wr2 {L : Nat} {E_n M_om : Int32} {E_li M_ou : Nat → Int32} (h : WR L E_n E_li M_ou M_om) (hL : L < 100) (x : Int32) : Ok2 (m_X5_write E_n E_li x) (m_X12_put M_ou M_om x) (fun u v => WR (L + 1) u.1 u.2 v.1 v.2) := by
  obtain ⟨n, h1, rfl, rfl, h2⟩ := h
  unfold m_X5_write m_X12_put m_X5_write_J29
  rw [if_neg (by rw [show (100 : Int32) = nI 100 from rfl, nI_le_iff (by omega) (by omega)]; omega), ck_nI (by omega) (by omega), ck_nI (by omega) (by omega), tn_nI (by omega), nI_s]
  refine ok2_some ⟨n + 1, by omega, rfl, rfl, fun i hi => ?_⟩
  dsimp only
  by_cases e : i = n
  · subst e; rw [upd_eq, upd_eq]
  · rw [upd_ne _ _ e, upd_ne _ _ e]; exact h2 i (by omega)
theorem wd2 {L : Nat} {E_n M_om : Int32} {E_li M_ou : Nat → Int32} (h : WR L E_n E_li M_ou M_om) (hL : L < 100) (x y : Int32) (hxy : 48 + x = y) : Ok2 (m_X5_writeDigit E_n E_li x) (m_X12_put M_ou M_om y) (fun u v => WR (L + 1) u.1 u.2 v.1 v.2) := by
  unfold m_X5_writeDigit
  subst hxy
  obtain ⟨u, v, h1, h2, h3⟩ := wr2 h hL (48 + x)
  exact ⟨_, v, by rw [h1, bd], h2, h3⟩
theorem yr2 {W_n : Int32} {W_ac W_fa W_in W_yr W_ti s : Nat → Int32} {a : Nat → Nat} (ho : OkW a) (r1 : RW W_n W_ac W_fa W_in W_yr W_ti a) (r4 : RM s a) {w : Nat} (hw : w < a 0) {L : Nat} {E_n M_om : Int32} {E_li M_ou : Nat → Int32} (h : WR L E_n E_li M_ou M_om) (hL : L + 2 ≤ 100) : Ok2 (m_X5_writeYear W_yr E_n E_li (nI w)) (m_X12_putYear s M_ou M_om (nI w)) (fun u v => WR (L + 2) u.1 u.2 v.1 v.2) := by
  have h8 := ho.1
  unfold m_X5_writeYear m_X12_putYear
  rw [ck_nI (by omega) (by omega), tn_nI (by omega), (r1.2 w hw).2.2.1, yearM r4 (by omega), bd]
  refine ok2_bind (wd2 h (by omega) _ _ rfl) (fun u v h => ?_)
  rw [ck_nI (by omega) (by omega), bd]
  exact ok2_bind (wd2 h (by omega) _ _ rfl) (fun u v h => ok2_some h)
theorem au2 {W_n : Int32} {W_ac W_fa W_in W_yr W_ti s : Nat → Int32} {a : Nat → Nat} (ho : OkW a) (r1 : RW W_n W_ac W_fa W_in W_yr W_ti a) (r4 : RM s a) {w m b : Nat} (hw : w < a 0) (hm : m ≤ a (1 + 7 * w)) (hb : b ≤ 1) {L : Nat} {E_n M_om : Int32} {E_li M_ou : Nat → Int32} (h : WR L E_n E_li M_ou M_om) (hL : L + 12 ≤ 100) : Ok2 (m_X5_writeAuthors W_fa W_in E_n E_li (nI w) (nI m) (nI b)) (m_X12_putAuthors s M_ou M_om (nI w) (nI m) (nI b)) (fun u v => WR (L + 12) u.1 u.2 v.1 v.2) := by
  have h8 := ho.1
  obtain ⟨v1, v2, v3, v4⟩ := r1.2 w hw
  obtain ⟨p1, p2, p3, p4⟩ := ho.2 w hw
  unfold m_X5_writeAuthors m_X12_putAuthors
  refine ok2_bind (Q := fun u v => WR (L + 12) u.1 u.2 v.1 v.2) ?_ (fun u v h => ok2_some h)
  refine ok2_for (fun i st tt => st.1 = nI i ∧ tt.1 = nI i ∧ WR (L + 3 * i) st.2.1 st.2.2 tt.2.1 tt.2.2) m ⟨rfl, rfl, h⟩ ?_ ?_ (by omega)
  · rintro i ⟨c1, c2, c3⟩ ⟨t1, t2, t3⟩ hi ⟨e1, e2, e3⟩
    dsimp only at e1 e2 e3
    subst e1 e2
    have a1 := v2 i (by omega)
    have a3 := p2 i (by omega)
    rw [Nat.mul_comm 4 w] at a1
    have key : ∀ {E_n M_om : Int32} {E_li M_ou : Nat → Int32}, WR (L + 3 * i + 1) E_n E_li M_ou M_om → Ok2 (m_X5_writeAuthors_J20 (nI w) (nI m) (nI b) (nI i) W_fa W_in E_n E_li) (m_X12_putAuthors_J20 (nI w) (nI m) (nI b) (nI i) s M_ou M_om) (LR (fun st tt => st.1 = nI (i + 1) ∧ tt.1 = nI (i + 1) ∧ WR (L + 3 * (i + 1)) st.2.1 st.2.2 tt.2.1 tt.2.2) (fun u v => WR (L + 12) u.1 u.2 v.1 v.2)) := by
      intro E_n M_om E_li M_ou h
      unfold m_X5_writeAuthors_J20 m_X12_putAuthors_J20 m_X5_writeAuthors_J60 m_X12_putAuthors_J58
      rw [show (nI w * 4 + nI i) = nI (w * 4 + i) by rw [show (4 : Int32) = nI 4 from rfl, nI_mul, nI_add], ck_nI (by omega) (by omega), tn_nI (by omega), a1.1, a1.2, authorM r4 (by omega) (by omega), bd, show (65 : Int32) + nI (a (2 + 7 * w + i)) / 26 = nI (65 + a (2 + 7 * w + i) / 26) by rw [show (65 : Int32) = nI 65 from rfl, show (26 : Int32) = nI 26 from rfl, nI_div (by omega) (by omega), nI_add]]
      refine ok2_bind (wr2 h (by omega) _) (fun u v h => ?_)
      rw [ck_nI (by omega) (by omega), bd, nI_s]
      by_cases e : b = 0
      · have e' : nI b = 0 := by rw [e]; rfl
        rw [if_pos e', if_pos e']
        exact ok2_il ⟨rfl, rfl, WR_le h (by omega)⟩
      · have e' : ¬ (nI b = 0) := by rw [show (0 : Int32) = nI 0 from rfl, nI_eq_iff (by omega) (by omega)]; exact e
        rw [if_neg e', if_neg e', show (97 : Int32) + (nI (a (2 + 7 * w + i)) - nI (a (2 + 7 * w + i)) / 26 * 26) = nI (97 + a (2 + 7 * w + i) % 26) by
          rw [show (97 : Int32) = nI 97 from rfl, show (26 : Int32) = nI 26 from rfl, nI_div (by omega) (by omega), nI_mul, nI_sub (by omega) (by omega), nI_add]
          congr 1
          omega]
        exact ok2_bind (wr2 h (by omega) _) (fun u v h => ok2_il ⟨rfl, rfl, WR_le h (by omega)⟩)
    unfold m_X5_writeAuthors_B3 m_X12_putAuthors_B3
    have hm' : ¬ (nI m ≤ nI i) := by rw [nI_le_iff (by omega) (by omega)]; omega
    dsimp only
    rw [if_neg hm', if_neg hm']
    by_cases e : i = 0
    · have e' : nI i ≤ 0 := by rw [show (0 : Int32) = nI 0 from rfl, nI_le_iff (by omega) (by omega)]; omega
      rw [if_pos e', if_pos e']
      exact key (WR_le e3 (by omega))
    · have e' : ¬ (nI i ≤ 0) := by rw [show (0 : Int32) = nI 0 from rfl, nI_le_iff (by omega) (by omega)]; omega
      rw [if_neg e', if_neg e']
      exact ok2_bind (wr2 e3 (by omega) _) (fun u v h => key h)
  · rintro ⟨c1, c2, c3⟩ ⟨t1, t2, t3⟩ ⟨e1, e2, e3⟩
    dsimp only at e1 e2 e3
    subst e1 e2
    unfold m_X5_writeAuthors_B3 m_X12_putAuthors_B3
    have hm' : nI m ≤ nI m := by rw [nI_le_iff (by omega) (by omega)]; omega
    dsimp only
    rw [if_pos hm', if_pos hm']
    exact ok2_ir (WR_le e3 (by omega))
theorem all2 {W_n : Int32} {W_ac W_fa W_in W_yr W_ti s : Nat → Int32} {a : Nat → Nat} (ho : OkW a) (r1 : RW W_n W_ac W_fa W_in W_yr W_ti a) (r4 : RM s a) {w : Nat} (hw : w < a 0) {L : Nat} {E_n M_om : Int32} {E_li M_ou : Nat → Int32} (h : WR L E_n E_li M_ou M_om) (hL : L + 12 ≤ 100) : Ok2 (m_X5_writeAllAuthors W_ac W_fa W_in E_n E_li (nI w)) ((m_X12_authors s (nI w)).bind fun e => m_X12_putAuthors s M_ou M_om (nI w) e 1) (fun u v => WR (L + 12) u.1 u.2 v.1 v.2) := by
  have h8 := ho.1
  unfold m_X5_writeAllAuthors
  rw [ck_nI (by omega) (by omega), tn_nI (by omega), (r1.2 w hw).1, authorsM r4 (by omega), bd, show (1 : Int32) = nI 1 from rfl]
  obtain ⟨u, v, h1, h2, h3⟩ := au2 ho r1 r4 hw (Nat.le_refl _) (b := 1) (by omega) h hL
  exact ⟨_, v, by rw [h1, bd], h2, h3⟩
theorem nam2 {W_n : Int32} {W_ac W_fa W_in W_yr W_ti s : Nat → Int32} {a sh ini sx : Nat → Nat} (ho : OkW a) (r1 : RW W_n W_ac W_fa W_in W_yr W_ti a) (r4 : RM s a) {L_sh L_wi L_su : Nat → Int32} {L_nk : Nat → Int64} {M_sh M_in M_su : Nat → Int32} (hC : LbC a sh ini sx L_sh L_wi L_su L_nk) (hM : LbM a sh ini sx M_sh M_in M_su) (hO : LbO a sh ini sx) {w : Nat} (hw : w < a 0) {L : Nat} {E_n M_om : Int32} {E_li M_ou : Nat → Int32} (h : WR L E_n E_li M_ou M_om) (hL : L + 13 ≤ 100) : Ok2 (m_X5_writeNames W_ac W_fa W_in L_sh L_wi E_n E_li (nI w)) (m_X12_putNames s M_sh M_in M_ou M_om (nI w)) (fun u v => WR (L + 13) u.1 u.2 v.1 v.2) := by
  have h8 := ho.1
  obtain ⟨k1, k2, k3⟩ := hO w hw
  have p1 := (ho.2 w hw).1
  unfold m_X5_writeNames m_X12_putNames m_X3_hidesAuthors m_X3_hidesAuthors_J23 m_X5_writeNames_J40 m_X12_putNames_J37
  simp (disch := omega) only [ck_nI, tn_nI, (hC w hw).1, (hC w hw).2.1, (hM w hw).1, (hM w hw).2.1, (r1.2 w hw).1, ckb_0, ckb_1]
  refine ok2_bind (au2 ho r1 r4 hw k1.2 k2 h (by omega)) (fun u v h => ?_)
  rw [authorsM r4 (by omega), bd]
  by_cases e : a (1 + 7 * w) ≤ sh w
  · have e' : nI (a (1 + 7 * w)) ≤ nI (sh w) := by rw [nI_le_iff (by omega) (by omega)]; exact e
    rw [if_pos e', if_pos e', bd, if_pos rfl]
    exact ok2_some (WR_le h (by omega))
  · have e' : ¬ (nI (a (1 + 7 * w)) ≤ nI (sh w)) := by rw [nI_le_iff (by omega) (by omega)]; exact e
    rw [if_neg e', if_neg e', bd, if_neg (by decide)]
    exact ok2_bind (wr2 h (by omega) _) (fun u v h => ok2_some h)
theorem suf2 {a sh ini sx : Nat → Nat} (ho : OkW a) {L_sh L_wi L_su : Nat → Int32} {L_nk : Nat → Int64} {M_sh M_in M_su : Nat → Int32} (hC : LbC a sh ini sx L_sh L_wi L_su L_nk) (hM : LbM a sh ini sx M_sh M_in M_su) (hO : LbO a sh ini sx) {w : Nat} (hw : w < a 0) {L : Nat} {E_n M_om : Int32} {E_li M_ou : Nat → Int32} (h : WR L E_n E_li M_ou M_om) (hL : L + 1 ≤ 100) : Ok2 (m_X5_writeSuffix L_su E_n E_li (nI w)) (m_X12_putSuffix M_su M_ou M_om (nI w)) (fun u v => WR (L + 1) u.1 u.2 v.1 v.2) := by
  have h8 := ho.1
  obtain ⟨k1, k2, k3⟩ := hO w hw
  unfold m_X5_writeSuffix m_X12_putSuffix m_X5_writeSuffix_J25 m_X12_putSuffix_J21
  simp (disch := omega) only [ck_nI, tn_nI, (hC w hw).2.2.1, (hM w hw).2.2]
  by_cases e : sx w = 0
  · rw [if_pos (show nI (sx w) = 0 by rw [e]; rfl), if_pos (show (if sx w = 0 then (-9 : Int32) else nI (sx w)) = -9 by rw [if_pos e])]
    exact ok2_some (WR_le h (by omega))
  · rw [if_neg (show ¬ (nI (sx w) = 0) by rw [show (0 : Int32) = nI 0 from rfl, nI_eq_iff (by omega) (by omega)]; exact e), if_neg (show ¬ ((if sx w = 0 then (-9 : Int32) else nI (sx w)) = -9) by rw [if_neg e]; exact fun h => neg9 (by omega) h.symm), if_neg e]
    exact ok2_bind (wr2 h (by omega) _) (fun u v h => ok2_some h)
