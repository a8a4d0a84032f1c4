/-! ===== the labels of both, and what is asked of them ===== -/
theorem start2 {W_n : Int32} {W_ac W_fa W_in W_yr W_ti : Nat → Int32} {S_st S_mi S_fi S_sp S_cl S_nu S_co : Int32} {S_ke S_di : Nat → Int32} {a : Nat → Nat} (ho : OkW a) (he : OkE a) (r1 : RW W_n W_ac W_fa W_in W_yr W_ti a) (r2 : RS S_st S_mi S_fi S_sp S_cl S_nu S_co S_ke S_di a) (L_sh L_wi L_su : Nat → Int32) (L_nk : Nat → Int64) : OkS (it (m_X3_update_B9 W_n W_ac W_fa W_in S_mi S_fi) fu (0, L_sh, L_wi, L_su, L_nk)) (fun o => LbC a (in0 a) (fun _ => 0) (fun _ => 0) o.1 o.2.1 o.2.2.1 o.2.2.2) := by
  have h8 := ho.1
  refine ok_for (fun i st => st.1 = nI i ∧ ∀ w, w < i → st.2.1 w = nI (in0 a w) ∧ st.2.2.1 w = nI 0 ∧ st.2.2.2.1 w = nI 0 ∧ st.2.2.2.2 w = lN (nkv a (in0 a w) 0 w)) (a 0) ⟨rfl, fun w hw => absurd hw (by omega)⟩ ?_ ?_ (by omega)
  · rintro i ⟨s1, s2, s3, s4, s5⟩ hi ⟨e1, e2⟩
    dsimp only at e1 e2
    subst e1
    unfold m_X3_update_B9
    rw [if_neg (by rw [r1.1, nI_le_iff (by omega) (by omega)]; omega)]
    dsimp only
    rw [initC_ok ho he r1 r2 hi, bd, show (0 : Int32) = nI 0 from rfl, show_ok ho r1 _ _ _ hi (in0_b ho he hi).2 (by omega), bd, ck_nI (by omega) (by omega), tn_nI (by omega), nI_s]
    refine ok_l ⟨rfl, fun w hw => ?_⟩
    dsimp only
    by_cases e : w = i
    · subst e; rw [upd_eq, upd_eq, upd_eq, upL_eq]; exact ⟨rfl, rfl, rfl, rfl⟩
    · rw [upd_ne _ _ e, upd_ne _ _ e, upd_ne _ _ e, upL_ne _ _ e]; exact e2 w (by omega)
  · rintro ⟨s1, s2, s3, s4, s5⟩ ⟨e1, e2⟩
    dsimp only at e1 e2
    subst e1
    unfold m_X3_update_B9
    rw [if_pos (by rw [r1.1, nI_le_iff (by omega) (by omega)]; omega)]
    exact ok_r e2
theorem startM {s : Nat → Int32} {a : Nat → Nat} (ho : OkW a) (he : OkE a) (r4 : RM s a) (M_sh M_in M_su : Nat → Int32) : OkS (it (m_X12_layLabels_B6 s) fu (0, M_sh, M_in, M_su)) (fun o => LbM a (in0 a) (fun _ => 0) (fun _ => 0) o.1 o.2.1 o.2.2) := by
  have h8 := ho.1
  have h58 := he.1.2.1
  have h59 := he.1.2.2.1
  refine ok_for (fun i st => st.1 = nI i ∧ ∀ w, w < i → st.2.1 w = nI (in0 a w) ∧ st.2.2.1 w = nI 0 ∧ st.2.2.2 w = -9) (a 0) ⟨rfl, fun w hw => absurd hw (by omega)⟩ ?_ ?_ (by omega)
  · rintro i ⟨s1, s2, s3, s4⟩ hi ⟨e1, e2⟩
    dsimp only at e1 e2
    subst e1
    have h4 := (ho.2 i hi).1
    have fin : ∀ y, y = in0 a i → OkS (m_X12_layLabels_J86 (nI i) (nI y) (nI i) s2 s3 s4) (Sum.elim (fun st => st.1 = nI (i + 1) ∧ ∀ w, w < i + 1 → st.2.1 w = nI (in0 a w) ∧ st.2.2.1 w = nI 0 ∧ st.2.2.2 w = -9) (fun o => LbM a (in0 a) (fun _ => 0) (fun _ => 0) o.1 o.2.1 o.2.2)) := by
      intro y hy
      unfold m_X12_layLabels_J86
      rw [ck_nI (by omega) (by omega), ck_nI (by omega) (by omega), ckb_0, ck_nI (by omega) (by omega), tn_nI (by omega), nI_s]
      refine ok_l ⟨rfl, fun w hw => ?_⟩
      dsimp only
      by_cases e : w = i
      · subst e; rw [upd_eq, upd_eq, upd_eq, hy]; exact ⟨rfl, rfl, rfl⟩
      · rw [upd_ne _ _ e, upd_ne _ _ e, upd_ne _ _ e]; exact e2 w (by omega)
    have i0 := in0_b ho he hi
    unfold m_X12_layLabels_B6 m_X12_layLabels_J45 m_X12_layLabels_J46 m_X12_layLabels_J81
    rw [authorsM r4 (by omega)]
    simp (disch := omega) only [lit32, ck_nI, tn_nI, r4 0 (by omega), r4 58 (by omega), r4 59 (by omega), nI_le_iff, nI_lt_iff, bd]
    rw [if_neg (by omega)]
    by_cases c1 : a 58 ≤ 0
    · rw [if_pos c1, if_pos trivial]
      exact fin _ (by unfold in0; rw [if_pos (by omega)])
    · rw [if_neg c1]
      by_cases c2 : a (1 + 7 * i) < a 58
      · rw [if_pos c2, if_pos trivial]
        exact fin _ (by unfold in0; rw [if_pos (by omega)])
      · rw [if_neg c2, if_neg (by decide)]
        by_cases c3 : a (1 + 7 * i) ≤ a 59
        · rw [if_pos c3]
          exact fin _ (by unfold in0; rw [if_neg (by omega)]; omega)
        · rw [if_neg c3]
          exact fin _ (by unfold in0; rw [if_neg (by omega)]; omega)
  · rintro ⟨s1, s2, s3, s4⟩ ⟨e1, e2⟩
    dsimp only at e1 e2
    subst e1
    unfold m_X12_layLabels_B6
    simp (disch := omega) only [lit32, ck_nI, tn_nI, r4 0 (by omega), nI_le_iff]
    rw [if_pos (by omega)]
    exact ok_r e2
theorem bits60 : ∀ x, x < 8 → ∀ k, k < 3 → (((nI x &&& nI (2 ^ k)) = 0) ↔ ¬ (((nI x >>> (nI k &&& 31)) &&& 1) = 1)) := by decide
/-- what both keep of the labels -/
def LR2 (a sh ini sx : Nat → Nat) (L_sh L_wi L_su : Nat → Int32) (L_nk : Nat → Int64) (M_sh M_in M_su : Nat → Int32) : Prop := LbC a sh ini sx L_sh L_wi L_su L_nk ∧ LbM a sh ini sx M_sh M_in M_su ∧ LbO a sh ini sx
theorem labels2 {W_n : Int32} {W_ac W_fa W_in W_yr W_ti : Nat → Int32} {S_st S_mi S_fi S_sp S_cl S_nu S_co : Int32} {S_ke S_di : Nat → Int32} {C_n : Int32} {C_sz C_cd s : Nat → Int32} {a : Nat → Nat} (ho : Ok a) (r1 : RW W_n W_ac W_fa W_in W_yr W_ti a) (r2 : RS S_st S_mi S_fi S_sp S_cl S_nu S_co S_ke S_di a) (r3 : RT C_n C_sz C_cd a) (r4 : RM s a) (A_or A_nu A_li L_sh L_wi L_su : Nat → Int32) (L_nk : Nat → Int64) (L_gr M_bo M_bn M_sh M_in M_su M_gr M_tr : Nat → Int32) :
    Ok2 (m_X3_update W_n W_ac W_fa W_in W_yr W_ti S_st S_mi S_fi S_sp S_nu S_ke S_di C_n C_sz C_cd A_or A_nu A_li L_sh L_wi L_su L_nk L_gr) (m_X12_layLabels s M_bo M_bn M_sh M_in M_su M_gr M_tr) (fun u v => ∃ nm sh ini sx, AR a nm u.1 u.2.1 u.2.2.1 v.1 v.2.1 ∧ LR2 a sh ini sx u.2.2.2.1 u.2.2.2.2.1 u.2.2.2.2.2.1 u.2.2.2.2.2.2.1 v.2.2.1 v.2.2.2.1 v.2.2.2.2.1) := by
  have hoW := ho.1
  have hoE := ho.2.1
  have h8 := hoW.1
  unfold m_X3_update m_X12_layLabels
  refine ok2_bind (arr2 ho r1 r2 r3 r4 A_or A_nu A_li M_bo M_bn) ?_
  rintro ⟨u1, u2, u3⟩ ⟨v1, v2⟩ ⟨nm, hA⟩
  dsimp only at hA
  obtain ⟨o1, x1, x2⟩ := start2 hoW hoE r1 r2 L_sh L_wi L_su L_nk
  obtain ⟨o2, y1, y2⟩ := startM hoW hoE r4 M_sh M_in M_su
  rw [x1, y1, bd, bd]
  refine ok2_bind (Q := fun u v => ∃ sh ini sx, LR2 a sh ini sx u.1 u.2.1 u.2.2.1 u.2.2.2.1 v.1 v.2.1 v.2.2.1) ?_ (fun u v ⟨sh, ini, sx, h⟩ => ok2_some ⟨nm, sh, ini, sx, hA, h⟩)
  refine ok2_for (fun k st tt => st.1 = nI (2 ^ k) ∧ tt.1 = nI k ∧ ∃ sh ini sx, LR2 a sh ini sx st.2.1 st.2.2.1 st.2.2.2.1 st.2.2.2.2.1 tt.2.1 tt.2.2.1 tt.2.2.2.1 ∧ (k = 0 → ∀ w, w < a 0 → sh w = in0 a w)) 3 ⟨rfl, rfl, in0 a, fun _ => 0, fun _ => 0, ⟨x2, y2, fun w hw => ⟨in0_b hoW hoE hw, Nat.zero_le _, Nat.zero_le _⟩⟩, fun _ _ _ => rfl⟩ ?_ ?_ (by omega)
  · rintro k ⟨c1, c2, c3, c4, c5, c6⟩ ⟨t1, t2, t3, t4, t5, t6⟩ hk ⟨e1, e2, sh, ini, sx, ⟨eC, eM, eO⟩, e7⟩
    dsimp only at e1 e2 eC eM
    subst e1 e2
    have hstep : nI (2 ^ k) * 2 = nI (2 ^ (k + 1)) := by
      rw [show (2 : Int32) = nI 2 from rfl, nI_mul, Nat.pow_succ]
    have hlt : ¬ ((4 : Int32) < nI (2 ^ k)) := by
      rcases (show k = 0 ∨ k = 1 ∨ k = 2 by omega) with rfl | rfl | rfl <;> decide
    have hlt2 : ¬ ((3 : Int32) ≤ nI k) := by
      rcases (show k = 0 ∨ k = 1 ∨ k = 2 by omega) with rfl | rfl | rfl <;> decide
    have hbits := bits60 (a 60) (by have := hoE.1.2.2.2.1; omega) k hk
    unfold m_X3_update_B46 m_X12_layLabels_B110 m_X3_update_J68
    dsimp only
    rw [if_neg hlt, if_neg hlt2, r2.1.2.2.2.1]
    by_cases c : (nI (a 60) &&& nI (2 ^ k)) = 0
    · rw [if_pos c, hstep]
      obtain ⟨gM, g1, gr, g2⟩ := groupsM_ok hoW r4 eM eO t5
      rw [g1, bd]
      have st : it (m_X12_layLabels_B121 (nI k) s v1 gM) fu (0, t2, t3, t4, t6) = some (t2, t3, t4, t6) := by
        show it (m_X12_layLabels_B121 (nI k) s v1 gM) (1999 + 1) (0, t2, t3, t4, t6) = _
        rw [it_succ]
        unfold m_X12_layLabels_B121
        rw [ck_lit (by decide) (by decide), ck_lit (by decide) (by decide), show Int32.toNatClampNeg 60 = 60 from rfl, r4 60 (by omega), if_neg (c := (nI (a 60) >>> (nI k &&& 31)) &&& 1 = 1) (hbits.mp c)]
        split <;> rfl
      rw [st, bd, nI_s]
      exact ok2_il ⟨rfl, rfl, sh, ini, sx, ⟨eC, eM, eO⟩, fun h => absurd h (by omega)⟩
    · rw [if_neg c]
      have hb : ((nI (a 60) >>> (nI k &&& 31)) &&& 1) = 1 := Classical.byContradiction (fun h => c (hbits.mpr h))
      obtain ⟨u, v, p1, p2, sh', ini', sx', p3, p4, p5⟩ := perf2 hoW hoE r1 r2 r4 c6 t5 t6 eC eM eO (od := u1) (bo := v1) (fun w hw => (hA.2 w hw).2.1) (fun w hw => (hA.2 w hw).2.2.2.2.1) hk hb e7
      obtain ⟨gM, g1, gr, g2⟩ := groupsM_ok hoW r4 eM eO t5
      rw [g1, bd] at p2
      obtain ⟨z, z1, z2⟩ := Option.bind_eq_some_iff.mp p2
      have z2 := Option.some.inj z2
      subst z2
      rw [p1, bd, g1, bd, z1, bd, hstep, nI_s]
      exact ok2_il ⟨rfl, rfl, sh', ini', sx', ⟨p3, p4, p5⟩, fun h => absurd h (by omega)⟩
  · rintro ⟨c1, c2, c3, c4, c5, c6⟩ ⟨t1, t2, t3, t4, t5, t6⟩ ⟨e1, e2, sh, ini, sx, ⟨eC, eM, eO⟩, e7⟩
    dsimp only at e1 e2 eC eM
    subst e1 e2
    unfold m_X3_update_B46 m_X12_layLabels_B110
    dsimp only
    rw [if_pos (by decide), if_pos (by decide)]
    exact ok2_ir ⟨sh, ini, sx, eC, eM, eO⟩
