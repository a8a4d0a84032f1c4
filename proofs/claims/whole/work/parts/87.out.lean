/-! ===== what is rendered, asked for ===== -/
theorem one0 : ¬ ((1 : Int32) = 0) := by decide
theorem code_ok {L : Nat} {E_n M_om : Int32} {E_li M_ou : Nat → Int32} (h : WR L E_n E_li M_ou M_om) (hL : L ≤ 100) {x : Int32} (hx : 0 ≤ x.toInt) : ∃ r, m_X5_codeAt E_n E_li x = some r ∧ (∀ {α : Type} (f : Int32 → Option α), (if M_om ≤ x then f (-9) else ck x 300 (f (M_ou (Int32.toNatClampNeg x)))) = f r) := by
  obtain ⟨n, h1, rfl, rfl, h2⟩ := h
  obtain ⟨k, k1, rfl⟩ := nI_back hx
  have hk : k < 2147483648 := by
    have := Int32.toInt_lt (nI k)
    omega
  unfold m_X5_codeAt m_X5_codeAt_J21 m_X5_codeAt_J23
  rw [if_neg (by rw [Int32.lt_iff_toInt_lt, show (0 : Int32).toInt = 0 from rfl]; omega)]
  by_cases c : n ≤ k
  · have c' : nI n ≤ nI k := by rw [nI_le_iff (by omega) hk]; exact c
    exact ⟨-9, by rw [if_pos c'], fun f => by rw [if_pos c']⟩
  · have c' : ¬ (nI n ≤ nI k) := by rw [nI_le_iff (by omega) hk]; exact c
    refine ⟨M_ou k, by rw [if_neg c', ck_nI (by omega) hk, tn_nI hk, h2 k (by omega)], fun f => by rw [if_neg c', ck_nI (by omega) hk, tn_nI hk]⟩
theorem render2 {W_n : Int32} {W_ac W_fa W_in W_yr W_ti : Nat → Int32} {S_st S_mi S_fi S_sp S_cl S_nu S_co : Int32} {S_ke S_di : Nat → Int32} {C_n : Int32} {C_sz C_cd s : Nat → Int32} {a : Nat → Nat} (ho : Ok a) (r1 : RW W_n W_ac W_fa W_in W_yr W_ti a) (r2 : RS S_st S_mi S_fi S_sp S_cl S_nu S_co S_ke S_di a) (r3 : RT C_n C_sz C_cd a) (r4 : RM s a) (A_or A_nu A_li L_sh L_wi L_su : Nat → Int32) (L_nk : Nat → Int64) (L_gr M_bo M_bn M_sh M_in M_su M_gr M_tr : Nat → Int32) (E_n : Int32) (E_li E_se : Nat → Int32) (E_sn : Int32) (M_ou : Nat → Int32) (M_om : Int32) (M_ro : Nat → Int32) {c : Nat} (hc : c < a 70) :
    ∃ e o v, m_X3_update W_n W_ac W_fa W_in W_yr W_ti S_st S_mi S_fi S_sp S_nu S_ke S_di C_n C_sz C_cd A_or A_nu A_li L_sh L_wi L_su L_nk L_gr = some e ∧ m_X5_renderCitation W_n W_ac W_fa W_in W_yr W_ti S_st S_cl S_co C_n C_sz C_cd e.2.1 e.2.2.1 e.2.2.2.1 e.2.2.2.2.1 e.2.2.2.2.2.1 e.2.2.2.2.2.2.1 E_n E_li E_se E_sn (nI c) = some o ∧ m_X12_render s M_bo M_bn M_sh M_in M_su M_gr M_tr M_ou M_om M_ro (nI c) = some v ∧ WR 100 o.1 o.2.1 v.2.2.2.2.2.2.2.1 v.2.2.2.2.2.2.2.2.1 := by
  have h8 := ho.1.1
  have h57 := ho.2.1.1.1
  obtain ⟨e, f, g1, g2, nm, sh, ini, sx, hA, hC, hM, hO⟩ := labels2 ho r1 r2 r3 r4 A_or A_nu A_li L_sh L_wi L_su L_nk L_gr M_bo M_bn M_sh M_in M_su M_gr M_tr
  obtain ⟨u, v, q1, q2, q3, q, hq⟩ := seq2 ho r1.1 r2.1.2.2.2.2.2.2 r3 r4 hA hc E_se M_ro E_sn
  refine ⟨e, ?_⟩
  unfold m_X5_renderCitation m_X12_render m_X5_renderCitation_J63 m_X12_render_J56
  rw [g1, q1, bd, q3, g2, bd, q2, bd, ck_lit (by decide) (by decide), ck_lit (by decide) (by decide), show Int32.toNatClampNeg 57 = 57 from rfl, r4 57 (by omega), r2.1.1, r2.1.2.2.2.2.1]
  by_cases c0 : a 57 = 0
  · have c0' : nI (a 57) = 0 := by rw [c0]; rfl
    rw [if_pos c0', if_pos c0']
    obtain ⟨x, y, w1, w2, w3⟩ := ay2 ho.1 r1 r4 ho.2.1 ho.2.2 hC hM hO hc hq E_li M_ou
    rw [w1, w2, bd, bd]
    exact ⟨_, _, rfl, rfl, rfl, w3⟩
  · have c0' : ¬ (nI (a 57) = 0) := by rw [zeq (by omega)]; exact c0
    rw [if_neg c0', if_neg c0']
    by_cases c1 : a 57 = 1
    · have c1' : nI (a 57) = 1 := by rw [c1]; rfl
      rw [if_pos c1', if_pos c1']
      obtain ⟨x, y, w1, w2, w3⟩ := nu2 r4 ho hA hc hq E_li M_ou
      rw [w1, w2, bd, bd]
      exact ⟨_, _, rfl, rfl, rfl, w3⟩
    · have c1' : ¬ (nI (a 57) = 1) := by rw [show (1 : Int32) = nI 1 from rfl, nI_eq_iff (by omega) (by omega)]; exact c1
      rw [if_neg c1', if_neg c1']
      obtain ⟨x, y, w1, w2, w3⟩ := no2 ho.1 r1 r4 ho.2.2 hC hM hO r3 hc hq E_li M_ou
      rw [w1, w2, bd, bd]
      exact ⟨_, _, rfl, rfl, rfl, w3⟩
theorem WR_len {L : Nat} {E_n M_om : Int32} {E_li M_ou : Nat → Int32} (h : WR L E_n E_li M_ou M_om) : E_n = M_om := by
  obtain ⟨n, h1, rfl, rfl, h2⟩ := h
  rfl
theorem step27 : Step_27 Rel0 := by
  intro T_co T_n W_n W_ac W_fa W_in W_yr W_ti S_st S_mi S_fi S_sp S_cl S_nu S_co S_ke S_di C_n C_sz C_cd Y_n Y_nx A_or A_nu A_li L_sh L_wi L_su L_nk L_gr E_n E_li E_se E_sn M_s M_ke M_km M_te M_n M_bo M_bn M_sh M_in M_su M_gr M_tr M_ou M_om M_ro Q_rv x1 hR
  have hR' := hR
  obtain ⟨ht, ⟨a, ho, r1, r2, r3, r4⟩, h5⟩ := hR
  have h10 := ho.2.2.1
  unfold m_X11_renderedLength m_X12_renderedLength
  rcases hasC x1 h10 (r4 70 (by omega)) with ⟨c, hc, k2, f1, f2⟩ | ⟨f1, f2⟩
  · subst k2
    obtain ⟨e, o, v, g1, g2, g3, g4⟩ := render2 ho r1 r2 r3 r4 A_or A_nu A_li L_sh L_wi L_su L_nk L_gr M_bo M_bn M_sh M_in M_su M_gr M_tr E_n E_li E_se E_sn M_ou M_om M_ro hc
    rw [show m_X1_has C_n (nI c) = some 1 by rw [r3.1]; exact f1, f2, bd, bd, if_neg (by decide), if_neg (by decide), g1, bd, g2, bd, g3, bd]
    exact ⟨_, _, rfl, rfl, WR_len g4, hR'⟩
  · rw [show m_X1_has C_n x1 = some 0 by rw [r3.1]; exact f1, f2, bd, bd, if_pos rfl, if_pos rfl]
    exact ⟨_, _, rfl, rfl, rfl, hR'⟩
theorem step28 : Step_28 Rel0 := by
  intro T_co T_n W_n W_ac W_fa W_in W_yr W_ti S_st S_mi S_fi S_sp S_cl S_nu S_co S_ke S_di C_n C_sz C_cd Y_n Y_nx A_or A_nu A_li L_sh L_wi L_su L_nk L_gr E_n E_li E_se E_sn M_s M_ke M_km M_te M_n M_bo M_bn M_sh M_in M_su M_gr M_tr M_ou M_om M_ro Q_rv x1 x2 hR
  have hR' := hR
  obtain ⟨ht, ⟨a, ho, r1, r2, r3, r4⟩, h5⟩ := hR
  have h10 := ho.2.2.1
  unfold m_X11_renderedCharacter m_X12_renderedCharacter m_X11_renderedCharacter_J15 m_X12_renderedCharacter_J12
  rcases hasC x1 h10 (r4 70 (by omega)) with ⟨c, hc, k2, f1, f2⟩ | ⟨f1, f2⟩
  · subst k2
    rw [show m_X1_has C_n (nI c) = some 1 by rw [r3.1]; exact f1, f2, bd, bd, if_neg one0, if_neg one0]
    by_cases cx : 0 ≤ x2
    · obtain ⟨e, o, v, g1, g2, g3, g4⟩ := render2 ho r1 r2 r3 r4 A_or A_nu A_li L_sh L_wi L_su L_nk L_gr M_bo M_bn M_sh M_in M_su M_gr M_tr E_n E_li E_se E_sn M_ou M_om M_ro hc
      obtain ⟨r, w1, w2⟩ := code_ok g4 (by omega) (x := x2) (by rw [Int32.le_iff_toInt_le] at cx; exact cx)
      rw [if_pos cx, if_pos cx, g1, bd, g2, bd, g3, bd, w1, bd]
      have := w2 (fun y => m_X12_renderedCharacter_J38 y v.1 v.2.1 v.2.2.1 v.2.2.2.1 v.2.2.2.2.1 v.2.2.2.2.2.1 v.2.2.2.2.2.2.1 v.2.2.2.2.2.2.2.1 v.2.2.2.2.2.2.2.2.1 v.2.2.2.2.2.2.2.2.2)
      rw [this]
      unfold m_X12_renderedCharacter_J38
      exact ⟨_, _, rfl, rfl, rfl, hR'⟩
    · rw [if_neg cx, if_neg cx]
      exact ⟨_, _, rfl, rfl, rfl, hR'⟩
  · rw [show m_X1_has C_n x1 = some 0 by rw [r3.1]; exact f1, f2, bd, bd, if_pos rfl, if_pos rfl]
    exact ⟨_, _, rfl, rfl, rfl, hR'⟩
theorem entr2 {W_n : Int32} {W_ac W_fa W_in W_yr W_ti : Nat → Int32} {s : Nat → Int32} {a sh ini sx nm : Nat → Nat} (ho : Ok a) (r1 : RW W_n W_ac W_fa W_in W_yr W_ti a) (r4 : RM s a) {L_sh L_wi L_su : Nat → Int32} {L_nk : Nat → Int64} {M_sh M_in M_su : Nat → Int32} (hC : LbC a sh ini sx L_sh L_wi L_su L_nk) (hM : LbM a sh ini sx M_sh M_in M_su) (hO : LbO a sh ini sx) {L : Nat} {E_n M_om : Int32} {E_li M_ou : Nat → Int32} (h : WR L E_n E_li M_ou M_om) (hL : L ≤ 10) {w : Nat} (hw : w < a 0) (bo bn gr tr : Nat → Int32) {x2 : Int32} (hx : 0 ≤ x2.toInt) : ∃ o r v, m_X5_renderEntry_J41 (nI w) W_ac W_fa W_in W_yr W_ti (nI (a 57)) L_su E_n E_li = some o ∧ m_X5_codeAt o.1 o.2 x2 = some r ∧ m_X12_entryCharacter_J80 x2 (nI w) s bo bn M_sh M_in M_su gr tr M_ou M_om = some v ∧ v.1 = r := by
  have h8 := ho.1.1
  have h57 := ho.2.1.1.1
  obtain ⟨u1, v1, k1, k2, k3⟩ := all2 ho.1 r1 r4 hw h (by omega)
  rw [authorsM r4 (by omega), bd] at k2
  obtain ⟨u2, v2, l1, l2, l3⟩ := wr2 k3 (by omega) 40
  obtain ⟨u3, v3, m1, m2, m3⟩ := yr2 ho.1 r1 r4 hw l3 (by omega)
  have fin : ∀ {E_n M_om : Int32} {E_li M_ou : Nat → Int32}, WR (L + 16) E_n E_li M_ou M_om → ∃ o r v, m_X5_renderEntry_J72 (nI w) W_ti E_n E_li = some o ∧ m_X5_codeAt o.1 o.2 x2 = some r ∧ m_X12_entryCharacter_J117 x2 (nI w) s bo bn M_sh M_in M_su gr tr M_ou M_om = some v ∧ v.1 = r := by
    intro E_n M_om E_li M_ou h
    obtain ⟨u1, v1, k1, k2, k3⟩ := wr2 h (by omega) 41
    obtain ⟨u2, v2, l1, l2, l3⟩ := wr2 k3 (by omega) (nI (97 + a (7 + 7 * w)))
    obtain ⟨u3, v3, m1, m2, m3⟩ := wr2 l3 (by omega) 46
    unfold m_X5_renderEntry_J72 m_X12_entryCharacter_J117
    rw [k1, bd, ck_nI (by omega) (by omega), tn_nI (by omega), (r1.2 w hw).2.2.2, l1, bd, m1, bd, k2, bd, titleM r4 (by omega), bd, show (97 : Int32) + nI (a (7 + 7 * w)) = nI (97 + a (7 + 7 * w)) from nI_add 97 _, l2, bd, m2, bd]
    obtain ⟨r, w1, w2⟩ := code_ok m3 (by omega) hx
    have := w2 (fun y => m_X12_entryCharacter_J160 y bo bn M_sh M_in M_su gr tr v3.1 v3.2)
    rw [this]
    unfold m_X12_entryCharacter_J160
    exact ⟨_, r, _, rfl, w1, rfl, rfl⟩
  unfold m_X5_renderEntry_J41 m_X12_entryCharacter_J80
  rw [k1, bd, l1, bd, m1, bd, authorsM r4 (by omega), bd, k2, bd, l2, bd, m2, bd, ck_lit (by decide) (by decide), show Int32.toNatClampNeg 57 = 57 from rfl, r4 57 (by omega)]
  by_cases c0 : a 57 = 0
  · have c0' : nI (a 57) = 0 := by rw [c0]; rfl
    rw [if_pos c0', if_pos c0']
    obtain ⟨u4, v4, n1, n2, n3⟩ := suf2 ho.1 hC hM hO hw m3 (by omega)
    rw [n1, n2, bd, bd]
    exact fin (WR_le n3 (by omega))
  · have c0' : ¬ (nI (a 57) = 0) := by rw [zeq (by omega)]; exact c0
    rw [if_neg c0', if_neg c0']
    exact fin (WR_le m3 (by omega))
theorem step29 : Step_29 Rel0 := by
  intro T_co T_n W_n W_ac W_fa W_in W_yr W_ti S_st S_mi S_fi S_sp S_cl S_nu S_co S_ke S_di C_n C_sz C_cd Y_n Y_nx A_or A_nu A_li L_sh L_wi L_su L_nk L_gr E_n E_li M_s M_ke M_km M_te M_n M_bo M_bn M_sh M_in M_su M_gr M_tr M_ou M_om Q_rv x1 x2 hR
  have hR' := hR
  obtain ⟨ht, ⟨a, ho, r1, r2, r3, r4⟩, h5⟩ := hR
  have h8 := ho.1.1
  have h57 := ho.2.1.1.1
  unfold m_X11_entryCharacter m_X12_entryCharacter m_X11_entryCharacter_J15 m_X12_entryCharacter_J22
  rcases hasW x1 h8 (r4 0 (by omega)) with ⟨p, hp, k2, f1, f2⟩ | ⟨f1, f2⟩
  · subst k2
    rw [show m_X9_has W_n (nI p) = some 1 by rw [r1.1]; exact f1, ck_lit (by decide) (by decide), in_isWork f2, bd, bd, if_neg one0, if_neg one0]
    by_cases cx : 0 ≤ x2
    · have hx : 0 ≤ x2.toInt := by rw [Int32.le_iff_toInt_le] at cx; exact cx
      obtain ⟨e, f, g1, g2, nm, sh, ini, sx, hA, hC, hM, hO⟩ := labels2 ho r1 r2 r3 r4 A_or A_nu A_li L_sh L_wi L_su L_nk L_gr M_bo M_bn M_sh M_in M_su M_gr M_tr
      obtain ⟨w, hw, rfl⟩ := rk_sur ho.1 hA hp
      rw [if_pos cx, if_pos cx, g1, bd, g2, bd, listed_ok ho r4 hA hw, bd, ck_nI (by omega) (by omega), tn_nI (by omega), li_at hA hw, ck_lit (by decide) (by decide), show Int32.toNatClampNeg 57 = 57 from rfl, r4 57 (by omega), r2.1.1]
      unfold m_X5_renderEntry
      by_cases c1 : a 57 = 1
      · have c1' : nI (a 57) = 1 := by rw [c1]; rfl
        rw [if_pos c1', if_pos c1']
        obtain ⟨u1, v1, k1, k2, k3⟩ := wr2 (WR_0 E_li M_ou) (by omega) 91
        obtain ⟨u2, v2, l1, l2, l3⟩ := wd2 k3 (by omega) (nI (nm w + 1)) (48 + nI (nm w) + 1) (by
          rw [show (48 : Int32) = nI 48 from rfl, nI_add, nI_add, nI_s]
          rfl)
        obtain ⟨u3, v3, m1, m2, m3⟩ := wr2 l3 (by omega) 93
        obtain ⟨o, r, v, n1, n2, n3, n4⟩ := entr2 (nm := nm) ho r1 r4 hC hM hO m3 (by omega) hw f.1 f.2.1 f.2.2.2.2.2.1 f.2.2.2.2.2.2 hx
        rw [k1, bd, ck_nI (by omega) (by omega), tn_nI (by omega), (hA.2 w hw).2.2.1, l1, bd, m1, bd, n1, bd, n2, bd, k2, bd, placeBn h8 hA hw, bd, l2, bd, m2, bd, n3]
        exact ⟨_, _, rfl, rfl, n4.symm, by rw [← r2.1.1]; exact hR'⟩
      · have c1' : ¬ (nI (a 57) = 1) := by rw [show (1 : Int32) = nI 1 from rfl, nI_eq_iff (by omega) (by omega)]; exact c1
        rw [if_neg c1', if_neg c1']
        obtain ⟨o, r, v, n1, n2, n3, n4⟩ := entr2 (nm := nm) ho r1 r4 hC hM hO (WR_0 E_li M_ou) (by omega) hw f.1 f.2.1 f.2.2.2.2.2.1 f.2.2.2.2.2.2 hx
        rw [n1, bd, n2, bd, n3]
        exact ⟨_, _, rfl, rfl, n4.symm, by rw [← r2.1.1]; exact hR'⟩
    · rw [if_neg cx, if_neg cx]
      exact ⟨_, _, rfl, rfl, rfl, hR'⟩
  · rw [show m_X9_has W_n x1 = some 0 by rw [r1.1]; exact f1, ck_lit (by decide) (by decide), in_isWork f2, bd, bd, if_pos rfl, if_pos rfl]
    exact ⟨_, _, rfl, rfl, rfl, hR'⟩
