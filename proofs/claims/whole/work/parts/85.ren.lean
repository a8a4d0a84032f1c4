/-! ===== an author-year citation ===== -/
theorem zle {i : Nat} (hi : i < 1000) : (nI i ≤ 0) = (i = 0) := by
  rw [show (0 : Int32) = nI 0 from rfl, nI_le_iff (by omega) (by omega)]
  exact propext ⟨fun h => by omega, fun h => by omega⟩
theorem zeq {i : Nat} (hi : i < 1000) : (nI i = 0) = (i = 0) := by rw [show (0 : Int32) = nI 0 from rfl, nI_eq_iff (by omega) (by omega)]
theorem ys2 {W_n : Int32} {W_ac W_fa W_in W_yr W_ti s : Nat → Int32} {a sh ini sx : Nat → Nat} (ho : OkW a) (r1 : RW W_n W_ac W_fa W_in W_yr W_ti a) (r4 : RM s a) {L_sh L_wi L_su : Nat → Int32} {L_nk : Nat → Int64} {M_sh M_in M_su : Nat → Int32} (hC : LbC a sh ini sx L_sh L_wi L_su L_nk) (hM : LbM a sh ini sx M_sh M_in M_su) (hO : LbO a sh ini sx) {w c i : Nat} (hw : w < a 0) {L : Nat} {E_n M_om : Int32} {E_li M_ou : Nat → Int32} (h : WR L E_n E_li M_ou M_om) (hL : L + 3 ≤ 100) {J : Int32 × Int32 × (Nat → Int32) → Int32 × (Nat → Int32) × Int32 → Prop} {P : Int32 × (Nat → Int32) → (Nat → Int32) × Int32 → Prop} (hJ : ∀ {E_n M_om : Int32} {E_li M_ou : Nat → Int32}, WR (L + 3) E_n E_li M_ou M_om → J (nI (i + 1), E_n, E_li) (nI (i + 1), M_ou, M_om)) : Ok2 ((m_X5_writeYear W_yr E_n E_li (nI w)).bind fun e2 => (m_X5_writeSuffix L_su e2.1 e2.2 (nI w)).bind fun e3 => some (Sum.inl (nI (i + 1), e3.1, e3.2))) (m_X12_putAuthorYear_J138 (nI c) (nI i) (nI w) s M_su M_ou M_om) (LR J P) := by
  unfold m_X12_putAuthorYear_J138 m_X12_putAuthorYear_J143
  refine ok2_bind (yr2 ho r1 r4 hw h (by omega)) (fun u v h => ?_)
  refine ok2_bind (suf2 ho hC hM hO hw h (by omega)) (fun u v h => ?_)
  rw [nI_s]
  exact ok2_il (hJ h)
theorem lb2 {W_n : Int32} {W_ac W_fa W_in W_yr W_ti s : Nat → Int32} {a sh ini sx : Nat → Nat} (ho : OkW a) (r1 : RW W_n W_ac W_fa W_in W_yr W_ti a) (r4 : RM s a) {L_sh L_wi L_su : Nat → Int32} {L_nk : Nat → Int64} {M_sh M_in M_su : Nat → Int32} (hC : LbC a sh ini sx L_sh L_wi L_su L_nk) (hM : LbM a sh ini sx M_sh M_in M_su) (hO : LbO a sh ini sx) {w c i : Nat} (hw : w < a 0) (ro : Nat → Int32) {L : Nat} {E_n M_om : Int32} {E_li M_ou : Nat → Int32} (h : WR L E_n E_li M_ou M_om) (hL : L + 16 ≤ 100) {J : Int32 × Int32 × (Nat → Int32) → Int32 × (Nat → Int32) × Int32 → Prop} {P : Int32 × (Nat → Int32) → (Nat → Int32) × Int32 → Prop} (hJ : ∀ {E_n M_om : Int32} {E_li M_ou : Nat → Int32}, WR (L + 16) E_n E_li M_ou M_om → J (nI (i + 1), E_n, E_li) (nI (i + 1), M_ou, M_om)) : Ok2 (m_X5_writeAuthorYear_J75 (nI i) (nI w) W_ac W_fa W_in W_yr L_sh L_wi L_su E_n E_li) (m_X12_putAuthorYear_J81 (nI c) (nI i) (nI w) 0 s M_sh M_in M_su M_ou M_om ro) (LR J P) := by
  unfold m_X5_writeAuthorYear_J75 m_X5_writeAuthorYear_J80 m_X5_writeLabel m_X12_putAuthorYear_J81 m_X12_putAuthorYear_J91
  rw [if_pos rfl]
  obtain ⟨u, v, n1, n2, n3⟩ := nam2 ho r1 r4 hC hM hO hw h (by omega)
  rw [n1, n2, bd, bd, if_pos rfl]
  have := ys2 ho r1 r4 hC hM hO (c := c) (i := i) hw n3 (by omega) (J := J) (P := P) (fun h => hJ (WR_le h (by omega)))
  obtain ⟨x, y, m1, m2, m3⟩ := this
  refine ⟨x, y, ?_, m2, m3⟩
  rw [← m1, nI_s]
  cases m_X5_writeYear W_yr u.1 u.2 (nI w) with
  | none => rfl
  | some e =>
    dsimp only [Option.bind]
    cases m_X5_writeSuffix L_su e.1 e.2 (nI w) <;> rfl
theorem cl2 {W_n : Int32} {W_ac W_fa W_in W_yr W_ti s : Nat → Int32} {a sh ini sx : Nat → Nat} (ho : OkW a) (r1 : RW W_n W_ac W_fa W_in W_yr W_ti a) (r4 : RM s a) {L_sh L_wi L_su : Nat → Int32} {L_nk : Nat → Int64} {M_sh M_in M_su : Nat → Int32} (hC : LbC a sh ini sx L_sh L_wi L_su L_nk) (hM : LbM a sh ini sx M_sh M_in M_su) (hO : LbO a sh ini sx) {w v c i : Nat} (hw : w < a 0) (hv : v < a 0) (hcl : a 61 ≤ 2) (hi : 1 ≤ i ∧ i < 5) {ro : Nat → Int32} (hro : ro (i - 1) = nI v) {L : Nat} {E_n M_om : Int32} {E_li M_ou : Nat → Int32} (h : WR L E_n E_li M_ou M_om) (hL : L + 3 ≤ 100) {J : Int32 × Int32 × (Nat → Int32) → Int32 × (Nat → Int32) × Int32 → Prop} {P : Int32 × (Nat → Int32) → (Nat → Int32) × Int32 → Prop} (hJ : ∀ {E_n M_om : Int32} {E_li M_ou : Nat → Int32}, WR (L + 3) E_n E_li M_ou M_om → J (nI (i + 1), E_n, E_li) (nI (i + 1), M_ou, M_om)) : Ok2 ((m_X5_writeCollapsed W_yr (nI (a 61)) L_su E_n E_li (nI v) (nI w)).bind fun e15 => m_X5_writeAuthorYear_J80 (nI i) e15.1 e15.2) (m_X12_putAuthorYear_J81 (nI c) (nI i) (nI w) 1 s M_sh M_in M_su M_ou M_om ro) (LR J P) := by
  have h8 := ho.1
  have y1 := (ho.2 w hw).2.2.1
  have y2 := (ho.2 v hv).2.2.1
  have sx1 := (hO w hw).2.2
  have full : Ok2 ((m_X5_writeCollapsed_J48 (nI w) W_yr L_su E_n E_li).bind fun e15 => m_X5_writeAuthorYear_J80 (nI i) e15.1 e15.2) (m_X12_putAuthorYear_J138 (nI c) (nI i) (nI w) s M_su M_ou M_om) (LR J P) := by
    obtain ⟨x, y, m1, m2, m3⟩ := ys2 ho r1 r4 hC hM hO (c := c) (i := i) hw h hL (J := J) (P := P) hJ
    refine ⟨x, y, ?_, m2, m3⟩
    unfold m_X5_writeCollapsed_J48 m_X5_writeCollapsed_J49 m_X5_writeCollapsed_J59 m_X5_writeAuthorYear_J80
    rw [if_pos rfl, ← m1, nI_s]
    cases m_X5_writeYear W_yr E_n E_li (nI w) with
    | none => rfl
    | some e =>
      dsimp only [Option.bind]
      cases m_X5_writeSuffix L_su e.1 e.2 (nI w) <;> rfl
  have short : Ok2 ((m_X5_writeCollapsed_J49 (nI w) 1 W_yr L_su E_n E_li).bind fun e15 => m_X5_writeAuthorYear_J80 (nI i) e15.1 e15.2) (m_X12_putAuthorYear_J143 (nI c) (nI i) (nI w) M_su M_ou M_om) (LR J P) := by
    obtain ⟨x, y, m1, m2, m3⟩ := suf2 ho hC hM hO hw h (by omega)
    unfold m_X5_writeCollapsed_J49 m_X5_writeCollapsed_J59 m_X5_writeAuthorYear_J80 m_X12_putAuthorYear_J143
    rw [if_neg (by decide), m1, m2, bd, bd, bd, nI_s]
    exact ok2_il (hJ (WR_le m3 (by omega)))
  unfold m_X12_putAuthorYear_J81 m_X12_putAuthorYear_J91 m_X5_writeCollapsed
  have h10 : ¬ ((1 : Int32) = 0) := by decide
  rw [if_neg h10, if_neg h10, ck_lit (by decide) (by decide), show Int32.toNatClampNeg 61 = 61 from rfl, r4 61 (by omega), show nI i - 1 = nI (i - 1) by rw [show (1 : Int32) = nI 1 from rfl, nI_sub (by omega) (by omega)], yearM r4 (by omega), bd]
  simp (disch := omega) only [ck_nI, tn_nI]
  rw [hro, yearM r4 (by omega), bd, (hC w hw).2.2.1, (hM w hw).2.2, (r1.2 v hv).2.2.1, (r1.2 w hw).2.2.1]
  by_cases c1 : a 61 = 2
  · rw [if_pos (show nI (a 61) = 2 by rw [c1]; rfl), if_neg (show ¬ (nI (a 61) < 2) by rw [c1]; decide)]
    by_cases c2 : sx w = 0
    · rw [if_pos (show nI (sx w) = 0 by rw [c2]; rfl), if_pos (show (if sx w = 0 then (-9 : Int32) else nI (sx w)) = -9 by rw [if_pos c2])]
      exact full
    · rw [if_neg (show ¬ (nI (sx w) = 0) by rw [zeq (by omega)]; exact c2), if_neg (show ¬ ((if sx w = 0 then (-9 : Int32) else nI (sx w)) = -9) by rw [if_neg c2]; exact fun h => neg9 (by omega) h.symm)]
      by_cases c3 : a (6 + 7 * v) = a (6 + 7 * w)
      · rw [if_pos (show nI (a (6 + 7 * v)) = nI (a (6 + 7 * w)) by rw [c3]), if_pos (show nI (a (6 + 7 * w)) = nI (a (6 + 7 * v)) by rw [c3])]
        exact short
      · rw [if_neg (show ¬ (nI (a (6 + 7 * v)) = nI (a (6 + 7 * w))) by rw [nI_eq_iff (by omega) (by omega)]; exact c3), if_neg (show ¬ (nI (a (6 + 7 * w)) = nI (a (6 + 7 * v))) by rw [nI_eq_iff (by omega) (by omega)]; exact fun h => c3 h.symm)]
        exact full
  · rw [if_neg (show ¬ (nI (a 61) = 2) by rw [show (2 : Int32) = nI 2 from rfl, nI_eq_iff (by omega) (by omega)]; exact c1), if_pos (show nI (a 61) < 2 by rw [show (2 : Int32) = nI 2 from rfl, nI_lt_iff (by omega) (by omega)]; omega)]
    exact full
theorem ay2 {W_n : Int32} {W_ac W_fa W_in W_yr W_ti s : Nat → Int32} {a sh ini sx : Nat → Nat} (ho : OkW a) (r1 : RW W_n W_ac W_fa W_in W_yr W_ti a) (r4 : RM s a) (he : OkE a) (hoC : OkC a) {L_sh L_wi L_su : Nat → Int32} {L_nk : Nat → Int64} {M_sh M_in M_su : Nat → Int32} (hC : LbC a sh ini sx L_sh L_wi L_su L_nk) (hM : LbM a sh ini sx M_sh M_in M_su) (hO : LbO a sh ini sx) {c : Nat} (hc : c < a 70) {q : Nat → Nat} {se ro : Nat → Int32} (hq : SqR a c q se ro) (E_li M_ou : Nat → Int32) : Ok2 (m_X5_writeAuthorYear W_ac W_fa W_in W_yr (nI (a 61)) L_sh L_wi L_su L_nk 0 E_li se (nI (a (71 + 6 * c)))) (m_X12_putAuthorYear s M_sh M_in M_su M_ou 0 ro (nI c)) (fun u v => WR 100 u.1 u.2 v.1 v.2) := by
  have h8 := ho.1
  have h10 := hoC.1
  have hcl := he.1.2.2.2.2.1
  obtain ⟨q1, q2, q3⟩ := hoC.2 c hc
  have hqa : ∀ i, i < a (71 + 6 * c) → q i < a 0 := fun i hi => by
    obtain ⟨⟨j, hj, e⟩, _⟩ := hq i hi
    rw [e]; exact q2 j hj
  unfold m_X5_writeAuthorYear m_X12_putAuthorYear
  refine ok2_bind (wr2 (WR_0 E_li M_ou) (by omega) _) (fun u v h => ?_)
  refine ok2_bind (Q := fun u v => WR 86 u.1 u.2 v.1 v.2) ?_ (fun u v h => ok2_bind (wr2 h (by omega) _) (fun u v h => ok2_some (WR_le h (by omega))))
  refine ok2_for (fun i st tt => st.1 = nI i ∧ tt.1 = nI i ∧ WR (1 + 17 * i) st.2.1 st.2.2 tt.2.1 tt.2.2) (a (71 + 6 * c)) ⟨rfl, rfl, h⟩ ?_ ?_ (by omega)
  · rintro i ⟨c1, c2, c3⟩ ⟨t1, t2, t3⟩ hi ⟨e1, e2, e3⟩
    dsimp only at e1 e2 e3
    subst e1 e2
    obtain ⟨_, x1, x2⟩ := hq i hi
    have hw := hqa i hi
    unfold m_X5_writeAuthorYear_B8 m_X12_putAuthorYear_B8 m_X12_putAuthorYear_J58
    rw [citesM_ok r4 (by omega), bd]
    have hN : ¬ (nI (a (71 + 6 * c)) ≤ nI i) := by rw [nI_le_iff (by omega) (by omega)]; omega
    dsimp only
    rw [if_neg hN, if_neg hN, ck_nI (by omega) (by omega), ck_nI (by omega) (by omega), tn_nI (by omega), x1, x2, ck_lit (by decide) (by decide), show Int32.toNatClampNeg 61 = 61 from rfl, r4 61 (by omega)]
    by_cases e0 : i = 0
    · have e0' : nI i ≤ 0 := by rw [zle (by omega)]; exact e0
      rw [if_pos e0', if_pos e0']
      unfold m_X5_writeAuthorYear_J65 m_X12_putAuthorYear_J59
      rw [if_pos e0', if_pos e0']
      exact lb2 ho r1 r4 hC hM hO hw ro e3 (by omega) (fun h => ⟨rfl, rfl, WR_le h (by omega)⟩)
    · have e0' : ¬ (nI i ≤ 0) := by rw [zle (by omega)]; exact e0
      obtain ⟨_, y1, y2⟩ := hq (i - 1) (by omega)
      have hv := hqa (i - 1) (by omega)
      have plain : Ok2 (m_X5_writeAuthorYear_J65 (nI i) (nI (q i)) W_ac W_fa W_in W_yr L_sh L_wi L_su c2 c3) (m_X12_putAuthorYear_J59 (nI c) (nI i) (nI (q i)) 0 s M_sh M_in M_su t2 t3 ro) (LR (fun st tt => st.1 = nI (i + 1) ∧ tt.1 = nI (i + 1) ∧ WR (1 + 17 * (i + 1)) st.2.1 st.2.2 tt.2.1 tt.2.2) (fun u v => WR 86 u.1 u.2 v.1 v.2)) := by
        unfold m_X5_writeAuthorYear_J65 m_X12_putAuthorYear_J59 m_X12_putAuthorYear_J78
        rw [if_neg e0', if_neg e0', if_pos rfl]
        exact ok2_bind (wr2 e3 (by omega) _) (fun u v h => lb2 ho r1 r4 hC hM hO hw ro h (by omega) (fun h => ⟨rfl, rfl, WR_le h (by omega)⟩))
      rw [if_neg e0', if_neg e0', show nI i - 1 = nI (i - 1) by rw [show (1 : Int32) = nI 1 from rfl, nI_sub (by omega) (by omega)]]
      simp (disch := omega) only [ck_nI, tn_nI]
      rw [y1, y2]
      unfold m_X5_collapsesNames m_X5_collapsesNames_J26 m_X5_collapsesNames_J27
      rw [ckb_0, ckb_1, sameC_ok ho hC hO hv hw, bd, namesM_ok ho r4 (M_sh := M_sh) (M_in := M_in) (sh := sh) (ini := ini) (fun w hw => ⟨(hM w hw).1, (hM w hw).2.1⟩) (fun w hw => ⟨(hO w hw).1, (hO w hw).2.1⟩) hv hw, bd]
      by_cases c61 : a 61 = 0
      · have c61' : nI (a 61) ≤ 0 := by rw [zle (by omega)]; exact c61
        rw [if_pos c61', if_pos c61', bd, if_pos rfl]
        exact plain
      · have c61' : ¬ (nI (a 61) ≤ 0) := by rw [zle (by omega)]; exact c61
        rw [if_neg c61', if_neg c61']
        by_cases cn : nkv a (sh (q (i - 1))) (ini (q (i - 1))) (q (i - 1)) = nkv a (sh (q i)) (ini (q i)) (q i)
        · simp only [if_pos cn]
          rw [if_neg (by decide), bd, if_neg (by decide), if_neg (by decide)]
          unfold m_X12_putAuthorYear_J59 m_X12_putAuthorYear_J78
          rw [if_neg e0', if_neg (by decide)]
          exact ok2_bind (wr2 e3 (by omega) _) (fun u v h => cl2 ho r1 r4 hC hM hO hw hv hcl (by omega) y2 h (by omega) (fun h => ⟨rfl, rfl, WR_le h (by omega)⟩))
        · simp only [if_neg cn]
          rw [if_pos trivial, bd, if_pos rfl, if_pos trivial]
          exact plain
  · rintro ⟨c1, c2, c3⟩ ⟨t1, t2, t3⟩ ⟨e1, e2, e3⟩
    dsimp only at e1 e2 e3
    subst e1 e2
    unfold m_X5_writeAuthorYear_B8 m_X12_putAuthorYear_B8
    rw [citesM_ok r4 (by omega), bd]
    have hN : nI (a (71 + 6 * c)) ≤ nI (a (71 + 6 * c)) := by rw [nI_le_iff (by omega) (by omega)]; omega
    dsimp only
    rw [if_pos hN, if_pos hN]
    exact ok2_ir (WR_le e3 (by omega))
