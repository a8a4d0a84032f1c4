/-! ===== names, initials, suffixes: both alike ===== -/
theorem LM_sh {a sh ini sx sh' : Nat → Nat} {M_sh M_in M_su M_sh' : Nat → Int32} (h : LbM a sh ini sx M_sh M_in M_su) (h1 : ∀ w, w < a 0 → M_sh' w = nI (sh' w)) : LbM a sh' ini sx M_sh' M_in M_su := fun w hw => ⟨h1 w hw, (h w hw).2⟩
theorem LM_in {a sh ini sx ini' : Nat → Nat} {M_sh M_in M_su M_in' : Nat → Int32} (h : LbM a sh ini sx M_sh M_in M_su) (h1 : ∀ w, w < a 0 → M_in' w = nI (ini' w)) : LbM a sh ini' sx M_sh M_in' M_su := fun w hw => ⟨(h w hw).1, h1 w hw, (h w hw).2.2⟩
theorem LO_sh {a sh ini sx : Nat → Nat} (ho : OkW a) (he : OkE a) (h : LbO a sh ini sx) (P : Nat → Bool) (n : Nat) : LbO a (fun w => if P w = true then mxs a n w else sh w) ini sx := by
  intro w hw
  refine ⟨?_, (h w hw).2⟩
  dsimp only
  split
  · exact mx_b ho he hw
  · exact (h w hw).1
theorem nms2 {W_n : Int32} {W_ac W_fa W_in W_yr W_ti : Nat → Int32} {S_st S_mi S_fi S_sp S_cl S_nu S_co : Int32} {S_ke S_di s : Nat → Int32} {a sh ini sx gr : Nat → Nat} (ho : OkW a) (he : OkE a) (r1 : RW W_n W_ac W_fa W_in W_yr W_ti a) (r2 : RS S_st S_mi S_fi S_sp S_cl S_nu S_co S_ke S_di a) (r4 : RM s a) {L_sh L_wi L_su : Nat → Int32} {L_nk : Nat → Int64} {M_sh M_in M_su M_gr : Nat → Int32} (M_tr : Nat → Int32) (hC : LbC a sh ini sx L_sh L_wi L_su L_nk) (hM : LbM a sh ini sx M_sh M_in M_su) (hO : LbO a sh ini sx) {x : Int32} {g : Nat} (hg : g < 8) (hG : ∀ w, w < a 0 → M_gr w = nI (gr w) ∧ gr w < 8) (hx : SB (a 0) x (fun w => decide (gr w = g))) (h0 : ∀ w, w < a 0 → gr w = g → sh w = in0 a w) :
    Ok2 (m_X3_addNames W_n W_ac W_fa W_in W_yr S_mi S_fi L_sh L_wi L_su L_nk x) (m_X12_addNames s M_sh M_in M_su M_gr M_tr (nI g)) (fun u v => ∃ sh', LbC a sh' ini sx u.1 u.2.1 L_su u.2.2 ∧ LbM a sh' ini sx v.1 M_in M_su ∧ LbO a sh' ini sx ∧ ∀ w, w < a 0 → gr w ≠ g → sh' w = sh w) := by
  have h8 := ho.1
  have h59 := he.1.2.2.1
  have tr : OkS (it (m_X12_addNames_B2 s M_sh) fu (0, M_tr)) (fun o => ∀ w, w < a 0 → o w = nI (sh w)) := by
    refine ok_for (fun i st => st.1 = nI i ∧ ∀ w, w < i → st.2 w = nI (sh w)) (a 0) ⟨rfl, fun w hw => absurd hw (by omega)⟩ ?_ ?_ (by omega)
    · rintro i ⟨s1, s2⟩ hi ⟨e1, e2⟩
      dsimp only at e1 e2
      subst e1
      unfold m_X12_addNames_B2
      simp (disch := omega) only [lit32, ck_nI, tn_nI, r4 0 (by omega), nI_le_iff, nI_add, (hM i hi).1]
      rw [if_neg (by omega)]
      refine ok_l ⟨rfl, fun w hw => ?_⟩
      dsimp only
      by_cases e : w = i
      · rw [e, upd_eq]
      · rw [upd_ne _ _ e]; exact e2 w (by omega)
    · rintro ⟨s1, s2⟩ ⟨e1, e2⟩
      dsimp only at e1 e2
      subst e1
      unfold m_X12_addNames_B2
      simp (disch := omega) only [lit32, ck_nI, tn_nI, r4 0 (by omega), nI_le_iff]
      rw [if_pos (by omega)]
      exact ok_r e2
  obtain ⟨tr, tr1, tr2⟩ := tr
  have tr3 : ∀ w, w < a 0 → gr w = g → tr w = nI (in0 a w) := fun w hw e => by rw [tr2 w hw, h0 w hw e]
  unfold m_X3_addNames m_X12_addNames
  rw [tr1, bd, ck_lit (by decide) (by decide), ck_lit (by decide) (by decide), show Int32.toNatClampNeg 59 = 59 from rfl, r4 59 (by omega), r2.1.2.2.1]
  have hfi := r2.1.2.2.1
  refine ok2_bind (Q := fun u v => ∃ bb, bb ≤ 4 ∧ u.1 = nI bb ∧ v.1 = nI bb ∧ ∃ sh', LbC a sh' ini sx u.2.1 u.2.2.1 L_su u.2.2.2 ∧ LbM a sh' ini sx v.2 M_in M_su ∧ LbO a sh' ini sx ∧ ∀ w, w < a 0 → gr w ≠ g → sh' w = sh w) ?_ ?_
  · refine ok2_for (fun i st tt => st.2.2.1 = nI (a 59 + i) ∧ tt.2.2.1 = nI (a 59 + i) ∧ ∃ bb mm, bb ≤ 4 ∧ mm ≤ 8 ∧ st.1 = nI bb ∧ tt.1 = nI bb ∧ st.2.1 = nI mm ∧ tt.2.1 = nI mm ∧ ∃ sh', LbC a sh' ini sx st.2.2.2.1 st.2.2.2.2.1 L_su st.2.2.2.2.2 ∧ LbM a sh' ini sx tt.2.2.2 M_in M_su ∧ LbO a sh' ini sx ∧ ∀ w, w < a 0 → gr w ≠ g → sh' w = sh w) (5 - a 59) ⟨rfl, rfl, a 59, 0, by omega, by omega, rfl, rfl, rfl, rfl, sh, hC, hM, hO, fun _ _ _ => rfl⟩ ?_ ?_ (by omega)
    · rintro i ⟨c1, c2, c3, c4, c5, c6⟩ ⟨t1, t2, t3, t4⟩ hi ⟨e1, e2, bb, mm, hbb, hmm, e3, e4, e5, e6, sh', eC, eM, eO, e7⟩
      dsimp only at e1 e2 e3 e4 e5 e6 eC eM
      subst e1 e2 e3 e4 e5 e6
      obtain ⟨o1, p1, p2⟩ := showAuthC_ok ho he r1 r2 eC eO hx (n := a 59 + i) (by omega)
      obtain ⟨o2, q1, q2⟩ := atLeastM_ok ho he r4 (sh := sh') (n := a 59 + i) hg (by omega) hG (fun w hw => (eM w hw).1) tr3
      have nO := LO_sh ho he eO (fun w => decide (gr w = g)) (a 59 + i)
      have nM := LM_sh eM q2
      have d1 := diffC_ok ho r1 p2 nO hx
      have d2 := labelsM_ok ho r4 nM nO hG hg
      have dl := cnt_le (fst1 (fun w => decide (gr w = g)) (lab a (fun w => if decide (gr w = g) = true then mxs a (a 59 + i) w else sh' w) ini sx)) (a 0)
      unfold m_X3_addNames_B19 m_X12_addNames_B49
      rw [if_neg (by rw [show (4 : Int32) = nI 4 from rfl, nI_lt_iff (by omega) (by omega)]; omega), if_neg (by rw [show (5 : Int32) = nI 5 from rfl, nI_le_iff (by omega) (by omega)]; omega)]
      dsimp only
      rw [← hfi, p1, bd, q1, bd, d1, bd, d2, bd]
      generalize cnt (fst1 (fun w => decide (gr w = g)) (lab a (fun w => if decide (gr w = g) = true then mxs a (a 59 + i) w else sh' w) ini sx)) (a 0) = D at dl
      have nE : ∀ w, w < a 0 → gr w ≠ g → (if decide (gr w = g) = true then mxs a (a 59 + i) w else sh' w) = sh w := fun w hw hne => by rw [if_neg (by rw [decide_eq_true_eq]; exact hne)]; exact e7 w hw hne
      unfold m_X3_addNames_J51 m_X12_addNames_J81 m_X12_addNames_J94
      by_cases c : D ≤ mm
      · have c' : nI D ≤ nI mm := by rw [nI_le_iff (by omega) (by omega)]; exact c
        rw [if_pos c', if_pos c', if_pos c', nI_s]
        exact ok2_il ⟨rfl, rfl, bb, mm, hbb, hmm, rfl, rfl, rfl, rfl, _, p2, nM, nO, nE⟩
      · have c' : ¬ (nI D ≤ nI mm) := by rw [nI_le_iff (by omega) (by omega)]; exact c
        rw [if_neg c', if_neg c', if_neg c', nI_s]
        exact ok2_il ⟨rfl, rfl, a 59 + i, D, by omega, by omega, rfl, rfl, rfl, rfl, _, p2, nM, nO, nE⟩
    · rintro ⟨c1, c2, c3, c4, c5, c6⟩ ⟨t1, t2, t3, t4⟩ ⟨e1, e2, bb, mm, hbb, hmm, e3, e4, e5, e6, sh', eC, eM, eO, e7⟩
      dsimp only at e1 e2 e3 e4 e5 e6 eC eM
      subst e1 e2 e3 e4 e5 e6
      unfold m_X3_addNames_B19 m_X12_addNames_B49
      rw [if_pos (by rw [show (4 : Int32) = nI 4 from rfl, nI_lt_iff (by omega) (by omega)]; omega), if_pos (by rw [show (5 : Int32) = nI 5 from rfl, nI_le_iff (by omega) (by omega)]; omega)]
      exact ok2_ir ⟨bb, hbb, rfl, rfl, sh', eC, eM, eO, e7⟩
  · rintro ⟨u1, u2, u3, u4⟩ ⟨v1, v2⟩ ⟨bb, hbb, e1, e2, sh', eC, eM, eO, e7⟩
    dsimp only at e1 e2 eC eM
    subst e1 e2
    obtain ⟨o1, p1, p2⟩ := showAuthC_ok ho he r1 r2 eC eO hx (n := bb) hbb
    obtain ⟨o2, q1, q2⟩ := atLeastM_ok ho he r4 (sh := sh') (n := bb) hg hbb hG (fun w hw => (eM w hw).1) tr3
    dsimp only
    rw [← hfi, p1, bd, q1, bd]
    exact ok2_some ⟨_, p2, LM_sh eM q2, LO_sh ho he eO _ _, fun w hw hne => by rw [if_neg (by rw [decide_eq_true_eq]; exact hne)]; exact e7 w hw hne⟩
theorem inits2 {W_n : Int32} {W_ac W_fa W_in W_yr W_ti : Nat → Int32} {s : Nat → Int32} {a sh ini sx gr : Nat → Nat} (ho : OkW a) (r1 : RW W_n W_ac W_fa W_in W_yr W_ti a) (r4 : RM s a) {L_sh L_wi L_su : Nat → Int32} {L_nk : Nat → Int64} {M_sh M_in M_su M_gr : Nat → Int32} (hC : LbC a sh ini sx L_sh L_wi L_su L_nk) (hM : LbM a sh ini sx M_sh M_in M_su) (hO : LbO a sh ini sx) {x : Int32} {g : Nat} (hg : g < 8) (hG : ∀ w, w < a 0 → M_gr w = nI (gr w) ∧ gr w < 8) (hx : SB (a 0) x (fun w => decide (gr w = g))) :
    Ok2 (m_X3_addInitials W_n W_ac W_fa W_in W_yr L_sh L_wi L_su L_nk x) (m_X12_addInitials s M_sh M_in M_su M_gr (nI g)) (fun u v => ∃ ini', LbC a sh ini' sx u.1 u.2.1 L_su u.2.2 ∧ LbM a sh ini' sx M_sh v M_su ∧ LbO a sh ini' sx) := by
  have h8 := ho.1
  have loI : ∀ (j : Nat → Nat) (b : Nat), (∀ w, w < a 0 → j w ≤ 1) → b ≤ 1 → LbO a sh (fun w => if decide (gr w = g) = true then b else j w) sx := by
    intro j b hj hb w hw
    refine ⟨(hO w hw).1, ?_, (hO w hw).2.2⟩
    dsimp only
    split
    · exact hb
    · exact hj w hw
  have hini : ∀ w, w < a 0 → ini w ≤ 1 := fun w hw => (hO w hw).2.1
  obtain ⟨o1, p1, p2⟩ := showInitC_ok ho r1 hC hO hx (b := 1) (by omega)
  have m1 : OkS (it (m_X12_addInitials_B2 (nI g) s M_gr) fu (0, M_in)) (fun o => ∀ w, w < a 0 → o w = nI (if decide (gr w = g) = true then 1 else ini w)) := by
    refine ok_for (fun i st => st.1 = nI i ∧ ∀ w, w < a 0 → st.2 w = nI (if w < i ∧ decide (gr w = g) = true then 1 else ini w)) (a 0) ⟨rfl, fun w hw => by rw [if_neg (by omega)]; exact (hM w hw).2.1⟩ ?_ ?_ (by omega)
    · rintro i ⟨s1, s2⟩ hi ⟨e1, e2⟩
      dsimp only at e1 e2
      subst e1
      have hgi := hG i hi
      have s2i : s2 i = nI (ini i) := by rw [e2 i hi, if_neg (by omega)]
      have fin : ∀ b : Nat, b = (if decide (gr i = g) = true then 1 else ini i) → OkS (some (Sum.inl (nI (i + 1), upd s2 i (nI b))) : Option ((Int32 × (Nat → Int32)) ⊕ (Nat → Int32))) (Sum.elim (fun st => st.1 = nI (i + 1) ∧ ∀ w, w < a 0 → st.2 w = nI (if w < i + 1 ∧ decide (gr w = g) = true then 1 else ini w)) (fun o => ∀ w, w < a 0 → o w = nI (if decide (gr w = g) = true then 1 else ini w))) := by
        intro b hb
        refine ok_l ⟨rfl, fun w hw => ?_⟩
        dsimp only
        by_cases e : w = i
        · subst e
          rw [upd_eq, hb]
          by_cases c : decide (gr w = g) = true
          · rw [if_pos c, if_pos ⟨by omega, c⟩]
          · rw [if_neg c, if_neg (fun h => c h.2)]
        · rw [upd_ne _ _ e, e2 w hw]
          by_cases c : w < i ∧ decide (gr w = g) = true
          · rw [if_pos c, if_pos ⟨by omega, c.2⟩]
          · rw [if_neg c, if_neg (fun h => c ⟨by omega, h.2⟩)]
      have hi1 := hini i hi
      unfold m_X12_addInitials_B2 m_X12_addInitials_J36 m_X12_addInitials_J41
      rw [ck_lit (by decide) (by decide), show Int32.toNatClampNeg 0 = 0 from rfl, r4 0 (by omega)]
      simp (disch := omega) only [ck_nI, tn_nI, nI_s, ckb_0, ckb_1]
      rw [if_neg (by rw [nI_le_iff (by omega) (by omega)]; omega)]
      by_cases c : ini i = 0
      · rw [if_pos (by rw [s2i, c]; rfl)]
        by_cases d : gr i = g
        · rw [if_pos (by rw [hgi.1, d])]
          exact fin 1 (by rw [if_pos (decide_eq_true d)])
        · rw [if_neg (by rw [hgi.1, nI_eq_iff (by omega) (by omega)]; exact d)]
          exact fin 0 (by rw [if_neg (by rw [decide_eq_true_eq]; exact d)]; exact c.symm)
      · rw [if_neg (by rw [s2i, show (0 : Int32) = nI 0 from rfl, nI_eq_iff (by omega) (by omega)]; exact c)]
        exact fin 1 (by split <;> omega)
    · rintro ⟨s1, s2⟩ ⟨e1, e2⟩
      dsimp only at e1 e2
      subst e1
      unfold m_X12_addInitials_B2
      rw [ck_lit (by decide) (by decide), show Int32.toNatClampNeg 0 = 0 from rfl, r4 0 (by omega)]
      dsimp only
      rw [if_pos (by rw [nI_le_iff (by omega) (by omega)]; omega)]
      refine ok_r (fun w hw => ?_)
      rw [e2 w hw]
      by_cases c : decide (gr w = g) = true
      · rw [if_pos c, if_pos ⟨hw, c⟩]
      · rw [if_neg c, if_neg (fun h => c h.2)]
  obtain ⟨o2, q1, q2⟩ := m1
  have nO := loI ini 1 hini (by omega)
  have nM := LM_in hM q2
  have d1 := diffC_ok ho r1 p2 nO hx
  have d2 := labelsM_ok ho r4 nM nO hG hg
  have dl := cnt_le (fst1 (fun w => decide (gr w = g)) (lab a sh (fun w => if decide (gr w = g) = true then 1 else ini w) sx)) (a 0)
  have m2 : ∀ y, y ≤ 1 → OkS (m_X12_addInitials_J62 (nI g) (nI y) s o2 M_gr) (fun o => ∀ w, w < a 0 → o w = nI (if decide (gr w = g) = true then y else ini w)) := by
    intro y hy
    unfold m_X12_addInitials_J62
    refine ok_bind (Q := fun o => ∀ w, w < a 0 → o w = nI (if decide (gr w = g) = true then y else ini w)) ?_ (fun r h => ok_some h)
    refine ok_for (fun i st => st.1 = nI i ∧ ∀ w, w < a 0 → st.2 w = nI (if decide (gr w = g) = true then (if w < i then y else 1) else ini w)) (a 0) ⟨rfl, fun w hw => by rw [if_neg (c := w < 0) (by omega)]; exact q2 w hw⟩ ?_ ?_ (by omega)
    · rintro i ⟨s1, s2⟩ hi ⟨e1, e2⟩
      dsimp only at e1 e2
      subst e1
      have hgi := hG i hi
      have s2i : s2 i = nI (if decide (gr i = g) = true then 1 else ini i) := by rw [e2 i hi, if_neg (c := i < i) (by omega)]
      have fin : ∀ b : Nat, b = (if decide (gr i = g) = true then y else ini i) → OkS (some (Sum.inl (nI (i + 1), upd s2 i (nI b))) : Option ((Int32 × (Nat → Int32)) ⊕ (Nat → Int32))) (Sum.elim (fun st => st.1 = nI (i + 1) ∧ ∀ w, w < a 0 → st.2 w = nI (if decide (gr w = g) = true then (if w < i + 1 then y else 1) else ini w)) (fun o => ∀ w, w < a 0 → o w = nI (if decide (gr w = g) = true then y else ini w))) := by
        intro b hb
        refine ok_l ⟨rfl, fun w hw => ?_⟩
        dsimp only
        by_cases e : w = i
        · subst e
          rw [upd_eq, hb, if_pos (c := w < w + 1) (by omega)]
        · rw [upd_ne _ _ e, e2 w hw]
          by_cases c : w < i
          · rw [if_pos c, if_pos (c := w < i + 1) (by omega)]
          · rw [if_neg c, if_neg (c := w < i + 1) (by omega)]
      have hi1 := hini i hi
      unfold m_X12_addInitials_B65 m_X12_addInitials_J107 m_X12_addInitials_J103 m_X12_addInitials_J108
      rw [ck_lit (by decide) (by decide), show Int32.toNatClampNeg 0 = 0 from rfl, r4 0 (by omega)]
      simp (disch := omega) only [ck_nI, tn_nI, nI_s, ckb_0, ckb_1]
      rw [if_neg (by rw [nI_le_iff (by omega) (by omega)]; omega)]
      by_cases d : gr i = g
      · have s2i' : s2 i = nI 1 := by rw [s2i, if_pos (decide_eq_true d)]
        rw [if_neg (by rw [s2i']; decide), if_pos (by rw [hgi.1, d])]
        by_cases c : y = 0
        · rw [if_pos (by rw [c]; rfl)]
          exact fin 0 (by rw [if_pos (decide_eq_true d)]; exact c.symm)
        · rw [if_neg (by rw [show (0 : Int32) = nI 0 from rfl, nI_eq_iff (by omega) (by omega)]; exact c)]
          exact fin 1 (by rw [if_pos (decide_eq_true d)]; omega)
      · have s2i' : s2 i = nI (ini i) := by rw [s2i, if_neg (by rw [decide_eq_true_eq]; exact d)]
        by_cases c : ini i = 0
        · rw [if_pos (by rw [s2i', c]; rfl)]
          exact fin 0 (by rw [if_neg (by rw [decide_eq_true_eq]; exact d)]; exact c.symm)
        · rw [if_neg (by rw [s2i', show (0 : Int32) = nI 0 from rfl, nI_eq_iff (by omega) (by omega)]; exact c), if_neg (by rw [hgi.1, nI_eq_iff (by omega) (by omega)]; exact d)]
          exact fin 1 (by rw [if_neg (by rw [decide_eq_true_eq]; exact d)]; omega)
    · rintro ⟨s1, s2⟩ ⟨e1, e2⟩
      dsimp only at e1 e2
      subst e1
      unfold m_X12_addInitials_B65
      rw [ck_lit (by decide) (by decide), show Int32.toNatClampNeg 0 = 0 from rfl, r4 0 (by omega)]
      dsimp only
      rw [if_pos (by rw [nI_le_iff (by omega) (by omega)]; omega)]
      refine ok_r (fun w hw => ?_)
      rw [e2 w hw, if_pos hw]
  unfold m_X3_addInitials m_X12_addInitials m_X3_addInitials_J21
  rw [show (1 : Int32) = nI 1 from rfl, p1, bd, q1, bd, d1, bd, d2, bd]
  generalize cnt (fst1 (fun w => decide (gr w = g)) (lab a sh (fun w => if decide (gr w = g) = true then 1 else ini w) sx)) (a 0) = D at dl
  by_cases c : D ≤ 1
  · rw [if_neg (by rw [show (2 : Int32) = nI 2 from rfl, nI_le_iff (by omega) (by omega)]; omega), if_pos (by rw [nI_le_iff (by omega) (by omega)]; exact c)]
    obtain ⟨o3, x1, x2⟩ := showInitC_ok ho r1 p2 nO hx (b := 0) (by omega)
    obtain ⟨o4, y1, y2⟩ := m2 0 (by omega)
    rw [show (0 : Int32) = nI 0 from rfl, x1, bd, y1]
    have ee : ∀ w, w < a 0 → (if decide (gr w = g) = true then 0 else ini w) = (fun w => if decide (gr w = g) = true then 0 else (if decide (gr w = g) = true then 1 else ini w)) w := by
      intro w hw
      dsimp only
      split
      · rfl
      · rfl
    exact ok2_some ⟨fun w => if decide (gr w = g) = true then 0 else ini w, LC_cg x2 (fun _ _ => rfl) ee, LM_in hM y2, loI ini 0 hini (by omega)⟩
  · rw [if_pos (by rw [show (2 : Int32) = nI 2 from rfl, nI_le_iff (by omega) (by omega)]; omega), if_neg (by rw [nI_le_iff (by omega) (by omega)]; exact c)]
    obtain ⟨o4, y1, y2⟩ := m2 1 (by omega)
    rw [y1]
    exact ok2_some ⟨_, p2, LM_in hM y2, nO⟩
