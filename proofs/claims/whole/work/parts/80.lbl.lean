/-! ===== suffixes; the steps; the labels of both ===== -/
theorem suffs2 {W_n : Int32} {W_ac W_fa W_in W_yr W_ti : Nat → Int32} {s : Nat → Int32} {a sh ini sx gr : Nat → Nat} (ho : OkW a) (r1 : RW W_n W_ac W_fa W_in W_yr W_ti a) (r4 : RM s a) {L_sh L_wi L_su : Nat → Int32} {L_nk : Nat → Int64} {M_sh M_in M_su M_gr : Nat → Int32} (hC : LbC a sh ini sx L_sh L_wi L_su L_nk) (hM : LbM a sh ini sx M_sh M_in M_su) (hO : LbO a sh ini sx) {x : Int32} {g : Nat} (hg : g < 8) (hG : ∀ w, w < a 0 → M_gr w = nI (gr w) ∧ gr w < 8) (hx : SB (a 0) x (fun w => decide (gr w = g))) {od bo : Nat → Int32} (h1 : ∀ w, w < a 0 → od (pl a w) = nI w) (h2 : ∀ w, w < a 0 → bo (pl a w) = nI w) :
    Ok2 (m_X3_addSuffixes W_n od L_su x) (m_X12_addSuffixes s bo M_su M_gr (nI g)) (fun u v => ∃ sx', LbC a sh ini sx' L_sh L_wi u L_nk ∧ LbM a sh ini sx' M_sh M_in v ∧ LbO a sh ini sx') := by
  have h8 := ho.1
  unfold m_X3_addSuffixes m_X12_addSuffixes
  refine ok2_bind (Q := fun u v => ∃ sx', LbC a sh ini sx' L_sh L_wi u L_nk ∧ LbM a sh ini sx' M_sh M_in v ∧ LbO a sh ini sx') ?_ (fun u v h => ok2_some h)
  refine ok2_for (fun p st tt => st.2.1 = nI p ∧ tt.2.1 = nI p ∧ ∃ n, n ≤ p ∧ st.1 = nI (97 + n) ∧ tt.1 = nI n ∧ ∃ sx', LbC a sh ini sx' L_sh L_wi st.2.2 L_nk ∧ LbM a sh ini sx' M_sh M_in tt.2.2 ∧ LbO a sh ini sx') (a 0) ⟨rfl, rfl, 0, by omega, rfl, rfl, sx, hC, hM, hO⟩ ?_ ?_ (by omega)
  · rintro p ⟨c1, c2, c3⟩ ⟨t1, t2, t3⟩ hp ⟨e1, e2, n, hn, e3, e4, sx', eC, eM, eO⟩
    dsimp only at e1 e2 e3 e4 eC eM
    subst e1 e2 e3 e4
    obtain ⟨w, hw, rfl⟩ := pl_sur ho hp
    have hgw := hG w hw
    unfold m_X3_addSuffixes_B5 m_X12_addSuffixes_B4 m_X3_addSuffixes_J47 m_X12_addSuffixes_J47
    rw [r1.1, ck_lit (by decide) (by decide), show Int32.toNatClampNeg 0 = 0 from rfl, r4 0 (by omega)]
    have hp' : ¬ (nI (a 0) ≤ nI (pl a w)) := by rw [nI_le_iff (by omega) (by omega)]; omega
    dsimp only
    rw [if_neg hp', if_neg hp']
    simp (disch := omega) only [ck_nI, tn_nI, h1 w hw, h2 w hw, nI_s]
    rw [inSet_ok (by omega), bd, SB_at hx hw h8, hgw.1]
    by_cases c : gr w = g
    · have c' : nI (gr w) = nI g := by rw [c]
      rw [if_pos c', decide_eq_true c, if_neg (by decide), show (97 : Int32) = nI 97 from rfl, nI_add]
      refine ok2_il ⟨rfl, rfl, n + 1, by omega, rfl, rfl, upN sx' w (97 + n), fun v hv => ?_, fun v hv => ?_, fun v hv => ?_⟩
      · obtain ⟨k1, k2, k3, k4⟩ := eC v hv
        refine ⟨k1, k2, ?_, k4⟩
        dsimp only
        by_cases e : v = w
        · subst e; rw [upd_eq, upN_eq]
        · rw [upd_ne _ _ e, upN_ne _ _ e]; exact k3
      · obtain ⟨k1, k2, k3⟩ := eM v hv
        refine ⟨k1, k2, ?_⟩
        dsimp only
        by_cases e : v = w
        · subst e; rw [upd_eq, upN_eq, if_neg (by omega)]
        · rw [upd_ne _ _ e, upN_ne _ _ e]; exact k3
      · obtain ⟨k1, k2, k3⟩ := eO v hv
        refine ⟨k1, k2, ?_⟩
        by_cases e : v = w
        · subst e; rw [upN_eq]; omega
        · rw [upN_ne _ _ e]; exact k3
    · have c' : ¬ (nI (gr w) = nI g) := by rw [nI_eq_iff (by omega) (by omega)]; exact c
      rw [if_neg c', decide_eq_false c, if_pos (by decide)]
      exact ok2_il ⟨rfl, rfl, n, by omega, rfl, rfl, sx', eC, eM, eO⟩
  · rintro ⟨c1, c2, c3⟩ ⟨t1, t2, t3⟩ ⟨e1, e2, n, hn, e3, e4, sx', eC, eM, eO⟩
    dsimp only at e1 e2 e3 e4 eC eM
    subst e1 e2 e3 e4
    unfold m_X3_addSuffixes_B5 m_X12_addSuffixes_B4
    rw [r1.1, ck_lit (by decide) (by decide), show Int32.toNatClampNeg 0 = 0 from rfl, r4 0 (by omega)]
    have hp' : nI (a 0) ≤ nI (a 0) := by rw [nI_le_iff (by omega) (by omega)]; omega
    dsimp only
    rw [if_pos hp', if_pos hp']
    exact ok2_ir ⟨sx', eC, eM, eO⟩
theorem groupsC_ok {W_n : Int32} {W_ac W_fa W_in W_yr W_ti : Nat → Int32} {a sh ini sx : Nat → Nat} (ho : OkW a) (r1 : RW W_n W_ac W_fa W_in W_yr W_ti a) {L_sh L_wi L_su : Nat → Int32} {L_nk : Nat → Int64} (hC : LbC a sh ini sx L_sh L_wi L_su L_nk) (hO : LbO a sh ini sx) (L_gr : Nat → Int32) : OkS (it (m_X3_perform_B2 W_n W_yr L_su L_nk) fu (0, L_gr)) (fun o => ∀ w, w < a 0 → SB (a 0) (o w) (lab a sh ini sx w)) := by
  have h8 := ho.1
  refine ok_for (fun i st => st.1 = nI i ∧ ∀ w, w < i → SB (a 0) (st.2 w) (lab a sh ini sx w)) (a 0) ⟨rfl, fun w hw => absurd hw (by omega)⟩ ?_ ?_ (by omega)
  · rintro i ⟨s1, s2⟩ hi ⟨e1, e2⟩
    dsimp only at e1 e2
    subst e1
    obtain ⟨y, g1, g2⟩ := likeC_ok ho r1 hC hO hi
    unfold m_X3_perform_B2
    rw [if_neg (by rw [r1.1, nI_le_iff (by omega) (by omega)]; omega)]
    dsimp only
    rw [g1, bd, ck_nI (by omega) (by omega), tn_nI (by omega), nI_s]
    refine ok_l ⟨rfl, fun w hw => ?_⟩
    dsimp only
    by_cases e : w = i
    · subst e; rw [upd_eq]; exact g2
    · rw [upd_ne _ _ e]; exact e2 w (by omega)
  · rintro ⟨s1, s2⟩ ⟨e1, e2⟩
    dsimp only at e1 e2
    subst e1
    unfold m_X3_perform_B2
    rw [if_pos (by rw [r1.1, nI_le_iff (by omega) (by omega)]; omega)]
    exact ok_r e2
theorem perf2 {W_n : Int32} {W_ac W_fa W_in W_yr W_ti : Nat → Int32} {S_st S_mi S_fi S_sp S_cl S_nu S_co : Int32} {S_ke S_di s : Nat → Int32} {a sh ini sx : Nat → Nat} (ho : OkW a) (he : OkE a) (r1 : RW W_n W_ac W_fa W_in W_yr W_ti a) (r2 : RS S_st S_mi S_fi S_sp S_cl S_nu S_co S_ke S_di a) (r4 : RM s a) {L_sh L_wi L_su : Nat → Int32} {L_nk : Nat → Int64} (L_gr : Nat → Int32) {M_sh M_in M_su : Nat → Int32} (M_gr M_tr : Nat → Int32) (hC : LbC a sh ini sx L_sh L_wi L_su L_nk) (hM : LbM a sh ini sx M_sh M_in M_su) (hO : LbO a sh ini sx) {od bo : Nat → Int32} (h1 : ∀ w, w < a 0 → od (pl a w) = nI w) (h2 : ∀ w, w < a 0 → bo (pl a w) = nI w) {k : Nat} (hk : k < 3) (hbit : ((nI (a 60) >>> (nI k &&& 31)) &&& 1) = 1) (h0 : k = 0 → ∀ w, w < a 0 → sh w = in0 a w) :
    Ok2 (m_X3_perform W_n W_ac W_fa W_in W_yr S_mi S_fi od L_sh L_wi L_su L_nk L_gr (nI (2 ^ k))) ((m_X12_layGroups s M_sh M_in M_su M_gr).bind fun e5 => (it (m_X12_layLabels_B121 (nI k) s bo e5) fu (0, M_sh, M_in, M_su, M_tr)).bind fun e6 => some (e5, e6)) (fun u v => ∃ sh' ini' sx', LbC a sh' ini' sx' u.1 u.2.1 u.2.2.1 u.2.2.2.1 ∧ LbM a sh' ini' sx' v.2.1 v.2.2.1 v.2.2.2.1 ∧ LbO a sh' ini' sx') := by
  have h8 := ho.1
  obtain ⟨gC, x1, x2⟩ := groupsC_ok ho r1 hC hO L_gr
  obtain ⟨gM, y1, gr, y2⟩ := groupsM_ok ho r4 hM hO M_gr
  have hG : ∀ w, w < a 0 → gM w = nI (gr w) ∧ gr w < 8 := fun w hw => ⟨(y2 w hw).1, by have := (y2 w hw).2.1; omega⟩
  have hI : ∀ w, w < a 0 → IsG (lab a sh ini sx) w (gr w) := fun w hw => (y2 w hw).2
  unfold m_X3_perform
  rw [x1, y1, bd, bd]
  refine ok2_bind (Q := fun u v => ∃ sh' ini' sx', LbC a sh' ini' sx' u.1 u.2.1 u.2.2.1 u.2.2.2 ∧ LbM a sh' ini' sx' v.1 v.2.1 v.2.2.1 ∧ LbO a sh' ini' sx') ?_ (fun u v h => ok2_some h)
  refine ok2_for (fun g st tt => st.1 = nI g ∧ tt.1 = nI g ∧ ∃ sh' ini' sx', LbC a sh' ini' sx' st.2.1 st.2.2.1 st.2.2.2.1 st.2.2.2.2 ∧ LbM a sh' ini' sx' tt.2.1 tt.2.2.1 tt.2.2.2.1 ∧ LbO a sh' ini' sx' ∧ (k = 0 → ∀ w, w < a 0 → g ≤ gr w → sh' w = in0 a w)) (a 0) ⟨rfl, rfl, sh, ini, sx, hC, hM, hO, fun e w hw _ => h0 e w hw⟩ ?_ ?_ (by omega)
  · rintro g ⟨c1, c2, c3, c4, c5⟩ ⟨t1, t2, t3, t4, t5⟩ hgN ⟨e1, e2, sh', ini', sx', eC, eM, eO, e7⟩
    dsimp only at e1 e2 eC eM
    subst e1 e2
    obtain ⟨f1, f2⟩ := first_ok ho hI hgN (x2 g hgN)
    have sz := size_ok ho r4 hG (g := g) (by omega)
    have cl := cnt_le (fun v => decide (gr v = g)) (a 0)
    unfold m_X3_perform_B32 m_X12_layLabels_B121 m_X3_perform_J116 m_X12_layLabels_J185
    rw [ck_lit (by decide) (by decide), ck_lit (by decide) (by decide), show Int32.toNatClampNeg 0 = 0 from rfl, show Int32.toNatClampNeg 60 = 60 from rfl, r4 0 (by omega), r4 60 (by omega)]
    have hN : ¬ (nI (a 0) ≤ nI g) := by rw [nI_le_iff (by omega) (by omega)]; omega
    dsimp only
    rw [if_neg (by rw [r1.1]; exact hN), if_neg hN, if_pos hbit, f1, bd, sz, bd]
    by_cases c : 1 < cnt (fun v => decide (gr v = g)) (a 0)
    · have c' : ¬ (nI (cnt (fun v => decide (gr v = g)) (a 0)) ≤ 1) := by rw [show (1 : Int32) = nI 1 from rfl, nI_le_iff (by omega) (by omega)]; omega
      rw [if_pos c, if_neg (by decide), if_neg c', ck_nI (by omega) (by omega), ck_nI (by omega) (by omega), ck_nI (by omega) (by omega), tn_nI (by omega), nI_s]
      have hx := f2 c
      rcases (show k = 0 ∨ k = 1 ∨ k = 2 by omega) with rfl | rfl | rfl
      · rw [if_pos (by decide), if_pos (by decide)]
        have := nms2 ho he r1 r2 r4 t5 eC eM eO (g := g) (by omega) hG hx (fun w hw e => e7 rfl w hw (by omega))
        refine ok2_bind this ?_
        rintro ⟨u1, u2, u3⟩ ⟨v1, v2⟩ ⟨sh'', k1, k2, k3, k4⟩
        dsimp only at k1 k2
        exact ok2_il ⟨rfl, rfl, sh'', ini', sx', k1, k2, k3, fun _ w hw hgr => by rw [k4 w hw (by omega)]; exact e7 rfl w hw (by omega)⟩
      · rw [if_neg (by decide), if_pos (by decide), if_neg (by decide), if_pos (by decide)]
        refine ok2_bind (inits2 ho r1 r4 eC eM eO (g := g) (by omega) hG hx) ?_
        rintro ⟨u1, u2, u3⟩ v ⟨ini'', k1, k2, k3⟩
        dsimp only at k1 k2
        exact ok2_il ⟨rfl, rfl, sh', ini'', sx', k1, k2, k3, fun h => absurd h (by decide)⟩
      · rw [if_neg (by decide), if_neg (by decide), if_neg (by decide), if_neg (by decide)]
        refine ok2_bind (suffs2 ho r1 r4 eC eM eO (g := g) (by omega) hG hx h1 h2) ?_
        rintro u v ⟨sx'', k1, k2, k3⟩
        exact ok2_il ⟨rfl, rfl, sh', ini', sx'', k1, k2, k3, fun h => absurd h (by decide)⟩
    · have c' : nI (cnt (fun v => decide (gr v = g)) (a 0)) ≤ 1 := by rw [show (1 : Int32) = nI 1 from rfl, nI_le_iff (by omega) (by omega)]; omega
      rw [if_neg c, if_pos rfl, if_pos c', nI_s]
      exact ok2_il ⟨rfl, rfl, sh', ini', sx', eC, eM, eO, fun h w hw hgr => e7 h w hw (by omega)⟩
  · rintro ⟨c1, c2, c3, c4, c5⟩ ⟨t1, t2, t3, t4, t5⟩ ⟨e1, e2, sh', ini', sx', eC, eM, eO, e7⟩
    dsimp only at e1 e2 eC eM
    subst e1 e2
    unfold m_X3_perform_B32 m_X12_layLabels_B121
    rw [ck_lit (by decide) (by decide), show Int32.toNatClampNeg 0 = 0 from rfl, r4 0 (by omega)]
    have hN : nI (a 0) ≤ nI (a 0) := by rw [nI_le_iff (by omega) (by omega)]; omega
    dsimp only
    rw [if_pos (by rw [r1.1]; exact hN), if_pos hN]
    exact ok2_ir ⟨sh', ini', sx', eC, eM, eO⟩
