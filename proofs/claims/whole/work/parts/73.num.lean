/-! ===== places, numbers, the listing ===== -/
def pl (a : Nat → Nat) (w : Nat) : Nat := cnt (fun v => decide (KK2 a v < KK2 a w)) (a 0)
theorem pl_lt {a : Nat → Nat} {w : Nat} (hw : w < a 0) : pl a w < a 0 := cnt_lt (w := w) (by simp) _ hw
theorem pl_inj {a : Nat → Nat} (ho : OkW a) {v w : Nat} (hv : v < a 0) (hw : w < a 0) (h : pl a v = pl a w) : v = w := by
  apply K_inj ho hv hw
  have st : ∀ x y, x < a 0 → KK2 a x < KK2 a y → pl a x < pl a y := fun x y hx hxy => cnt_strict (v := x) (by simp) (by simpa using hxy) _ hx (fun i _ hi => by simp only [decide_eq_true_eq] at hi ⊢; omega)
  rcases Nat.lt_trichotomy (KK2 a v) (KK2 a w) with h' | h' | h'
  · have := st v w hv h'; omega
  · exact h'
  · have := st w v hw h'; omega
theorem pl_sur {a : Nat → Nat} (ho : OkW a) {p : Nat} (hp : p < a 0) : ∃ w, w < a 0 ∧ pl a w = p := pigeon (a 0) (pl a) (fun i hi => pl_lt hi) (fun i j hi hj => pl_inj ho hi hj) p hp
theorem placeC_ok {W_n : Int32} {W_ac W_fa W_in W_yr W_ti : Nat → Int32} {S_st S_mi S_fi S_sp S_cl S_nu S_co : Int32} {S_ke S_di : Nat → Int32} {a : Nat → Nat} (ho : OkW a) (he : OkE a) (r1 : RW W_n W_ac W_fa W_in W_yr W_ti a) (r2 : RS S_st S_mi S_fi S_sp S_cl S_nu S_co S_ke S_di a) {w : Nat} (hw : w < a 0) : m_X0_placeOf W_n W_ac W_fa W_in W_yr W_ti S_ke S_di (nI w) = some (nI (pl a w)) := by
  have h8 := ho.1
  unfold m_X0_placeOf
  rw [show ((0 : Int32), (0 : Int32)) = (fun i => (nI (cnt (fun v => decide (KK2 a v < KK2 a w)) i), nI i)) 0 from rfl]
  rw [it_run (fun i => (nI (cnt (fun v => decide (KK2 a v < KK2 a w)) i), nI i)) (a 0) (nI (pl a w)) ?_ ?_ (by omega)]
  · rfl
  · intro i hi
    unfold m_X0_placeOf_B4 m_X0_placeOf_J27
    rw [r1.1, if_neg (by rw [nI_le_iff (by omega) (by omega)]; omega), precedes_ok ho he r1 r2 hi hw, bd, cnt_s]
    by_cases e : KK2 a i < KK2 a w
    · rw [if_pos e, if_neg (by decide), if_pos (decide_eq_true e), show (1 : Int32) = nI 1 from rfl, nI_add, nI_add]
    · rw [if_neg e, if_pos rfl, if_neg (by simpa using e), show (1 : Int32) = nI 1 from rfl, nI_add] <;> rfl
  · unfold m_X0_placeOf_B4
    rw [r1.1, if_pos (by rw [nI_le_iff (by omega) (by omega)]; omega)]
    rfl
theorem placeM_ok {s : Nat → Int32} {a : Nat → Nat} (ho : OkW a) (he : OkE a) (r4 : RM s a) {w : Nat} (hw : w < a 0) : it (m_X12_layOrder_B16 (nI w) s) fu (0, 0) = some (nI (pl a w)) := by
  have h8 := ho.1
  rw [show ((0 : Int32), (0 : Int32)) = (fun i => (nI (cnt (fun v => decide (KK2 a v < KK2 a w)) i), nI i)) 0 from rfl]
  refine it_run (fun i => (nI (cnt (fun v => decide (KK2 a v < KK2 a w)) i), nI i)) (a 0) (nI (pl a w)) ?_ ?_ (by omega)
  · intro i hi
    obtain ⟨r, g1, g2⟩ := against_ok ho he r4 hi hw
    unfold m_X12_layOrder_B16 m_X12_layOrder_J45 m_X12_layOrder_J46
    simp (disch := omega) only [lit32, ck_nI, tn_nI, r4 0 (by omega), nI_le_iff, nI_eq_iff, g1, bd, nI_add]
    rw [if_neg (by omega), cnt_s]
    by_cases e : i = w
    · rw [if_pos e, if_neg (by simp [e])]
    · rw [if_neg e]
      by_cases e' : KK2 a i < KK2 a w
      · rw [if_neg (by rw [Int32.le_iff_toInt_le, show (nI 0).toInt = 0 from rfl]; have := g2.mpr e'; omega), if_pos (decide_eq_true e')]
      · rw [if_pos (by rw [Int32.le_iff_toInt_le, show (nI 0).toInt = 0 from rfl]; have := fun h => e' (g2.mp h); omega), if_neg (by simpa using e')]
  · unfold m_X12_layOrder_B16
    simp (disch := omega) only [lit32, ck_nI, tn_nI, r4 0 (by omega), nI_le_iff]
    rw [if_pos (by omega)]
    rfl
theorem orderC_ok {W_n : Int32} {W_ac W_fa W_in W_yr W_ti : Nat → Int32} {S_st S_mi S_fi S_sp S_cl S_nu S_co : Int32} {S_ke S_di : Nat → Int32} {a : Nat → Nat} (ho : OkW a) (he : OkE a) (r1 : RW W_n W_ac W_fa W_in W_yr W_ti a) (r2 : RS S_st S_mi S_fi S_sp S_cl S_nu S_co S_ke S_di a) (A_or : Nat → Int32) : OkS (it (m_X0_update_B2 W_n W_ac W_fa W_in W_yr W_ti S_ke S_di) fu (0, A_or)) (fun o => ∀ w, w < a 0 → o (pl a w) = nI w) := by
  have h8 := ho.1
  refine ok_for (fun i st => st.1 = nI i ∧ ∀ w, w < i → st.2 (pl a w) = nI w) (a 0) ⟨rfl, fun w hw => absurd hw (by omega)⟩ ?_ ?_ (by omega)
  · rintro i ⟨s1, s2⟩ hi ⟨e1, e2⟩
    dsimp only at e1 e2
    subst e1
    have hp := pl_lt hi
    unfold m_X0_update_B2
    rw [r1.1, if_neg (by rw [nI_le_iff (by omega) (by omega)]; omega)]
    dsimp only
    rw [← r1.1, placeC_ok ho he r1 r2 hi, bd, ck_nI (by omega) (by omega), tn_nI (by omega)]
    refine ok_l ⟨by rw [show (1 : Int32) = nI 1 from rfl, nI_add], fun w hw => ?_⟩
    dsimp only
    by_cases e : w = i
    · rw [e, upd_eq]
    · rw [upd_ne _ _ (fun h => e (pl_inj ho (by omega) hi h))]
      exact e2 w (by omega)
  · rintro ⟨s1, s2⟩ ⟨e1, e2⟩
    dsimp only at e1 e2
    subst e1
    unfold m_X0_update_B2
    rw [r1.1, if_pos (by rw [nI_le_iff (by omega) (by omega)]; omega)]
    exact ok_r e2
theorem orderM_ok {s : Nat → Int32} {a : Nat → Nat} (ho : OkW a) (he : OkE a) (r4 : RM s a) (M_bo : Nat → Int32) : OkS (m_X12_layOrder s M_bo) (fun o => ∀ w, w < a 0 → o (pl a w) = nI w) := by
  have h8 := ho.1
  unfold m_X12_layOrder
  refine ok_bind (Q := fun o => ∀ w, w < a 0 → o (pl a w) = nI w) ?_ (fun r h => ok_some h)
  refine ok_for (fun i st => st.1 = nI i ∧ ∀ w, w < i → st.2 (pl a w) = nI w) (a 0) ⟨rfl, fun w hw => absurd hw (by omega)⟩ ?_ ?_ (by omega)
  · rintro i ⟨s1, s2⟩ hi ⟨e1, e2⟩
    dsimp only at e1 e2
    subst e1
    have hp := pl_lt hi
    unfold m_X12_layOrder_B2
    simp (disch := omega) only [lit32, ck_nI, tn_nI, r4 0 (by omega), nI_le_iff]
    rw [if_neg (by omega), show (nI 0, nI 0) = ((0 : Int32), (0 : Int32)) from rfl, placeM_ok ho he r4 hi, bd, ck_nI (by omega) (by omega), tn_nI (by omega)]
    refine ok_l ⟨by rw [nI_add], fun w hw => ?_⟩
    dsimp only
    by_cases e : w = i
    · rw [e, upd_eq]
    · rw [upd_ne _ _ (fun h => e (pl_inj ho (by omega) hi h))]
      exact e2 w (by omega)
  · rintro ⟨s1, s2⟩ ⟨e1, e2⟩
    dsimp only at e1 e2
    subst e1
    unfold m_X12_layOrder_B2
    simp (disch := omega) only [lit32, ck_nI, tn_nI, r4 0 (by omega), nI_le_iff]
    rw [if_pos (by omega)]
    exact ok_r e2
/-- numbers as the class and as the reference keep them, while they are given -/
def NR (N g : Nat) (num : Nat → Nat) (nu bn : Nat → Int32) (P : Nat → Bool) : Prop := (∀ w, w < N → nu w = nI (num w) ∧ P w = decide (num w ≠ 0) ∧ (num w ≠ 0 → num w ≤ g ∧ bn (num w - 1) = nI w)) ∧ g = cnt (fun w => decide (num w ≠ 0)) N
theorem NR_lt {N g : Nat} {num : Nat → Nat} {nu bn : Nat → Int32} {P : Nat → Bool} (h : NR N g num nu bn P) {w : Nat} (hw : w < N) (h0 : num w = 0) : g < N := by
  rw [h.2]
  exact cnt_lt (w := w) (by simp [h0]) _ hw
theorem NR_le {N g : Nat} {num : Nat → Nat} {nu bn : Nat → Int32} {P : Nat → Bool} (h : NR N g num nu bn P) : g ≤ N := by
  rw [h.2]
  exact cnt_le _ _
theorem NR_add {N g : Nat} {num : Nat → Nat} {nu bn : Nat → Int32} {P Q : Nat → Bool} (h : NR N g num nu bn P) {w : Nat} (hw : w < N) (h0 : num w = 0) (hQ : ∀ v, v < N → Q v = (P v || decide (v = w))) : NR N (g + 1) (upN num w (g + 1)) (upd nu w (nI (g + 1))) (upd bn g (nI w)) Q := by
  refine ⟨fun v hv => ?_, ?_⟩
  · obtain ⟨h1, h2, h3⟩ := h.1 v hv
    rw [hQ v hv]
    by_cases e : v = w
    · subst e
      rw [upd_eq, upN_eq]
      refine ⟨rfl, by simp, fun _ => ⟨Nat.le_refl _, ?_⟩⟩
      rw [Nat.add_sub_cancel, upd_eq]
    · rw [upd_ne _ _ e, upN_ne _ _ e, h2]
      refine ⟨h1, by simp [e], fun hn => ?_⟩
      obtain ⟨k1, k2⟩ := h3 hn
      refine ⟨by omega, ?_⟩
      rw [upd_ne _ _ (by omega)]
      exact k2
  · rw [h.2]
    refine (cnt_up (w := w) (by simp [h0]) (by rw [upN_eq]; simp) N hw (fun i hi hne => ?_)).symm
    rw [upN_ne _ _ hne]
theorem NR_cg {N g : Nat} {num : Nat → Nat} {nu bn : Nat → Int32} {P Q : Nat → Bool} (h : NR N g num nu bn P) (hQ : ∀ v, v < N → Q v = P v) : NR N g num nu bn Q := ⟨fun w hw => by rw [hQ w hw]; exact h.1 w hw, h.2⟩
theorem nI_s (n : Nat) : nI n + 1 = nI (n + 1) := nI_add n 1
theorem cnt_none {p : Nat → Bool} : ∀ n, (∀ i, i < n → p i = false) → cnt p n = 0 := by
  intro n
  induction n with
  | zero => intro _; rfl
  | succ n ih => intro h; rw [cnt_s, ih (fun i hi => h i (by omega)), if_neg (by rw [h n (by omega)]; decide)]
theorem NR_0 {N : Nat} {nu bn : Nat → Int32} (h : ∀ w, w < N → nu w = nI 0) : NR N 0 (fun _ => 0) nu bn (bt 0) := ⟨fun w hw => ⟨h w hw, by rw [bt_0]; rfl, fun h => absurd rfl h⟩, (cnt_none N (fun i _ => rfl)).symm⟩
theorem cited2 {C_n : Int32} {C_sz C_cd s : Nat → Int32} {a : Nat → Nat} (hoW : OkW a) (hoC : OkC a) (r3 : RT C_n C_sz C_cd a) (r4 : RM s a) (hn : a 62 = 1) {nu bn : Nat → Int32} (hz : ∀ w, w < a 0 → nu w = nI 0) :
    Ok2 (it (m_X0_numberCitedWorks_B4 C_n C_sz C_cd) fu (0, 0, nu)) (it (m_X12_layNumbers_B10 s) fu (0, 0, 0, bn)) (fun u v => ∃ g num, u.1 = nI g ∧ v.1 = nI g ∧ NR (a 0) g num u.2 v.2.2 (bt v.2.1)) := by
  have h8 := hoW.1
  have h10 := hoC.1
  refine ok2_for (fun c st tt => st.2.1 = nI c ∧ tt.2.2.1 = nI c ∧ ∃ g num, st.1 = nI g ∧ tt.1 = nI g ∧ NR (a 0) g num st.2.2 tt.2.2.2 (bt tt.2.1)) (a 70) ⟨rfl, rfl, 0, fun _ => 0, rfl, rfl, NR_0 hz⟩ ?_ ?_ (by omega)
  · rintro c ⟨c1, c2, c3⟩ ⟨t1, t2, t3, t4⟩ hc ⟨e1, e2, g, num, e3, e4, e5⟩
    dsimp only at e1 e2 e3 e4 e5
    subst e1 e2 e3 e4
    obtain ⟨q1, q2, q3⟩ := hoC.2 c hc
    obtain ⟨z1, z2⟩ := r3.2 c hc
    unfold m_X0_numberCitedWorks_B4 m_X12_layNumbers_B10
    rw [r3.1]
    simp (disch := omega) only [lit32, ck_nI, tn_nI, r4 70 (by omega), r4 62 (by omega), nI_le_iff, nI_eq_iff]
    rw [if_neg (by omega), if_neg (by omega), if_pos hn]
    refine ok2_bind (Q := fun u v => ∃ g num, u.1 = nI g ∧ v.1 = nI g ∧ NR (a 0) g num u.2 v.2.2 (bt v.2.1)) ?_ ?_
    · refine ok2_for (fun k st tt => st.2.1 = nI k ∧ tt.2.2.1 = nI k ∧ ∃ g num, st.1 = nI g ∧ tt.1 = nI g ∧ NR (a 0) g num st.2.2 tt.2.2.2 (bt tt.2.1)) (a (71 + 6 * c)) ⟨rfl, rfl, g, num, rfl, rfl, e5⟩ ?_ ?_ (by omega)
      · rintro k ⟨c1, c2, c3⟩ ⟨t1, t2, t3, t4⟩ hk ⟨e1, e2, g, num, e3, e4, e5⟩
        dsimp only at e1 e2 e3 e4 e5
        subst e1 e2 e3 e4
        have hw := q2 k hk
        obtain ⟨n1, n2, n3⟩ := e5.1 _ hw
        have hle := NR_le e5
        unfold m_X0_numberCitedWorks_B17 m_X12_layNumbers_B35 m_X0_numberCitedWorks_J62 m_X12_layNumbers_J81
        rw [ck_nI (by omega) (by omega), tn_nI (by omega), z1, citesM_ok r4 (by omega), bd]
        dsimp only
        rw [if_neg (by rw [nI_le_iff (by omega) (by omega)]; omega), if_neg (by rw [nI_le_iff (by omega) (by omega)]; omega), workAt_ok (by omega), bd, z2 k hk, cited_ok r4 (by omega), bd]
        generalize a (72 + 6 * c + k) = w at hw n1 n2 n3
        rw [ck_nI (by omega) (by omega), tn_nI (by omega)]
        by_cases e : num w = 0
        · have hg := NR_lt e5 hw e
          have hc : c3 w = 0 := by rw [n1, e]; rfl
          have ht : ((t2 >>> (nI w &&& 31)) &&& 1) = 0 := by rw [tst_eq (by omega), n2, e]; rfl
          rw [if_pos hc, if_pos ht, ck_nI (by omega) (by omega), ck_nI (by omega) (by omega), tn_nI (by omega), nI_s, nI_s]
          exact ok2_il ⟨rfl, rfl, g + 1, upN num w (g + 1), rfl, rfl, NR_add e5 hw e (fun v hv => by rw [bt_or, bt_one w (by omega) v (by omega)])⟩
        · have hn := n3 e
          have hc : ¬ (c3 w = 0) := by rw [n1, show (0 : Int32) = nI 0 from rfl, nI_eq_iff (by omega) (by omega)]; exact e
          have ht : ¬ (((t2 >>> (nI w &&& 31)) &&& 1) = 0) := by rw [tst_eq (by omega), n2, if_pos (decide_eq_true e)]; decide
          rw [if_neg hc, if_neg ht]
          exact ok2_il ⟨nI_s _, nI_s _, g, num, rfl, rfl, e5⟩
      · rintro ⟨c1, c2, c3⟩ ⟨t1, t2, t3, t4⟩ ⟨e1, e2, g, num, e3, e4, e5⟩
        dsimp only at e1 e2 e3 e4 e5
        subst e1 e2 e3 e4
        unfold m_X0_numberCitedWorks_B17 m_X12_layNumbers_B35
        rw [ck_nI (by omega) (by omega), tn_nI (by omega), z1, citesM_ok r4 (by omega), bd]
        dsimp only
        rw [if_pos (by rw [nI_le_iff (by omega) (by omega)]; omega), if_pos (by rw [nI_le_iff (by omega) (by omega)]; omega)]
        exact ok2_ir ⟨g, num, rfl, rfl, e5⟩
    · rintro ⟨u1, u2⟩ ⟨v1, v2, v3⟩ ⟨g, num, e3, e4, e5⟩
      dsimp only at e3 e4 e5
      subst e3 e4
      exact ok2_il ⟨by dsimp only; rw [nI_add], by dsimp only; rw [nI_add], g, num, rfl, rfl, e5⟩
  · rintro ⟨c1, c2, c3⟩ ⟨t1, t2, t3, t4⟩ ⟨e1, e2, g, num, e3, e4, e5⟩
    dsimp only at e1 e2 e3 e4 e5
    subst e1 e2 e3 e4
    unfold m_X0_numberCitedWorks_B4 m_X12_layNumbers_B10
    rw [r3.1]
    simp (disch := omega) only [lit32, ck_nI, tn_nI, r4 70 (by omega), nI_le_iff]
    rw [if_pos (by omega), if_pos (by omega)]
    exact ok2_ir ⟨g, num, rfl, rfl, e5⟩
theorem rest2 {s : Nat → Int32} {a : Nat → Nat} (ho : OkW a) (r4 : RM s a) {od bo nu bn : Nat → Int32} {had : Int32} {g : Nat} {num : Nat → Nat} (h1 : ∀ w, w < a 0 → od (pl a w) = nI w) (h2 : ∀ w, w < a 0 → bo (pl a w) = nI w) (h3 : NR (a 0) g num nu bn (bt had)) :
    Ok2 (it (m_X0_giveNumbers_B46 (nI (a 0)) od) fu (nI g, 0, nu)) (it (m_X12_layNumbers_B95 had s bo) fu (nI g, 0, bn)) (fun u v => ∃ nm : Nat → Nat, ∀ w, w < a 0 → nm w < a 0 ∧ u w = nI (nm w + 1) ∧ v (nm w) = nI w) := by
  have h8 := ho.1
  refine ok2_for (fun p st tt => st.2.1 = nI p ∧ tt.2.1 = nI p ∧ ∃ g num, st.1 = nI g ∧ tt.1 = nI g ∧ NR (a 0) g num st.2.2 tt.2.2 (fun w => bt had w || decide (pl a w < p))) (a 0) ⟨rfl, rfl, g, num, rfl, rfl, NR_cg h3 (fun v _ => by simp)⟩ ?_ ?_ (by omega)
  · rintro p ⟨c1, c2, c3⟩ ⟨t1, t2, t3⟩ hp ⟨e1, e2, g, num, e3, e4, e5⟩
    dsimp only at e1 e2 e3 e4 e5
    subst e1 e2 e3 e4
    obtain ⟨w, hw, rfl⟩ := pl_sur ho hp
    obtain ⟨n1, n2, n3⟩ := e5.1 w hw
    have hle := NR_le e5
    have n2' : bt had w = decide (num w ≠ 0) := by rw [← n2]; simp
    unfold m_X0_giveNumbers_B46 m_X12_layNumbers_B95 m_X0_giveNumbers_J86 m_X12_layNumbers_J133
    simp (disch := omega) only [lit32, ck_nI, tn_nI, r4 0 (by omega), nI_le_iff]
    have hp' : ¬ (a 0 ≤ pl a w) := by omega
    rw [if_neg hp', if_neg hp', h1 w hw, h2 w hw]
    simp (disch := omega) only [ck_nI, tn_nI]
    by_cases e : num w = 0
    · have hg := NR_lt e5 hw e
      have hc : c3 w = nI 0 := by rw [n1, e]
      have ht : ((had >>> (nI w &&& nI 31)) &&& nI 1) = nI 0 := by
        show ((had >>> (nI w &&& 31)) &&& 1) = 0
        rw [tst_eq (by omega), n2', e]; rfl
      rw [if_pos hc, if_pos ht, ck_nI (by omega) (by omega), nI_add, nI_add]
      exact ok2_il ⟨rfl, rfl, g + 1, upN num w (g + 1), rfl, rfl, NR_add e5 hw e (fun v hv => by
        rw [Bool.or_assoc]
        congr 1
        have := fun h => pl_inj ho hv hw h
        by_cases e' : v = w
        · subst e'; simp
        · have : pl a v ≠ pl a w := fun h => e' (this h)
          rw [decide_eq_false e', Bool.or_false]
          exact decide_eq_decide.mpr (by omega))⟩
    · have hn := n3 e
      have hc : ¬ (c3 w = nI 0) := by rw [n1, nI_eq_iff (by omega) (by omega)]; exact e
      have ht : ¬ (((had >>> (nI w &&& nI 31)) &&& nI 1) = nI 0) := by
        show ¬ (((had >>> (nI w &&& 31)) &&& 1) = 0)
        rw [tst_eq (by omega), n2', if_pos (decide_eq_true e)]; decide
      rw [if_neg hc, if_neg ht]
      exact ok2_il ⟨nI_add _ 1, nI_add _ 1, g, num, rfl, rfl, NR_cg e5 (fun v hv => by
        have := fun h => pl_inj ho hv hw h
        by_cases e' : v = w
        · subst e'; rw [n2', decide_eq_true e]; rfl
        · have : pl a v ≠ pl a w := fun h => e' (this h)
          congr 1
          exact decide_eq_decide.mpr (by omega))⟩
  · rintro ⟨c1, c2, c3⟩ ⟨t1, t2, t3⟩ ⟨e1, e2, g, num, e3, e4, e5⟩
    dsimp only at e1 e2 e3 e4 e5
    subst e1 e2 e3 e4
    unfold m_X0_giveNumbers_B46 m_X12_layNumbers_B95
    simp (disch := omega) only [lit32, ck_nI, tn_nI, r4 0 (by omega), nI_le_iff]
    rw [if_pos (by omega), if_pos (by omega)]
    refine ok2_ir ⟨fun w => num w - 1, fun w hw => ?_⟩
    obtain ⟨n1, n2, n3⟩ := e5.1 w hw
    replace n2 : (bt had w || decide (pl a w < a 0)) = decide (num w ≠ 0) := n2
    rw [decide_eq_true (pl_lt hw), Bool.or_true] at n2
    have hn : num w ≠ 0 := by simpa using n2.symm
    have hle := NR_le e5
    have := n3 hn
    refine ⟨by show num w - 1 < a 0; omega, ?_, this.2⟩
    dsimp only
    rw [n1]
    congr 1
    omega
/-- what both keep of the arrangement -/
def AR (a : Nat → Nat) (nm : Nat → Nat) (od nu li bo bn : Nat → Int32) : Prop := (∀ v w, v < a 0 → w < a 0 → nm v = nm w → v = w) ∧ ∀ w, w < a 0 → nm w < a 0 ∧ od (pl a w) = nI w ∧ nu w = nI (nm w + 1) ∧ li (if a 57 = 1 then nm w else pl a w) = nI w ∧ bo (pl a w) = nI w ∧ bn (nm w) = nI w
theorem zero_ok {W_n : Int32} {N : Nat} (h : W_n = nI N) (h8 : N ≤ 8) (A_nu : Nat → Int32) : OkS (it (m_X0_giveNumbers_B4 W_n) fu (0, A_nu)) (fun o => ∀ w, w < N → o w = nI 0) := by
  refine ok_for (fun i st => st.1 = nI i ∧ ∀ w, w < i → st.2 w = nI 0) N ⟨rfl, fun w hw => absurd hw (by omega)⟩ ?_ ?_ (by omega)
  · rintro i ⟨s1, s2⟩ hi ⟨e1, e2⟩
    dsimp only at e1 e2
    subst e1
    unfold m_X0_giveNumbers_B4
    rw [h]
    simp (disch := omega) only [lit32, ck_nI, tn_nI, nI_le_iff, nI_add]
    rw [if_neg (by omega)]
    refine ok_l ⟨rfl, fun w hw => ?_⟩
    dsimp only
    by_cases e : w = i
    · rw [e, upd_eq]
    · rw [upd_ne _ _ e]; exact e2 w (by omega)
  · rintro ⟨s1, s2⟩ ⟨e1, e2⟩
    dsimp only at e1 e2
    subst e1
    unfold m_X0_giveNumbers_B4
    rw [h, if_pos (by rw [nI_le_iff (by omega) (by omega)]; omega)]
    exact ok_r e2
theorem list_ok {a : Nat → Nat} (ho : OkW a) {od nu : Nat → Int32} {nm : Nat → Nat} (hi : ∀ v w, v < a 0 → w < a 0 → nm v = nm w → v = w) (h : ∀ w, w < a 0 → nm w < a 0 ∧ od (pl a w) = nI w ∧ nu w = nI (nm w + 1)) {S_st : Int32} (hst : S_st = nI (a 57)) (h2 : a 57 ≤ 2) (A_li : Nat → Int32) : OkS (it (m_X0_update_B36 (nI (a 0)) S_st od nu) fu (0, A_li)) (fun o => ∀ w, w < a 0 → o (if a 57 = 1 then nm w else pl a w) = nI w) := by
  have h8 := ho.1
  refine ok_for (fun p st => st.1 = nI p ∧ ∀ w, w < a 0 → pl a w < p → st.2 (if a 57 = 1 then nm w else pl a w) = nI w) (a 0) ⟨rfl, fun w hw hp => absurd hp (by omega)⟩ ?_ ?_ (by omega)
  · rintro p ⟨s1, s2⟩ hp ⟨e1, e2⟩
    dsimp only at e1 e2
    subst e1
    obtain ⟨w, hw, rfl⟩ := pl_sur ho hp
    obtain ⟨k1, k2, k3⟩ := h w hw
    unfold m_X0_update_B36 m_X0_update_J81
    simp (disch := omega) only [lit32, ck_nI, tn_nI, nI_le_iff, nI_add, k2, k3, hst, nI_eq_iff]
    rw [if_neg (by omega), nI_sub (by omega) (by omega), Nat.add_sub_cancel]
    simp (disch := omega) only [ck_nI, tn_nI]
    by_cases e : a 57 = 1
    · simp only [if_pos e] at e2 ⊢
      refine ok_l ⟨rfl, fun v hv hp' => ?_⟩
      dsimp only
      by_cases e' : v = w
      · rw [e', upd_eq]
      · rw [upd_ne _ _ (fun q => e' (hi v w hv hw q))]
        exact e2 v hv (by have : pl a v ≠ pl a w := fun q => e' (pl_inj ho hv hw q); omega)
    · simp only [if_neg e] at e2 ⊢
      refine ok_l ⟨rfl, fun v hv hp' => ?_⟩
      dsimp only
      by_cases e' : v = w
      · rw [e', upd_eq]
      · have : pl a v ≠ pl a w := fun q => e' (pl_inj ho hv hw q)
        rw [upd_ne _ _ this]
        exact e2 v hv (by omega)
  · rintro ⟨s1, s2⟩ ⟨e1, e2⟩
    dsimp only at e1 e2
    subst e1
    unfold m_X0_update_B36
    rw [if_pos (by rw [nI_le_iff (by omega) (by omega)]; omega)]
    exact ok_r (fun w hw => e2 w hw (pl_lt hw))
theorem arr2 {W_n : Int32} {W_ac W_fa W_in W_yr W_ti : Nat → Int32} {S_st S_mi S_fi S_sp S_cl S_nu S_co : Int32} {S_ke S_di : Nat → Int32} {C_n : Int32} {C_sz C_cd s : Nat → Int32} {a : Nat → Nat} (ho : Ok a) (r1 : RW W_n W_ac W_fa W_in W_yr W_ti a) (r2 : RS S_st S_mi S_fi S_sp S_cl S_nu S_co S_ke S_di a) (r3 : RT C_n C_sz C_cd a) (r4 : RM s a) (A_or A_nu A_li M_bo M_bn : Nat → Int32) :
    Ok2 (m_X0_update W_n W_ac W_fa W_in W_yr W_ti S_st S_nu S_ke S_di C_n C_sz C_cd A_or A_nu A_li) (m_X12_layNumbers s M_bo M_bn) (fun u v => ∃ nm, AR a nm u.1 u.2.1 u.2.2 v.1 v.2) := by
  obtain ⟨hoW, hoE, hoC⟩ := ho
  have h8 := hoW.1
  obtain ⟨o1, x1, x2⟩ := orderC_ok hoW hoE r1 r2 A_or
  obtain ⟨o2, y1, y2⟩ := orderM_ok hoW hoE r4 M_bo
  obtain ⟨z, z1, z2⟩ := zero_ok r1.1 h8 A_nu
  unfold m_X0_update m_X12_layNumbers m_X0_giveNumbers m_X0_giveNumbers_J44
  rw [x1, y1, z1, bd, bd, bd]
  have key : Ok2 (if S_nu = 1 then (m_X0_numberCitedWorks C_n C_sz C_cd z).bind fun e10 => (it (m_X0_giveNumbers_B46 W_n o1) fu (e10.1, 0, e10.2)).bind fun e1 => some e1 else (it (m_X0_giveNumbers_B46 W_n o1) fu (0, 0, z)).bind fun e1 => some e1) ((it (m_X12_layNumbers_B10 s) fu (0, 0, 0, M_bn)).bind fun e2 => (it (m_X12_layNumbers_B95 e2.2.1 s o2) fu (e2.1, 0, e2.2.2)).bind fun e3 => some (o2, e3)) (fun u v => v.1 = o2 ∧ ∃ nm : Nat → Nat, ∀ w, w < a 0 → nm w < a 0 ∧ u w = nI (nm w + 1) ∧ v.2 (nm w) = nI w) := by
    rw [r2.1.2.2.2.2.2.1, r1.1]
    have hnu := hoE.1.2.2.2.2.2.1
    by_cases e : a 62 = 1
    · rw [if_pos (by rw [e]; rfl)]
      unfold m_X0_numberCitedWorks
      have := cited2 hoW hoC r3 r4 e (bn := M_bn) z2
      obtain ⟨u, v, w1, w2, g, num, w3, w4, w5⟩ := this
      rw [w1, w2, bd, bd, bd]
      dsimp only
      rw [w3, w4]
      refine ok2_bind (rest2 hoW r4 x2 y2 w5) (fun u v h => ok2_some ⟨rfl, h⟩)
    · rw [if_neg (by rw [show (1 : Int32) = nI 1 from rfl, nI_eq_iff (by omega) (by omega)]; exact e)]
      have h10 := hoC.1
      have st : it (m_X12_layNumbers_B10 s) fu (0, 0, 0, M_bn) = some (0, 0, M_bn) := by
        show it (m_X12_layNumbers_B10 s) (1999 + 1) (0, 0, 0, M_bn) = _
        rw [it_succ]
        unfold m_X12_layNumbers_B10
        simp (disch := omega) only [lit32, ck_nI, tn_nI, r4 70 (by omega), r4 62 (by omega), nI_le_iff, nI_eq_iff]
        rw [if_neg e]
        split <;> rfl
      rw [st, bd]
      refine ok2_bind (rest2 hoW r4 x2 y2 (NR_0 z2)) (fun u v h => ok2_some ⟨rfl, h⟩)
  obtain ⟨u, v, k1, k2, k3, nm, k4⟩ := key
  rw [k1, k2, bd]
  have hinj : ∀ v w, v < a 0 → w < a 0 → nm v = nm w → v = w := by
    intro x y hx hy h
    have h1 := (k4 x hx).2.2
    have h2 := (k4 y hy).2.2
    rw [h, h2, nI_eq_iff (by omega) (by omega)] at h1
    exact h1.symm
  obtain ⟨l, l1, l2⟩ := list_ok hoW (od := o1) (nu := u) hinj (fun w hw => ⟨(k4 w hw).1, x2 w hw, (k4 w hw).2.1⟩) r2.1.1 hoE.1.1 A_li
  rw [r1.1, l1, bd]
  refine ok2_some ⟨nm, hinj, fun w hw => ?_⟩
  dsimp only
  rw [k3]
  exact ⟨(k4 w hw).1, x2 w hw, (k4 w hw).2.1, l2 w hw, y2 w hw, (k4 w hw).2.2⟩
