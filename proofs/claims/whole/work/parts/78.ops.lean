/-! ===== what the steps do to a group ===== -/
def in0 (a : Nat → Nat) (w : Nat) : Nat := if a 58 = 0 ∨ a (1 + 7 * w) < a 58 then a (1 + 7 * w) else min (a 59) (a (1 + 7 * w))
def mxs (a : Nat → Nat) (n w : Nat) : Nat := max (min n (a (1 + 7 * w))) (in0 a w)
theorem in0_b {a : Nat → Nat} (ho : OkW a) (he : OkE a) {w : Nat} (hw : w < a 0) : 1 ≤ in0 a w ∧ in0 a w ≤ a (1 + 7 * w) := by
  have := (ho.2 w hw).1
  have := he.1.2.2.1
  unfold in0
  split <;> omega
theorem mx_b {a : Nat → Nat} (ho : OkW a) (he : OkE a) {w n : Nat} (hw : w < a 0) : 1 ≤ mxs a n w ∧ mxs a n w ≤ a (1 + 7 * w) := by
  have := in0_b ho he hw
  unfold mxs
  omega
theorem initC_ok {W_n : Int32} {W_ac W_fa W_in W_yr W_ti : Nat → Int32} {S_st S_mi S_fi S_sp S_cl S_nu S_co : Int32} {S_ke S_di : Nat → Int32} {a : Nat → Nat} (ho : OkW a) (he : OkE a) (r1 : RW W_n W_ac W_fa W_in W_yr W_ti a) (r2 : RS S_st S_mi S_fi S_sp S_cl S_nu S_co S_ke S_di a) {w : Nat} (hw : w < a 0) : m_X3_initiallyShown W_ac S_mi S_fi (nI w) = some (nI (in0 a w)) := by
  have h8 := ho.1
  have h4 := (ho.2 w hw).1
  have h5 := he.1.2.1
  have h6 := he.1.2.2.1
  unfold m_X3_initiallyShown m_X3_initiallyShown_J31
  rw [r2.1.2.1, r2.1.2.2.1]
  simp (disch := omega) only [lit32, ck_nI, tn_nI, (r1.2 w hw).1, nI_eq_iff, nI_le_iff, nI_lt_iff]
  unfold in0
  by_cases c1 : a 58 = 0
  · rw [if_pos c1, if_pos (Or.inl c1)]
  · rw [if_neg c1]
    by_cases c2 : a 58 ≤ a (1 + 7 * w)
    · rw [if_pos c2, if_neg (c := a 58 = 0 ∨ a (1 + 7 * w) < a 58) (by omega)]
      by_cases c3 : a (1 + 7 * w) < a 59
      · rw [if_pos c3, Nat.min_eq_right (by omega)]
      · rw [if_neg c3, Nat.min_eq_left (by omega)]
    · rw [if_neg c2, if_pos (Or.inr (by omega))]
theorem upL_eq (f : Nat → Int64) (k : Nat) (x : Int64) : vp_updL f k x k = x := by simp [vp_updL]
theorem upL_ne (f : Nat → Int64) {k j : Nat} (x : Int64) (h : j ≠ k) : vp_updL f k x j = f j := by simp [vp_updL, h]
theorem LC_show {a sh ini sx : Nat → Nat} {L_sh L_wi L_su : Nat → Int32} {L_nk : Nat → Int64} (h : LbC a sh ini sx L_sh L_wi L_su L_nk) (w m b : Nat) : LbC a (upN sh w m) (upN ini w b) sx (upd L_sh w (nI m)) (upd L_wi w (nI b)) L_su (vp_updL L_nk w (lN (nkv a m b w))) := by
  intro v hv
  obtain ⟨h1, h2, h3, h4⟩ := h v hv
  by_cases e : v = w
  · subst e
    rw [upd_eq, upd_eq, upL_eq, upN_eq, upN_eq]
    exact ⟨rfl, rfl, h3, rfl⟩
  · rw [upd_ne _ _ e, upd_ne _ _ e, upL_ne _ _ e, upN_ne _ _ e, upN_ne _ _ e]
    exact ⟨h1, h2, h3, h4⟩
theorem LC_cg {a sh ini sx sh' ini' : Nat → Nat} {L_sh L_wi L_su : Nat → Int32} {L_nk : Nat → Int64} (h : LbC a sh ini sx L_sh L_wi L_su L_nk) (h1 : ∀ w, w < a 0 → sh' w = sh w) (h2 : ∀ w, w < a 0 → ini' w = ini w) : LbC a sh' ini' sx L_sh L_wi L_su L_nk := by
  intro v hv
  rw [h1 v hv, h2 v hv]
  exact h v hv
theorem showAuthC_ok {W_n : Int32} {W_ac W_fa W_in W_yr W_ti : Nat → Int32} {S_st S_mi S_fi S_sp S_cl S_nu S_co : Int32} {S_ke S_di : Nat → Int32} {a sh ini sx : Nat → Nat} (ho : OkW a) (he : OkE a) (r1 : RW W_n W_ac W_fa W_in W_yr W_ti a) (r2 : RS S_st S_mi S_fi S_sp S_cl S_nu S_co S_ke S_di a) {L_sh L_wi L_su : Nat → Int32} {L_nk : Nat → Int64} (hC : LbC a sh ini sx L_sh L_wi L_su L_nk) (hO : LbO a sh ini sx) {x : Int32} {P : Nat → Bool} (hx : SB (a 0) x P) {n : Nat} (hn : n ≤ 4) : OkS (m_X3_showAuthors W_n W_ac W_fa W_in S_mi S_fi L_sh L_wi L_nk x (nI n)) (fun o => LbC a (fun w => if P w = true then mxs a n w else sh w) ini sx o.1 o.2.1 L_su o.2.2) := by
  have h8 := ho.1
  unfold m_X3_showAuthors
  refine ok_bind (Q := fun o => LbC a (fun w => if P w = true then mxs a n w else sh w) ini sx o.1 o.2.1 L_su o.2.2) ?_ (fun r h => ok_some h)
  refine ok_for (fun i st => st.1 = nI i ∧ LbC a (fun w => if w < i ∧ P w = true then mxs a n w else sh w) ini sx st.2.1 st.2.2.1 L_su st.2.2.2) (a 0) ⟨rfl, LC_cg hC (fun w hw => if_neg (by omega)) (fun _ _ => rfl)⟩ ?_ ?_ (by omega)
  · rintro i ⟨s1, s2, s3, s4⟩ hi ⟨e1, e2⟩
    dsimp only at e1 e2
    subst e1
    have m1 := mx_b (n := n) ho he hi
    have i1 := in0_b ho he hi
    have h4 := (ho.2 i hi).1
    unfold m_X3_showAuthors_B2 m_X3_showAuthors_J57
    rw [r1.1]
    dsimp only
    rw [if_neg (by rw [nI_le_iff (by omega) (by omega)]; omega), inSet_ok (by omega), bd, SB_at hx hi h8]
    cases hP : P i
    · rw [if_pos (by decide)]
      refine ok_l ⟨nI_s _, LC_cg e2 (fun w hw => ?_) (fun _ _ => rfl)⟩
      by_cases e : w = i
      · subst e; rw [if_neg (fun h => by rw [hP] at h; exact absurd h.2 (by decide)), if_neg (by omega)]
      · by_cases c : w < i ∧ P w = true
        · rw [if_pos c, if_pos ⟨by omega, c.2⟩]
        · rw [if_neg c, if_neg (fun h => c ⟨by omega, h.2⟩)]
    · rw [if_neg (by decide), ck_nI (by omega) (by omega), initC_ok ho he r1 r2 hi, bd, ck_nI (by omega) (by omega), tn_nI (by omega), (r1.2 i hi).1, (e2 i hi).2.1]
      have hmx : (if (if nI (a (1 + 7 * i)) < nI n then nI (a (1 + 7 * i)) else nI n) < nI (in0 a i) then nI (in0 a i) else (if nI (a (1 + 7 * i)) < nI n then nI (a (1 + 7 * i)) else nI n)) = nI (mxs a n i) := by
        have : (if nI (a (1 + 7 * i)) < nI n then nI (a (1 + 7 * i)) else nI n) = nI (min n (a (1 + 7 * i))) := by
          by_cases c : a (1 + 7 * i) < n
          · rw [if_pos (by rw [nI_lt_iff (by omega) (by omega)]; exact c), Nat.min_eq_right (by omega)]
          · rw [if_neg (by rw [nI_lt_iff (by omega) (by omega)]; exact c), Nat.min_eq_left (by omega)]
        rw [this]
        unfold mxs
        by_cases c : min n (a (1 + 7 * i)) < in0 a i
        · rw [if_pos (by rw [nI_lt_iff (by omega) (by omega)]; exact c), Nat.max_eq_right (by omega)]
        · rw [if_neg (by rw [nI_lt_iff (by omega) (by omega)]; exact c), Nat.max_eq_left (by omega)]
      rw [hmx, show_ok ho r1 _ _ _ hi m1.2 (hO i hi).2.1, bd]
      refine ok_l ⟨nI_s _, LC_cg (LC_show e2 i (mxs a n i) (ini i)) (fun w hw => ?_) (fun w hw => ?_)⟩
      · by_cases e : w = i
        · subst e; rw [upN_eq, if_pos ⟨by omega, hP⟩]
        · rw [upN_ne _ _ e]
          by_cases c : w < i ∧ P w = true
          · rw [if_pos c, if_pos ⟨by omega, c.2⟩]
          · rw [if_neg c, if_neg (fun h => c ⟨by omega, h.2⟩)]
      · by_cases e : w = i
        · subst e; rw [upN_eq]
        · rw [upN_ne _ _ e]
  · rintro ⟨s1, s2, s3, s4⟩ ⟨e1, e2⟩
    dsimp only at e1 e2
    subst e1
    unfold m_X3_showAuthors_B2
    rw [r1.1]
    dsimp only
    rw [if_pos (by rw [nI_le_iff (by omega) (by omega)]; omega)]
    refine ok_r (LC_cg e2 (fun w hw => ?_) (fun _ _ => rfl))
    by_cases c : P w = true
    · rw [if_pos c, if_pos ⟨hw, c⟩]
    · rw [if_neg c, if_neg (fun h => c h.2)]
theorem showInitC_ok {W_n : Int32} {W_ac W_fa W_in W_yr W_ti : Nat → Int32} {a sh ini sx : Nat → Nat} (ho : OkW a) (r1 : RW W_n W_ac W_fa W_in W_yr W_ti a) {L_sh L_wi L_su : Nat → Int32} {L_nk : Nat → Int64} (hC : LbC a sh ini sx L_sh L_wi L_su L_nk) (hO : LbO a sh ini sx) {x : Int32} {P : Nat → Bool} (hx : SB (a 0) x P) {b : Nat} (hb : b ≤ 1) : OkS (m_X3_showInitials W_n W_ac W_fa W_in L_sh L_wi L_nk x (nI b)) (fun o => LbC a sh (fun w => if P w = true then b else ini w) sx o.1 o.2.1 L_su o.2.2) := by
  have h8 := ho.1
  unfold m_X3_showInitials
  refine ok_bind (Q := fun o => LbC a sh (fun w => if P w = true then b else ini w) sx o.1 o.2.1 L_su o.2.2) ?_ (fun r h => ok_some h)
  refine ok_for (fun i st => st.1 = nI i ∧ LbC a sh (fun w => if w < i ∧ P w = true then b else ini w) sx st.2.1 st.2.2.1 L_su st.2.2.2) (a 0) ⟨rfl, LC_cg hC (fun _ _ => rfl) (fun w hw => if_neg (by omega))⟩ ?_ ?_ (by omega)
  · rintro i ⟨s1, s2, s3, s4⟩ hi ⟨e1, e2⟩
    dsimp only at e1 e2
    subst e1
    have h4 := (ho.2 i hi).1
    unfold m_X3_showInitials_B2 m_X3_showInitials_J33
    rw [r1.1]
    dsimp only
    rw [if_neg (by rw [nI_le_iff (by omega) (by omega)]; omega), inSet_ok (by omega), bd, SB_at hx hi h8]
    cases hP : P i
    · rw [if_pos (by decide)]
      refine ok_l ⟨nI_s _, LC_cg e2 (fun _ _ => rfl) (fun w hw => ?_)⟩
      by_cases e : w = i
      · subst e; rw [if_neg (fun h => by rw [hP] at h; exact absurd h.2 (by decide)), if_neg (by omega)]
      · by_cases c : w < i ∧ P w = true
        · rw [if_pos c, if_pos ⟨by omega, c.2⟩]
        · rw [if_neg c, if_neg (fun h => c ⟨by omega, h.2⟩)]
    · rw [if_neg (by decide), ck_nI (by omega) (by omega), tn_nI (by omega), (e2 i hi).1, show_ok ho r1 _ _ _ hi (hO i hi).1.2 hb, bd]
      refine ok_l ⟨nI_s _, LC_cg (LC_show e2 i (sh i) b) (fun w hw => ?_) (fun w hw => ?_)⟩
      · by_cases e : w = i
        · subst e; rw [upN_eq]
        · rw [upN_ne _ _ e]
      · by_cases e : w = i
        · subst e; rw [upN_eq, if_pos ⟨by omega, hP⟩]
        · rw [upN_ne _ _ e]
          by_cases c : w < i ∧ P w = true
          · rw [if_pos c, if_pos ⟨by omega, c.2⟩]
          · rw [if_neg c, if_neg (fun h => c ⟨by omega, h.2⟩)]
  · rintro ⟨s1, s2, s3, s4⟩ ⟨e1, e2⟩
    dsimp only at e1 e2
    subst e1
    unfold m_X3_showInitials_B2
    rw [r1.1]
    dsimp only
    rw [if_pos (by rw [nI_le_iff (by omega) (by omega)]; omega)]
    refine ok_r (LC_cg e2 (fun _ _ => rfl) (fun w hw => ?_))
    by_cases c : P w = true
    · rw [if_pos c, if_pos ⟨hw, c⟩]
    · rw [if_neg c, if_neg (fun h => c h.2)]
theorem atLeastM_ok {s : Nat → Int32} {a sh gr : Nat → Nat} (ho : OkW a) (he : OkE a) (r4 : RM s a) {M_sh M_gr M_tr : Nat → Int32} {g n : Nat} (hg : g < 8) (hn : n ≤ 4) (hG : ∀ w, w < a 0 → M_gr w = nI (gr w) ∧ gr w < 8) (h1 : ∀ w, w < a 0 → M_sh w = nI (sh w)) (h2 : ∀ w, w < a 0 → gr w = g → M_tr w = nI (in0 a w)) : OkS (m_X12_showAtLeast s M_sh M_gr M_tr (nI g) (nI n)) (fun o => ∀ w, w < a 0 → o w = nI (if decide (gr w = g) = true then mxs a n w else sh w)) := by
  have h8 := ho.1
  unfold m_X12_showAtLeast
  refine ok_bind (Q := fun o => ∀ w, w < a 0 → o w = nI (if decide (gr w = g) = true then mxs a n w else sh w)) ?_ (fun r h => ok_some h)
  refine ok_for (fun i st => st.1 = nI i ∧ ∀ w, w < a 0 → st.2 w = nI (if w < i ∧ decide (gr w = g) = true then mxs a n w else sh w)) (a 0) ⟨rfl, fun w hw => by rw [if_neg (by omega)]; exact h1 w hw⟩ ?_ ?_ (by omega)
  · rintro i ⟨s1, s2⟩ hi ⟨e1, e2⟩
    dsimp only at e1 e2
    subst e1
    have m1 := mx_b (n := n) ho he hi
    have i1 := in0_b ho he hi
    have h4 := (ho.2 i hi).1
    have hgi := hG i hi
    unfold m_X12_showAtLeast_B2
    rw [ck_lit (by decide) (by decide), show Int32.toNatClampNeg 0 = 0 from rfl, r4 0 (by omega)]
    dsimp only
    rw [if_neg (by rw [nI_le_iff (by omega) (by omega)]; omega), ck_nI (by omega) (by omega), tn_nI (by omega), hgi.1, authorsM r4 (by omega), bd, bd]
    by_cases c : gr i = g
    · rw [if_pos (by rw [c])]
      have key : ∀ y, y = min n (a (1 + 7 * i)) → m_X12_showAtLeast_J40 (nI g) (nI n) (nI i) (nI y) s2 M_tr = some (Sum.inl (nI (i + 1), upd s2 i (nI (mxs a n i)))) := by
        intro y hy
        unfold m_X12_showAtLeast_J40 m_X12_showAtLeast_J69 m_X12_showAtLeast_J70
        simp (disch := omega) only [ck_nI, tn_nI, h2 i hi c, nI_le_iff, nI_s]
        unfold mxs
        by_cases d : in0 a i ≤ y
        · rw [if_pos d, ← hy, Nat.max_eq_left d]
        · rw [if_neg d, ← hy, Nat.max_eq_right (by omega)]
      have fin : OkS (some (Sum.inl (nI (i + 1), upd s2 i (nI (mxs a n i)))) : Option ((Int32 × (Nat → Int32)) ⊕ (Nat → Int32))) (Sum.elim (fun st => st.1 = nI (i + 1) ∧ ∀ w, w < a 0 → st.2 w = nI (if w < i + 1 ∧ decide (gr w = g) = true then mxs a n w else sh w)) (fun o => ∀ w, w < a 0 → o w = nI (if decide (gr w = g) = true then mxs a n w else sh w))) := by
        refine ok_l ⟨rfl, fun w hw => ?_⟩
        dsimp only
        by_cases e : w = i
        · subst e; rw [upd_eq, if_pos ⟨by omega, decide_eq_true c⟩]
        · rw [upd_ne _ _ e, e2 w hw]
          by_cases c : w < i ∧ decide (gr w = g) = true
          · rw [if_pos c, if_pos ⟨by omega, c.2⟩]
          · rw [if_neg c, if_neg (fun h => c ⟨by omega, h.2⟩)]
      by_cases d : a (1 + 7 * i) ≤ n
      · rw [if_pos (by rw [nI_le_iff (by omega) (by omega)]; exact d), key _ (Nat.min_eq_right d).symm]
        exact fin
      · rw [if_neg (by rw [nI_le_iff (by omega) (by omega)]; exact d), key _ (Nat.min_eq_left (by omega)).symm]
        exact fin
    · rw [if_neg (by rw [nI_eq_iff (by omega) (by omega)]; exact c)]
      unfold m_X12_showAtLeast_J70
      refine ok_l ⟨nI_s _, fun w hw => ?_⟩
      dsimp only
      rw [e2 w hw]
      by_cases e : w = i
      · subst e; rw [if_neg (by omega), if_neg (fun h => c (of_decide_eq_true h.2))]
      · by_cases c : w < i ∧ decide (gr w = g) = true
        · rw [if_pos c, if_pos ⟨by omega, c.2⟩]
        · rw [if_neg c, if_neg (fun h => c ⟨by omega, h.2⟩)]
  · rintro ⟨s1, s2⟩ ⟨e1, e2⟩
    dsimp only at e1 e2
    subst e1
    unfold m_X12_showAtLeast_B2
    rw [ck_lit (by decide) (by decide), show Int32.toNatClampNeg 0 = 0 from rfl, r4 0 (by omega)]
    dsimp only
    rw [if_pos (by rw [nI_le_iff (by omega) (by omega)]; omega)]
    refine ok_r (fun w hw => ?_)
    rw [e2 w hw]
    by_cases c : decide (gr w = g) = true
    · rw [if_pos c, if_pos ⟨hw, c⟩]
    · rw [if_neg c, if_neg (fun h => c h.2)]
