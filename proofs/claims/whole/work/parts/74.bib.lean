/-! ===== what is listed, and which number a work has ===== -/
theorem in_isWork {s : Nat → Int32} {x : Int32} {e : Int32} (h : m_X12_isWork s x = some e) : m_X12_in (Int32.toInt64 x) 0 (Int32.toInt64 (s (Int32.toNatClampNeg 0) - 1)) = some e := by
  unfold m_X12_isWork at h
  rw [show (0 : Int32) = nI 0 from rfl, ck_nI (by omega) (by omega)] at h
  obtain ⟨y, h1, h2⟩ := Option.bind_eq_some_iff.mp h
  unfold ckb at h2
  split at h2
  · cases h2; exact h1
  · cases h2
theorem nm_sur {a nm : Nat → Nat} {od nu li bo bn : Nat → Int32} (h : AR a nm od nu li bo bn) {p : Nat} (hp : p < a 0) : ∃ w, w < a 0 ∧ nm w = p := pigeon (a 0) nm (fun i hi => (h.2 i hi).1) (fun i j hi hj => h.1 i j hi hj) p hp
theorem placeN_ok {N : Nat} {f : Nat → Nat} {row : Nat → Int32} (h8 : N ≤ 8) (h1 : ∀ w, w < N → f w < N ∧ row (f w) = nI w) (h2 : ∀ p, p < N → ∃ w, w < N ∧ f w = p) {w : Nat} (hw : w < N) : m_X12_placeIn_bn row (nI w) = some (nI (f w)) ∧ m_X12_placeIn_bo row (nI w) = some (nI (f w)) := by
  have hf := (h1 w hw).1
  have hne : ∀ k, k < f w → row k ≠ nI w := by
    intro k hk
    obtain ⟨v, hv, e⟩ := h2 k (by omega)
    rw [← e, (h1 v hv).2, ne_eq, nI_eq_iff (by omega) (by omega)]
    intro e'
    subst e'
    omega
  constructor
  · unfold m_X12_placeIn_bn
    rw [show (0 : Int32) = nI 0 from rfl, it_run nI (f w) (nI (f w)) (fun i hi => ?_) ?_ (by omega)]
    · rfl
    · unfold m_X12_placeIn_bn_B2
      rw [ck_nI (by omega) (by omega), tn_nI (by omega), if_pos (h1 w hw).2]
    · unfold m_X12_placeIn_bn_B2
      rw [ck_nI (by omega) (by omega), tn_nI (by omega), if_neg (hne i hi), nI_s]
  · unfold m_X12_placeIn_bo
    rw [show (0 : Int32) = nI 0 from rfl, it_run nI (f w) (nI (f w)) (fun i hi => ?_) ?_ (by omega)]
    · rfl
    · unfold m_X12_placeIn_bo_B2
      rw [ck_nI (by omega) (by omega), tn_nI (by omega), if_pos (h1 w hw).2]
    · unfold m_X12_placeIn_bo_B2
      rw [ck_nI (by omega) (by omega), tn_nI (by omega), if_neg (hne i hi), nI_s]
theorem placeBn {a nm : Nat → Nat} {od nu li bo bn : Nat → Int32} (h8 : a 0 ≤ 8) (h : AR a nm od nu li bo bn) {w : Nat} (hw : w < a 0) : m_X12_placeIn_bn bn (nI w) = some (nI (nm w)) := (placeN_ok h8 (fun v hv => ⟨(h.2 v hv).1, (h.2 v hv).2.2.2.2.2⟩) (fun p hp => nm_sur h hp) hw).1
theorem placeBo {a nm : Nat → Nat} {od nu li bo bn : Nat → Int32} (ho : OkW a) (h : AR a nm od nu li bo bn) {w : Nat} (hw : w < a 0) : m_X12_placeIn_bo bo (nI w) = some (nI (pl a w)) := (placeN_ok ho.1 (fun v hv => ⟨pl_lt hv, (h.2 v hv).2.2.2.2.1⟩) (fun p hp => pl_sur ho hp) hw).2
/-- the rank of a work in the listing -/
def rk (a nm : Nat → Nat) (w : Nat) : Nat := if a 57 = 1 then nm w else pl a w
theorem rk_lt {a nm : Nat → Nat} {od nu li bo bn : Nat → Int32} (h : AR a nm od nu li bo bn) {w : Nat} (hw : w < a 0) : rk a nm w < a 0 := by
  unfold rk
  split
  · exact (h.2 w hw).1
  · exact pl_lt hw
theorem rk_inj {a nm : Nat → Nat} {od nu li bo bn : Nat → Int32} (ho : OkW a) (h : AR a nm od nu li bo bn) {v w : Nat} (hv : v < a 0) (hw : w < a 0) (e : rk a nm v = rk a nm w) : v = w := by
  unfold rk at e
  split at e
  · exact h.1 v w hv hw e
  · exact pl_inj ho hv hw e
theorem rk_sur {a nm : Nat → Nat} {od nu li bo bn : Nat → Int32} (ho : OkW a) (h : AR a nm od nu li bo bn) {p : Nat} (hp : p < a 0) : ∃ w, w < a 0 ∧ rk a nm w = p := by
  unfold rk
  by_cases e : a 57 = 1
  · simp only [if_pos e]; exact nm_sur h hp
  · simp only [if_neg e]; exact pl_sur ho hp
theorem li_at {a nm : Nat → Nat} {od nu li bo bn : Nat → Int32} (h : AR a nm od nu li bo bn) {w : Nat} (hw : w < a 0) : li (rk a nm w) = nI w := (h.2 w hw).2.2.2.1
theorem listed_ok {a nm : Nat → Nat} {od nu li bo bn s : Nat → Int32} (ho : Ok a) (r4 : RM s a) (h : AR a nm od nu li bo bn) {w : Nat} (hw : w < a 0) : m_X12_listed s bo bn (nI (rk a nm w)) = some (nI w) := by
  have h8 := ho.1.1
  have h2 := ho.2.1.1.1
  have hr := rk_lt h hw
  obtain ⟨k1, k2, k3, k4, k5, k6⟩ := h.2 w hw
  unfold m_X12_listed m_X12_listed_J26
  simp (disch := omega) only [lit32, ck_nI, tn_nI, r4 57 (by omega), nI_eq_iff]
  unfold rk
  by_cases e : a 57 = 1
  · rw [if_pos e, if_pos e, k6]
  · rw [if_neg e, if_neg e, k5]
theorem step21 : Step_21 Rel0 := by
  intro T_co T_n W_n W_ac W_fa W_in W_yr W_ti S_st S_mi S_fi S_sp S_cl S_nu S_co S_ke S_di C_n C_sz C_cd Y_n Y_nx A_or A_nu A_li M_s M_ke M_km M_te M_n M_bo M_bn Q_rv x1 hR
  have hR' := hR
  obtain ⟨ht, ⟨a, ho, r1, r2, r3, r4⟩, h5⟩ := hR
  have h8 := ho.1.1
  rcases hasW x1 h8 (r4 0 (by omega)) with ⟨p, k1, k2, f1, f2⟩ | ⟨f1, f2⟩
  · subst k2
    obtain ⟨u, v, g1, g2, nm, g3⟩ := arr2 ho r1 r2 r3 r4 A_or A_nu A_li M_bo M_bn
    obtain ⟨w, hw, rfl⟩ := rk_sur ho.1 g3 k1
    refine ⟨(nI w, u.1, u.2.1, u.2.2), (nI w, v.1, v.2), ?_, ?_, rfl, hR'⟩
    · unfold m_X11_bibliographyAt
      rw [show m_X9_has W_n (nI (rk a nm w)) = some 1 by rw [r1.1]; exact f1, bd, if_neg (by decide), g1, bd, ck_nI (by omega) (by omega), tn_nI (by omega), li_at g3 hw]
    · unfold m_X12_bibliographyAt
      rw [ck_lit (by decide) (by decide), in_isWork f2, bd, if_neg (by decide), g2, bd, listed_ok ho r4 g3 hw, bd]
  · refine ⟨((-1), A_or, A_nu, A_li), ((-1), M_bo, M_bn), ?_, ?_, rfl, hR'⟩
    · unfold m_X11_bibliographyAt
      rw [r1.1, f1, bd, if_pos rfl]
    · unfold m_X12_bibliographyAt
      rw [ck_lit (by decide) (by decide), in_isWork f2, bd, if_pos rfl]
theorem step22 : Step_22 Rel0 := by
  intro T_co T_n W_n W_ac W_fa W_in W_yr W_ti S_st S_mi S_fi S_sp S_cl S_nu S_co S_ke S_di C_n C_sz C_cd Y_n Y_nx A_or A_nu A_li M_s M_ke M_km M_te M_n M_bo M_bn Q_rv x1 hR
  have hR' := hR
  obtain ⟨ht, ⟨a, ho, r1, r2, r3, r4⟩, h5⟩ := hR
  have h8 := ho.1.1
  rcases hasW x1 h8 (r4 0 (by omega)) with ⟨w, hw, k2, f1, f2⟩ | ⟨f1, f2⟩
  · subst k2
    obtain ⟨u, v, g1, g2, nm, g3⟩ := arr2 ho r1 r2 r3 r4 A_or A_nu A_li M_bo M_bn
    refine ⟨(nI (nm w + 1), u.1, u.2.1, u.2.2), (nI (nm w + 1), v.1, v.2), ?_, ?_, rfl, hR'⟩
    · unfold m_X11_numberOf
      rw [show m_X9_has W_n (nI w) = some 1 by rw [r1.1]; exact f1, bd, if_neg (by decide), g1, bd, ck_nI (by omega) (by omega), tn_nI (by omega), (g3.2 w hw).2.2.1]
    · unfold m_X12_numberOf
      rw [f2, bd, if_neg (by decide), g2, bd, placeBn h8 g3 hw, bd, nI_s]
  · refine ⟨((-1), A_or, A_nu, A_li), ((-1), M_bo, M_bn), ?_, ?_, rfl, hR'⟩
    · unfold m_X11_numberOf
      rw [r1.1, f1, bd, if_pos rfl]
    · unfold m_X12_numberOf
      rw [f2, bd, if_pos rfl]
