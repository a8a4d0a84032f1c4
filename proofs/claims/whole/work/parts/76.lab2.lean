/-! ===== labels: what both keep, when two are alike, groups ===== -/
def LbO (a sh ini sx : Nat → Nat) : Prop := ∀ w, w < a 0 → (1 ≤ sh w ∧ sh w ≤ a (1 + 7 * w)) ∧ ini w ≤ 1 ∧ sx w ≤ 200
def LbC (a sh ini sx : Nat → Nat) (L_sh L_wi L_su : Nat → Int32) (L_nk : Nat → Int64) : Prop := ∀ w, w < a 0 → L_sh w = nI (sh w) ∧ L_wi w = nI (ini w) ∧ L_su w = nI (sx w) ∧ L_nk w = lN (nkv a (sh w) (ini w) w)
def LbM (a sh ini sx : Nat → Nat) (M_sh M_in M_su : Nat → Int32) : Prop := ∀ w, w < a 0 → M_sh w = nI (sh w) ∧ M_in w = nI (ini w) ∧ M_su w = (if sx w = 0 then -9 else nI (sx w))
def lab (a sh ini sx : Nat → Nat) (v w : Nat) : Bool := decide (nkv a (sh v) (ini v) v = nkv a (sh w) (ini w) w ∧ a (6 + 7 * v) = a (6 + 7 * w) ∧ sx v = sx w)
theorem lab_rfl (a sh ini sx : Nat → Nat) (v : Nat) : lab a sh ini sx v v = true := by unfold lab; simp
theorem lab_sym (a sh ini sx : Nat → Nat) (v w : Nat) : lab a sh ini sx v w = lab a sh ini sx w v := by
  unfold lab
  exact decide_eq_decide.mpr ⟨fun h => ⟨h.1.symm, h.2.1.symm, h.2.2.symm⟩, fun h => ⟨h.1.symm, h.2.1.symm, h.2.2.symm⟩⟩
theorem lab_tr {a sh ini sx : Nat → Nat} {v w : Nat} (h : lab a sh ini sx v w = true) (u : Nat) : lab a sh ini sx u v = lab a sh ini sx u w := by
  unfold lab at h ⊢
  have h := of_decide_eq_true h
  rw [h.1, h.2.1, h.2.2]
theorem neg9 {n : Nat} (h : n < 1000) : ¬ ((-9 : Int32) = nI n) := by
  intro e
  have := congrArg Int32.toInt e
  rw [nI_toI (by omega), show (-9 : Int32).toInt = -9 from rfl] at this
  omega
theorem suf_iff {x y : Nat} (hx : x ≤ 200) (hy : y ≤ 200) : ((if x = 0 then (-9 : Int32) else nI x) = (if y = 0 then -9 else nI y)) = (x = y) := by
  apply propext
  by_cases c : x = 0
  · by_cases d : y = 0
    · rw [if_pos c, if_pos d]; exact ⟨fun _ => by omega, fun _ => rfl⟩
    · rw [if_pos c, if_neg d]; exact ⟨fun h => absurd h (neg9 (by omega)), fun h => by omega⟩
  · by_cases d : y = 0
    · rw [if_neg c, if_pos d]; exact ⟨fun h => absurd h.symm (neg9 (by omega)), fun h => by omega⟩
    · rw [if_neg c, if_neg d, nI_eq_iff (by omega) (by omega)]
theorem labelM_ok {s : Nat → Int32} {a sh ini sx : Nat → Nat} (ho : OkW a) (r4 : RM s a) {M_sh M_in M_su : Nat → Int32} (hM : LbM a sh ini sx M_sh M_in M_su) (hO : LbO a sh ini sx) {v w : Nat} (hv : v < a 0) (hw : w < a 0) : m_X12_haveOneLabel s M_sh M_in M_su (nI v) (nI w) = some (if lab a sh ini sx v w = true then 1 else 0) := by
  have h8 := ho.1
  have n := namesM_ok ho r4 (M_sh := M_sh) (M_in := M_in) (sh := sh) (ini := ini) (fun w hw => ⟨(hM w hw).1, (hM w hw).2.1⟩) (fun w hw => ⟨(hO w hw).1, (hO w hw).2.1⟩) hv hw
  have y1 := (ho.2 v hv).2.2.1
  have y2 := (ho.2 w hw).2.2.1
  have z1 := (hO v hv).2.2
  have z2 := (hO w hw).2.2
  unfold m_X12_haveOneLabel m_X12_haveOneLabel_J41 m_X12_haveOneLabel_J42
  rw [yearM r4 (by omega), bd, yearM r4 (by omega), bd, ckb_0, ckb_1, n]
  simp (disch := omega) only [ck_nI, tn_nI, (hM v hv).2.2, (hM w hw).2.2, suf_iff, nI_eq_iff]
  unfold lab
  by_cases c1 : a (6 + 7 * v) = a (6 + 7 * w)
  · by_cases c2 : sx v = sx w
    · by_cases c3 : nkv a (sh v) (ini v) v = nkv a (sh w) (ini w) w
      · rw [if_pos c1, if_pos c2, if_pos c3, if_pos (decide_eq_true ⟨c3, c1, c2⟩), bd, if_neg (by decide)]
      · rw [if_pos c1, if_pos c2, if_neg c3, if_neg (by rw [decide_eq_true_eq]; exact fun h => c3 h.1), bd, if_pos rfl]
    · rw [if_pos c1, if_neg c2, if_neg (by rw [decide_eq_true_eq]; exact fun h => c2 h.2.2)]
  · rw [if_neg c1, if_neg (by rw [decide_eq_true_eq]; exact fun h => c1 h.2.1)]
theorem lg_eq {x y : Int64} : (lg_cmp x y = 0) = (x = y) := by
  unfold lg_cmp
  apply propext
  by_cases c : x = y
  · subst c
    rw [if_neg (Int64.lt_irrefl), if_pos rfl]
    exact ⟨fun _ => rfl, fun _ => rfl⟩
  · rw [if_neg c]
    split
    · exact ⟨fun h => absurd h (by decide), fun h => absurd h c⟩
    · exact ⟨fun h => absurd h (by decide), fun h => absurd h c⟩
theorem nkv_lt {a sh ini sx : Nat → Nat} (ho : OkW a) (hO : LbO a sh ini sx) {w : Nat} (hw : w < a 0) : nkv a (sh w) (ini w) w < 2199023255553 := nk_lt ho hw (hO w hw).1.2 _ _ (by split <;> omega) (Nat.le_refl _)
theorem sameC_ok {a sh ini sx : Nat → Nat} (ho : OkW a) {L_sh L_wi L_su : Nat → Int32} {L_nk : Nat → Int64} (hC : LbC a sh ini sx L_sh L_wi L_su L_nk) (hO : LbO a sh ini sx) {v w : Nat} (hv : v < a 0) (hw : w < a 0) : m_X3_sameNames L_nk (nI v) (nI w) = some (if nkv a (sh v) (ini v) v = nkv a (sh w) (ini w) w then 1 else 0) := by
  have h8 := ho.1
  have k1 := nkv_lt ho hO hv
  have k2 := nkv_lt ho hO hw
  unfold m_X3_sameNames m_X3_sameNames_J21
  simp (disch := omega) only [ck_nI, tn_nI, (hC v hv).2.2.2, (hC w hw).2.2.2, lg_eq, lNq, ckb_0, ckb_1]
  split <;> rfl
theorem inSet_ok {x : Int32} {w : Nat} (hw : w < 9) : m_X11_inSet x (nI w) = some (if bt x w = true then 1 else 0) := by
  unfold m_X11_inSet m_X11_inSet_J14
  rw [tst_eq hw, ckb_0, ckb_1]
  cases bt x w <;> rfl
theorem below_ok {x : Int32} {w : Nat} (hw : w < 9) : ((∀ i, i < w → bt x i = false) ∧ m_X11_hasBelow x (nI w) = some 0) ∨ ((¬ ∀ i, i < w → bt x i = false) ∧ m_X11_hasBelow x (nI w) = some 1) := by
  unfold m_X11_hasBelow m_X11_hasBelow_J15
  rw [ckb_0, ckb_1]
  by_cases c : ∀ i, i < w → bt x i = false
  · exact Or.inl ⟨c, if_pos ((low_iff hw).mpr c)⟩
  · exact Or.inr ⟨c, if_neg (fun h => c ((low_iff hw).mp h))⟩
/-- a set of works, as the class keeps it -/
def SB (N : Nat) (x : Int32) (P : Nat → Bool) : Prop := ∀ i, i < 32 → bt x i = (decide (i < N) && P i)
theorem SB_at {N : Nat} {x : Int32} {P : Nat → Bool} (h : SB N x P) {w : Nat} (hw : w < N) (h8 : N ≤ 8) : bt x w = P w := by
  rw [h w (by omega), decide_eq_true hw, Bool.true_and]
theorem likeC_ok {W_n : Int32} {W_ac W_fa W_in W_yr W_ti : Nat → Int32} {a sh ini sx : Nat → Nat} (ho : OkW a) (r1 : RW W_n W_ac W_fa W_in W_yr W_ti a) {L_sh L_wi L_su : Nat → Int32} {L_nk : Nat → Int64} (hC : LbC a sh ini sx L_sh L_wi L_su L_nk) (hO : LbO a sh ini sx) {w : Nat} (hw : w < a 0) : OkS (m_X3_worksLabelledLike W_n W_yr L_su L_nk (nI w)) (fun x => SB (a 0) x (lab a sh ini sx w)) := by
  have h8 := ho.1
  unfold m_X3_worksLabelledLike
  refine ok_bind (Q := fun x => SB (a 0) x (lab a sh ini sx w)) ?_ (fun r h => ok_some h)
  refine ok_for (fun i st => st.2 = nI i ∧ SB i st.1 (lab a sh ini sx w)) (a 0) ⟨rfl, fun j hj => by rw [bt_0, decide_eq_false (by omega)]; rfl⟩ ?_ ?_ (by omega)
  · rintro i ⟨s1, s2⟩ hi ⟨e1, e2⟩
    dsimp only at e1 e2
    subst e1
    have y1 := (ho.2 w hw).2.2.1
    have y2 := (ho.2 i hi).2.2.1
    have z1 := (hO w hw).2.2
    have z2 := (hO i hi).2.2
    unfold m_X3_worksLabelledLike_B4 m_X3_worksLabelledLike_J66
    rw [r1.1]
    dsimp only
    rw [if_neg (by rw [nI_le_iff (by omega) (by omega)]; omega), sameC_ok ho hC hO hw hi, bd]
    simp (disch := omega) only [ck_nI, tn_nI, (r1.2 w hw).2.2.1, (r1.2 i hi).2.2.1, (hC w hw).2.2.1, (hC i hi).2.2.1, nI_eq_iff]
    have no : lab a sh ini sx w i = false → SB (i + 1) s1 (lab a sh ini sx w) := by
      intro hl j hj
      rw [e2 j hj]
      by_cases e : j = i
      · subst e; rw [hl, Bool.and_false, Bool.and_false]
      · rw [decide_eq_decide.mpr (show j < i ↔ j < i + 1 by omega)]
    by_cases c3 : nkv a (sh w) (ini w) w = nkv a (sh i) (ini i) i
    · rw [if_pos c3, if_neg (by decide)]
      by_cases c1 : a (6 + 7 * w) = a (6 + 7 * i)
      · rw [if_pos c1]
        by_cases c2 : sx w = sx i
        · rw [if_pos c2]
          refine ok_l ⟨nI_s _, fun j hj => ?_⟩
          dsimp only
          rw [bt_or, e2 j hj, bt_one i (by omega) j hj]
          by_cases e : j = i
          · subst e
            have : lab a sh ini sx w j = true := by unfold lab; exact decide_eq_true ⟨c3, c1, c2⟩
            rw [this, decide_eq_true rfl, decide_eq_true (show j < j + 1 by omega), Bool.or_true]
            rfl
          · rw [decide_eq_false e, Bool.or_false, decide_eq_decide.mpr (show j < i ↔ j < i + 1 by omega)]
        · rw [if_neg c2]
          exact ok_l ⟨nI_s _, no (by unfold lab; exact decide_eq_false (fun h => c2 h.2.2))⟩
      · rw [if_neg c1]
        exact ok_l ⟨nI_s _, no (by unfold lab; exact decide_eq_false (fun h => c1 h.2.1))⟩
    · rw [if_neg c3, if_pos rfl]
      exact ok_l ⟨nI_s _, no (by unfold lab; exact decide_eq_false (fun h => c3 h.1))⟩
  · rintro ⟨s1, s2⟩ ⟨e1, e2⟩
    dsimp only at e1 e2
    subst e1
    unfold m_X3_worksLabelledLike_B4
    rw [r1.1]
    dsimp only
    rw [if_pos (by rw [nI_le_iff (by omega) (by omega)]; omega)]
    exact ok_r e2
/-- a work of a group that is the first one with its label -/
def fst1 (P : Nat → Bool) (l : Nat → Nat → Bool) (w : Nat) : Bool := P w && decide (∀ v, v < w → (P v && l v w) = false)
theorem fst1_iff {P : Nat → Bool} {l : Nat → Nat → Bool} {w : Nat} : fst1 P l w = true ↔ (P w = true ∧ ∀ v, v < w → (P v && l v w) = false) := by
  unfold fst1
  rw [Bool.and_eq_true, decide_eq_true_eq]
theorem diffC_ok {W_n : Int32} {W_ac W_fa W_in W_yr W_ti : Nat → Int32} {a sh ini sx : Nat → Nat} (ho : OkW a) (r1 : RW W_n W_ac W_fa W_in W_yr W_ti a) {L_sh L_wi L_su : Nat → Int32} {L_nk : Nat → Int64} (hC : LbC a sh ini sx L_sh L_wi L_su L_nk) (hO : LbO a sh ini sx) {x : Int32} {P : Nat → Bool} (hx : SB (a 0) x P) : m_X3_differentLabels W_n W_yr L_su L_nk x = some (nI (cnt (fst1 P (lab a sh ini sx)) (a 0))) := by
  have h8 := ho.1
  unfold m_X3_differentLabels
  rw [show ((0 : Int32), (0 : Int32)) = (fun i => (nI (cnt (fst1 P (lab a sh ini sx)) i), nI i)) 0 from rfl, it_run (fun i => (nI (cnt (fst1 P (lab a sh ini sx)) i), nI i)) (a 0) (nI (cnt (fst1 P (lab a sh ini sx)) (a 0))) ?_ ?_ (by omega)]
  · rfl
  · intro i hi
    obtain ⟨y, g1, g2⟩ := likeC_ok ho r1 hC hO hi
    unfold m_X3_differentLabels_B4 m_X3_differentLabels_J40
    rw [r1.1]
    dsimp only
    rw [if_neg (by rw [nI_le_iff (by omega) (by omega)]; omega), inSet_ok (by omega), bd, SB_at hx hi h8, ← r1.1, g1, bd, cnt_s]
    have hb : (∀ j, j < i → bt (x &&& y) j = false) ↔ ∀ v, v < i → (P v && lab a sh ini sx v i) = false := by
      have : ∀ j, j < i → bt (x &&& y) j = (P j && lab a sh ini sx j i) := fun j hj => by rw [bt_and, SB_at hx (by omega) h8, SB_at g2 (by omega) h8, lab_sym]
      exact ⟨fun h v hv => by rw [← this v hv]; exact h v hv, fun h j hj => by rw [this j hj]; exact h j hj⟩
    unfold fst1
    cases hP : P i
    · rw [if_pos (by decide), Bool.false_and, if_neg (by decide), nI_s]
      rfl
    · rw [if_pos rfl, if_neg (by decide), Bool.true_and]
      rcases below_ok (x := x &&& y) (w := i) (by omega) with ⟨b1, b2⟩ | ⟨b1, b2⟩
      · rw [b2, bd, if_pos rfl, if_pos (decide_eq_true (hb.mp b1)), nI_s, nI_s]
      · rw [b2, bd, if_neg (by decide), if_neg (by rw [decide_eq_true_eq]; exact fun h => b1 (hb.mpr h)), nI_s]
        rfl
  · unfold m_X3_differentLabels_B4
    rw [r1.1]
    dsimp only
    rw [if_pos (by rw [nI_le_iff (by omega) (by omega)]; omega)]
theorem labelsM_ok {s : Nat → Int32} {a sh ini sx gr : Nat → Nat} (ho : OkW a) (r4 : RM s a) {M_sh M_in M_su M_gr : Nat → Int32} (hM : LbM a sh ini sx M_sh M_in M_su) (hO : LbO a sh ini sx) (hG : ∀ w, w < a 0 → M_gr w = nI (gr w) ∧ gr w < 8) {g : Nat} (hg : g < 8) : m_X12_labelsOf s M_sh M_in M_su M_gr (nI g) = some (nI (cnt (fst1 (fun w => decide (gr w = g)) (lab a sh ini sx)) (a 0))) := by
  have h8 := ho.1
  have inner : ∀ w, w < a 0 → ∀ y : Nat, (y = if gr w = g then 1 else 0) → it (m_X12_labelsOf_B34 (nI g) (nI w) s M_sh M_in M_su M_gr) fu (nI y, 0) = some (nI (if fst1 (fun w => decide (gr w = g)) (lab a sh ini sx) w = true then 1 else 0)) := by
    intro w hw y hy
    have : OkS (it (m_X12_labelsOf_B34 (nI g) (nI w) s M_sh M_in M_su M_gr) fu (nI y, 0)) (fun r => r = nI (if gr w = g ∧ ∀ u, u < w → (decide (gr u = g) && lab a sh ini sx u w) = false then 1 else 0)) := by
      refine ok_for (fun v st => st.2 = nI v ∧ st.1 = nI (if gr w = g ∧ ∀ u, u < v → (decide (gr u = g) && lab a sh ini sx u w) = false then 1 else 0)) w ⟨rfl, ?_⟩ ?_ ?_ (by omega)
      · dsimp only
        rw [hy]
        by_cases c : gr w = g
        · rw [if_pos c, if_pos ⟨c, fun u hu => absurd hu (by omega)⟩]
        · rw [if_neg c, if_neg (fun h => c h.1)]
      · rintro v ⟨s1, s2⟩ hv ⟨e1, e2⟩
        dsimp only at e1 e2
        subst e1 e2
        have hgv := hG v (by omega)
        unfold m_X12_labelsOf_B34 m_X12_labelsOf_J70 m_X12_labelsOf_J66 m_X12_labelsOf_J71
        dsimp only
        rw [if_neg (by rw [nI_le_iff (by omega) (by omega)]; omega), ck_nI (by omega) (by omega), tn_nI (by omega), hgv.1, labelM_ok ho r4 hM hO (by omega) hw, bd, nI_s]
        by_cases c : gr w = g ∧ ∀ u, u < v → (decide (gr u = g) && lab a sh ini sx u w) = false
        · rw [if_pos c, if_neg (by decide)]
          by_cases c2 : gr v = g
          · rw [if_pos (by rw [c2])]
            cases hl : lab a sh ini sx v w
            · rw [if_pos (by decide)]
              refine ok_l ⟨rfl, ?_⟩
              exact (congrArg nI (if_pos (show gr w = g ∧ ∀ u, u < v + 1 → (decide (gr u = g) && lab a sh ini sx u w) = false from ⟨c.1, fun u hu => by
                by_cases e : u = v
                · rw [e, hl, Bool.and_false]
                · exact c.2 u (by omega)⟩))).symm
            · rw [if_pos rfl, if_neg (by decide)]
              refine ok_l ⟨rfl, ?_⟩
              exact (congrArg nI (if_neg (show ¬ (gr w = g ∧ ∀ u, u < v + 1 → (decide (gr u = g) && lab a sh ini sx u w) = false) from fun h => by
                have := h.2 v (by omega)
                rw [hl, decide_eq_true c2] at this
                exact absurd this (by decide)))).symm
          · rw [if_neg (by rw [nI_eq_iff (by omega) (by omega)]; exact c2)]
            refine ok_l ⟨rfl, ?_⟩
            exact (congrArg nI (if_pos (show gr w = g ∧ ∀ u, u < v + 1 → (decide (gr u = g) && lab a sh ini sx u w) = false from ⟨c.1, fun u hu => by
              by_cases e : u = v
              · rw [e, decide_eq_false c2, Bool.false_and]
              · exact c.2 u (by omega)⟩))).symm
        · rw [if_neg c, if_pos (show nI 0 = 0 from rfl)]
          refine ok_l ⟨rfl, ?_⟩
          dsimp only
          rw [if_neg (fun h => c ⟨h.1, fun u hu => h.2 u (by omega)⟩)]
          rfl
      · rintro ⟨s1, s2⟩ ⟨e1, e2⟩
        dsimp only at e1 e2
        subst e1 e2
        unfold m_X12_labelsOf_B34
        dsimp only
        rw [if_pos (by rw [nI_le_iff (by omega) (by omega)]; omega)]
        exact ok_r rfl
    obtain ⟨r, t1, t2⟩ := this
    rw [t1, t2]
    have hf : fst1 (fun w => decide (gr w = g)) (lab a sh ini sx) w = true ↔ (gr w = g ∧ ∀ u, u < w → (decide (gr u = g) && lab a sh ini sx u w) = false) := by
      rw [fst1_iff, decide_eq_true_eq]
    by_cases c : gr w = g ∧ ∀ u, u < w → (decide (gr u = g) && lab a sh ini sx u w) = false
    · rw [if_pos c, if_pos (hf.mpr c)]
    · rw [if_neg c, if_neg (fun h => c (hf.mp h))]
  unfold m_X12_labelsOf
  rw [show ((0 : Int32), (0 : Int32)) = (fun i => (nI (cnt (fst1 (fun w => decide (gr w = g)) (lab a sh ini sx)) i), nI i)) 0 from rfl, it_run (fun i => (nI (cnt (fst1 (fun w => decide (gr w = g)) (lab a sh ini sx)) i), nI i)) (a 0) (nI (cnt (fst1 (fun w => decide (gr w = g)) (lab a sh ini sx)) (a 0))) ?_ ?_ (by omega)]
  · rfl
  · intro i hi
    have hgi := hG i hi
    have i1 := inner i hi
    unfold m_X12_labelsOf_B4 m_X12_labelsOf_J29 m_X12_labelsOf_J90
    simp (disch := omega) only [lit32, ck_nI, tn_nI, r4 0 (by omega), nI_le_iff, hgi.1, nI_eq_iff]
    rw [if_neg (by omega), show (nI 1, nI 0) = (nI 1, (0 : Int32)) from rfl, show (nI 0, nI 0) = (nI 0, (0 : Int32)) from rfl, cnt_s]
    have fin : ∀ b : Bool, ((some (nI (if b = true then 1 else 0))).bind fun e2 => if e2 = nI 0 then some (Sum.inl (nI (cnt (fst1 (fun w => decide (gr w = g)) (lab a sh ini sx)) i) + nI 0, nI i + nI 1)) else some (Sum.inl (nI (cnt (fst1 (fun w => decide (gr w = g)) (lab a sh ini sx)) i) + nI 1, nI i + nI 1))) = (some (Sum.inl (nI (cnt (fst1 (fun w => decide (gr w = g)) (lab a sh ini sx)) i + (if b = true then 1 else 0)), nI (i + 1))) : Option ((Int32 × Int32) ⊕ Int32)) := by
      intro b
      cases b
      · rw [bd, if_pos (by decide), nI_add, nI_add]; rfl
      · rw [bd, if_neg (by decide), nI_add, nI_add]; rfl
    by_cases c : gr i = g
    · rw [if_pos c, i1 1 (by rw [if_pos c])]
      exact fin _
    · rw [if_neg c, i1 0 (by rw [if_neg c])]
      exact fin _
  · unfold m_X12_labelsOf_B4
    simp (disch := omega) only [lit32, ck_nI, tn_nI, r4 0 (by omega), nI_le_iff]
    rw [if_pos (by omega)]
