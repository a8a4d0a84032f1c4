/-! ===== numbers in a text: the works they stand for ===== -/
/-- a set of numbers, and the set of the works that have them -/
def SR (N : Nat) (nm : Nat → Nat) (fo set : Int32) : Prop := (∀ w, w < N → bt set w = bt fo (nm w + 1)) ∧ ∀ i, N ≤ i → i < 32 → bt set i = false
theorem SR_1 {a nm : Nat → Nat} {od nu li bo bn : Nat → Int32} (h8 : a 0 ≤ 8) (hA : AR a nm od nu li bo bn) {fo set : Int32} (h : SR (a 0) nm fo set) {w : Nat} (hw : w < a 0) : SR (a 0) nm (fo ||| (1 <<< (nI (nm w + 1) &&& 31))) (set ||| (1 <<< (nI w &&& 31))) := by
  have hn := (hA.2 w hw).1
  refine ⟨fun v hv => ?_, fun i hi hi' => ?_⟩
  · have hnv := (hA.2 v hv).1
    rw [bt_or, bt_or, h.1 v hv, bt_one w (by omega) v (by omega), bt_one (nm w + 1) (by omega) (nm v + 1) (by omega)]
    congr 1
    exact decide_eq_decide.mpr ⟨fun e => by rw [e], fun e => hA.1 v w hv hw (by omega)⟩
  · rw [bt_or, h.2 i hi hi', bt_one w (by omega) i hi', decide_eq_false (by omega)]
    rfl
theorem lastC_ok {f x : Nat} (hx : x ≤ 8) (hf : f ≤ x) (fo : Int32) : OkS (it (m_X4_takesLast_B26 (nI x)) fu (nI (f + 1), fo)) (fun r => ∀ j, j < 32 → bt r j = (bt fo j || decide (f + 1 ≤ j ∧ j ≤ x))) := by
  refine ok_for (fun t st => st.1 = nI (f + 1 + t) ∧ ∀ j, j < 32 → bt st.2 j = (bt fo j || decide (f + 1 ≤ j ∧ j < f + 1 + t))) (x - f) ⟨rfl, fun j hj => by rw [decide_eq_false (by omega), Bool.or_false]⟩ ?_ ?_ (by omega)
  · rintro t ⟨s1, s2⟩ ht ⟨e1, e2⟩
    dsimp only at e1 e2
    subst e1
    unfold m_X4_takesLast_B26
    rw [if_neg (by rw [nI_lt_iff (by omega) (by omega)]; omega)]
    refine ok_l ⟨nI_s _, fun j hj => ?_⟩
    dsimp only
    rw [bt_or, e2 j hj, bt_one (f + 1 + t) (by omega) j hj, Bool.or_assoc]
    congr 1
    rw [← Bool.decide_or]
    exact decide_eq_decide.mpr ⟨fun h => by omega, fun h => by omega⟩
  · rintro ⟨s1, s2⟩ ⟨e1, e2⟩
    dsimp only at e1 e2
    subst e1
    unfold m_X4_takesLast_B26
    rw [if_pos (by rw [nI_lt_iff (by omega) (by omega)]; omega)]
    refine ok_r (fun j hj => ?_)
    dsimp only
    rw [e2 j hj]
    congr 1
    exact decide_eq_decide.mpr ⟨fun h => by omega, fun h => by omega⟩
theorem workOf_ok {a nm : Nat → Nat} {od nu li bo bn : Nat → Int32} (h8 : a 0 ≤ 8) (hA : AR a nm od nu li bo bn) {w : Nat} (hw : w < a 0) : m_X12_workOf bn (nI (nm w + 1)) = some (nI w) := by
  have hn := (hA.2 w hw).1
  unfold m_X12_workOf
  rw [show nI (nm w + 1) - 1 = nI (nm w) by rw [show (1 : Int32) = nI 1 from rfl, nI_sub (by omega) (by omega), Nat.add_sub_cancel], ck_nI (by omega) (by omega), tn_nI (by omega), (hA.2 w hw).2.2.2.2.2]
theorem lastM_ok {a nm : Nat → Nat} {od nu li bo bn : Nat → Int32} (h8 : a 0 ≤ 8) (hA : AR a nm od nu li bo bn) {f x : Nat} (hx : x ≤ a 0) (hf : 1 ≤ f ∧ f ≤ x) (set : Int32) : OkS (it (m_X12_expandNumbers_B129 (nI (48 + x)) bn) fu (set, nI f)) (fun r => ∀ j, j < 32 → bt r j = (bt set j || decide (j < a 0 ∧ f ≤ nm j + 1 ∧ nm j + 1 ≤ x))) := by
  have hc : nI (48 + x) - 48 = nI x := by rw [show (48 : Int32) = nI 48 from rfl, nI_sub (by omega) (by omega), Nat.add_sub_cancel_left]
  refine ok_for (fun t st => st.2 = nI (f + t) ∧ ∀ j, j < 32 → bt st.1 j = (bt set j || decide (j < a 0 ∧ f ≤ nm j + 1 ∧ nm j + 1 < f + t))) (x + 1 - f) ⟨rfl, fun j hj => by rw [decide_eq_false (by omega), Bool.or_false]⟩ ?_ ?_ (by omega)
  · rintro t ⟨s1, s2⟩ ht ⟨e1, e2⟩
    dsimp only at e1 e2
    subst e1
    obtain ⟨w, hw, ew⟩ := nm_sur hA (p := f + t - 1) (by omega)
    unfold m_X12_expandNumbers_B129
    rw [hc]
    dsimp only
    rw [if_neg (by rw [nI_lt_iff (by omega) (by omega)]; omega), show nI (f + t) = nI (nm w + 1) by rw [ew]; congr 1; omega, workOf_ok h8 hA hw, bd, nI_s]
    refine ok_l ⟨by dsimp only; rw [ew]; congr 1; omega, fun j hj => ?_⟩
    dsimp only
    rw [bt_or, e2 j hj, bt_one w (by omega) j hj, Bool.or_assoc]
    congr 1
    rw [← Bool.decide_or]
    refine decide_eq_decide.mpr ⟨fun h => ?_, fun h => ?_⟩
    · rcases h with h | h
      · omega
      · subst h; omega
    · by_cases e : nm j + 1 < f + t
      · exact Or.inl ⟨h.1, h.2.1, e⟩
      · exact Or.inr (hA.1 j w h.1 hw (by omega))
  · rintro ⟨s1, s2⟩ ⟨e1, e2⟩
    dsimp only at e1 e2
    subst e1
    unfold m_X12_expandNumbers_B129
    rw [hc]
    dsimp only
    rw [if_pos (by rw [nI_lt_iff (by omega) (by omega)]; omega)]
    refine ok_r (fun j hj => ?_)
    rw [e2 j hj]
    congr 1
    exact decide_eq_decide.mpr ⟨fun h => by omega, fun h => by omega⟩
theorem SR_rng {a nm : Nat → Nat} (h8 : a 0 ≤ 8) (hnm : ∀ w, w < a 0 → nm w < a 0) {fo set fo' set' : Int32} (h : SR (a 0) nm fo set) {f x : Nat} (hb : bt fo f = true) (h1 : ∀ j, j < 32 → bt fo' j = (bt fo j || decide (f + 1 ≤ j ∧ j ≤ x))) (h2 : ∀ j, j < 32 → bt set' j = (bt set j || decide (j < a 0 ∧ f ≤ nm j + 1 ∧ nm j + 1 ≤ x))) : SR (a 0) nm fo' set' := by
  refine ⟨fun w hw => ?_, fun i hi hi' => ?_⟩
  · have hn := hnm w hw
    rw [h1 _ (by omega), h2 _ (by omega), h.1 w hw]
    by_cases e : nm w + 1 = f
    · rw [e, hb]; rfl
    · congr 1
      exact decide_eq_decide.mpr ⟨fun h => by omega, fun h => by omega⟩
  · rw [h2 i hi', h.2 i hi hi', decide_eq_false (by omega)]
    rfl
theorem c48 {c : Nat} (hc : c ≤ 255) : (nI c - 48).toInt = (c : Int) - 48 := by
  rw [show (48 : Int32) = nI 48 from rfl, sub_toInt (by omega) (by omega)]
  rfl
/-- what both readers hold between two letters -/
def ER (N : Nat) (nm : Nat → Nat) (t : Nat) (fo fi set fs : Int32) : Prop := SR N nm fo set ∧ (t = 2 ∨ t = 3 → ∃ f, 1 ≤ f ∧ f ≤ N ∧ fi = nI f ∧ fs = nI f ∧ bt fo f = true)
theorem exp2 {a nm : Nat → Nat} {od nu li bo bn s : Nat → Int32} (h8 : a 0 ≤ 8) (hA : AR a nm od nu li bo bn) (r4 : RM s a) {T_co M_te : Nat → Int32} {n : Nat} (hn : n ≤ 150) (hT : ∀ i, i < n → ∃ c : Nat, c ≤ 255 ∧ T_co i = nI c ∧ M_te i = nI c) (N_fi : Int32) :
    Ok2 (it (m_X4_read_B17 T_co (nI n) (nI (a 0))) fu (0, 0, 0, N_fi)) (it (m_X12_expandNumbers_B13 s M_te (nI n) bn) fu (0, 0, 0, 0)) (fun u v => (∃ z i, i ≤ 150 ∧ u = .inl z ∧ z.1 = nI i ∧ v = .inl (nI i)) ∨ (∃ z set t, t ≤ 5 ∧ u = .inr z ∧ z.2.1 = nI t ∧ v = .inr (set, nI t) ∧ SR (a 0) nm z.1 set)) := by
  have hnm : ∀ w, w < a 0 → nm w < a 0 := fun w hw => (hA.2 w hw).1
  refine ok2_for (fun i st tt => st.1 = nI i ∧ tt.2.2.2 = nI i ∧ ∃ t, t ≤ 5 ∧ st.2.2.1 = nI t ∧ tt.2.2.1 = nI t ∧ ER (a 0) nm t st.2.1 st.2.2.2 tt.1 tt.2.1) n ⟨rfl, rfl, 0, by omega, rfl, rfl, ⟨⟨fun w hw => by rw [bt_0, bt_0], fun i _ _ => bt_0 i⟩, fun h => absurd h (by omega)⟩⟩ ?_ ?_ (by omega)
  · rintro i ⟨c1, c2, c3, c4⟩ ⟨t1, t2, t3, t4⟩ hi ⟨e1, e2, t, ht, e3, e4, e5, e6⟩
    dsimp only at e1 e2 e3 e4 e5 e6
    subst e1 e2 e3 e4
    obtain ⟨c, hc, k1, k2⟩ := hT i hi
    have num : m_X12_in (Int32.toInt64 (nI c)) 49 (Int32.toInt64 (48 + nI (a 0))) = some (if 49 ≤ c ∧ c ≤ 48 + a 0 then 1 else 0) := by
      rw [in_eq, Int32.toInt_toInt64, Int32.toInt_toInt64, show (48 : Int32) + nI (a 0) = nI (48 + a 0) from nI_add 48 _, nI_toI (by omega), nI_toI (by omega), show (49 : Int64).toInt = 49 from rfl]
      by_cases e : 49 ≤ c ∧ c ≤ 48 + a 0
      · rw [if_pos e, if_pos (by omega)]
      · rw [if_neg e, if_neg (by omega)]
    have one : ∀ l : Nat, 1 ≤ l → l ≤ 100 → m_X11_inRange (nI c - 48) (nI l) (nI (a 0)) = some (if 48 + l ≤ c ∧ c ≤ 48 + a 0 then 1 else 0) := by
      intro l hl hl'
      rw [rng_eq, c48 hc, nI_toI (by omega), nI_toI (by omega)]
      by_cases e : 48 + l ≤ c ∧ c ≤ 48 + a 0
      · rw [if_pos e, if_pos (by omega)]
      · rw [if_neg e, if_neg (by omega)]
    have good : ∀ {fo' fi' set' fs' : Int32} {t' : Nat}, t' ≤ 5 → ER (a 0) nm t' fo' fi' set' fs' → Ok2 (some (Sum.inl (nI i + 1, fo', nI t', fi')) : Option ((Int32 × Int32 × Int32 × Int32) ⊕ ((Int32 × Int32 × Int32 × Int32) ⊕ (Int32 × Int32 × Int32)))) (m_X12_expandNumbers_J215 set' fs' (nI i) (nI t')) (LR (fun st tt => st.1 = nI (i + 1) ∧ tt.2.2.2 = nI (i + 1) ∧ ∃ t, t ≤ 5 ∧ st.2.2.1 = nI t ∧ tt.2.2.1 = nI t ∧ ER (a 0) nm t st.2.1 st.2.2.2 tt.1 tt.2.1) (fun u v => (∃ z i, i ≤ 150 ∧ u = .inl z ∧ z.1 = nI i ∧ v = .inl (nI i)) ∨ (∃ z set t, t ≤ 5 ∧ u = .inr z ∧ z.2.1 = nI t ∧ v = .inr (set, nI t) ∧ SR (a 0) nm z.1 set))) := by
      intro fo' fi' set' fs' t' ht' h
      unfold m_X12_expandNumbers_J215
      rw [if_pos (by rw [show (0 : Int32) = nI 0 from rfl, nI_le_iff (by omega) (by omega)]; omega)]
      exact ok2_il ⟨nI_s _, nI_s _, t', ht', rfl, rfl, h⟩
    have bad : ∀ {z : Int32 × Int32 × Int32} {set' fs' : Int32}, Ok2 (some (Sum.inr (Sum.inl (nI i, z.1, z.2.1, z.2.2))) : Option ((Int32 × Int32 × Int32 × Int32) ⊕ ((Int32 × Int32 × Int32 × Int32) ⊕ (Int32 × Int32 × Int32)))) (m_X12_expandNumbers_J215 set' fs' (nI i) (-1)) (LR (fun st tt => st.1 = nI (i + 1) ∧ tt.2.2.2 = nI (i + 1) ∧ ∃ t, t ≤ 5 ∧ st.2.2.1 = nI t ∧ tt.2.2.1 = nI t ∧ ER (a 0) nm t st.2.1 st.2.2.2 tt.1 tt.2.1) (fun u v => (∃ z i, i ≤ 150 ∧ u = .inl z ∧ z.1 = nI i ∧ v = .inl (nI i)) ∨ (∃ z set t, t ≤ 5 ∧ u = .inr z ∧ z.2.1 = nI t ∧ v = .inr (set, nI t) ∧ SR (a 0) nm z.1 set))) := by
      intro z set' fs'
      unfold m_X12_expandNumbers_J215
      rw [if_neg (by decide)]
      exact ok2_ir (Or.inl ⟨_, i, by omega, rfl, rfl, rfl⟩)
    unfold m_X4_read_B17 m_X12_expandNumbers_B13
    have hN : ¬ (nI n ≤ nI i) := by rw [nI_le_iff (by omega) (by omega)]; omega
    dsimp only
    rw [if_neg hN, if_neg hN, ck_nI (by omega) (by omega), ck_nI (by omega) (by omega), tn_nI (by omega), k1, k2, ck_lit (by decide) (by decide), show Int32.toNatClampNeg 0 = 0 from rfl, r4 0 (by omega), num, bd]
    rcases (show t = 0 ∨ t = 1 ∨ t = 2 ∨ t = 3 ∨ t = 4 ∨ t = 5 by omega) with rfl | rfl | rfl | rfl | rfl | rfl
    · unfold m_X4_takes m_X4_takes_J56
      rw [if_pos (show nI 0 = 0 from rfl), if_pos (show nI 0 = 0 from rfl), ckb_0, ckb_1]
      by_cases e : nI c = 91
      · rw [if_pos e, if_pos e, bd, if_neg one0]
        exact good (t' := 1) (by omega) ⟨e5, fun h => absurd h (by omega)⟩
      · rw [if_neg e, if_neg e, bd, if_pos rfl]
        unfold m_X12_expandNumbers_J72 m_X12_expandNumbers_J104 m_X12_expandNumbers_J159 m_X12_expandNumbers_J177
        rw [if_neg (show ¬ (nI 0 = 1) by decide), if_neg (show ¬ (nI 0 = 3) by decide), if_neg (show ¬ (nI 0 = 2) by decide), if_neg (show ¬ (nI 0 = 2) by decide), if_neg (show ¬ (nI 0 = 4) by decide)]
        exact bad (z := (c2, 1, c4))
    · unfold m_X4_takes m_X12_expandNumbers_J72 m_X4_takesFirst
      rw [if_neg (show ¬ (nI 1 = 0) by decide), if_neg (show ¬ (nI 1 = 0) by decide), if_pos (show nI 1 = 1 from rfl), if_pos (show nI 1 = 1 from rfl), show (1 : Int32) = nI 1 from rfl, one 1 (by omega) (by omega), bd]
      by_cases e : 48 + 1 ≤ c ∧ c ≤ 48 + a 0
      · obtain ⟨w, hw, ew⟩ := nm_sur hA (p := c - 49) (by omega)
        have hcc : nI c - 48 = nI (nm w + 1) := by
          rw [show (48 : Int32) = nI 48 from rfl, nI_sub (by omega) (by omega), ew]
          congr 1
          omega
        rw [if_pos e, if_pos (show 49 ≤ c ∧ c ≤ 48 + a 0 by omega), hcc]
        rw [if_neg (show ¬ (nI 1 = 0) by decide), if_neg (show ¬ ((1 : Int32) = 0) by decide), bd]
        dsimp only
        rw [show ckb (nI 1) (some (nI 1, c2 ||| (nI 1 <<< (nI (nm w + 1) &&& 31)), (2 : Int32), nI (nm w + 1))) = some (nI 1, c2 ||| (nI 1 <<< (nI (nm w + 1) &&& 31)), (2 : Int32), nI (nm w + 1)) from ckb_1, bd, if_neg (show ¬ (nI 1 = 0) by decide), workOf_ok h8 hA hw, bd]
        have hnw := hnm w hw
        exact good (t' := 2) (by omega) ⟨SR_1 h8 hA e5 hw, fun _ => ⟨nm w + 1, by omega, by omega, rfl, rfl, by rw [bt_or, show (nI 1 <<< (nI (nm w + 1) &&& 31)) = (1 <<< (nI (nm w + 1) &&& 31)) from rfl, bt_one _ (by omega) _ (by omega), decide_eq_true rfl, Bool.or_true]⟩⟩
      · rw [if_neg e, if_neg (show ¬ (49 ≤ c ∧ c ≤ 48 + a 0) by omega), if_pos (show (0 : Int32) = 0 from rfl), bd]
        dsimp only
        rw [ckb_0, bd, if_pos rfl, if_pos (show (0 : Int32) = 0 from rfl)]
        unfold m_X12_expandNumbers_J104 m_X12_expandNumbers_J159 m_X12_expandNumbers_J177
        rw [if_neg (show ¬ (nI 1 = 3) by decide), if_neg (show ¬ (nI 1 = 2) by decide), if_neg (show ¬ (nI 1 = 2) by decide), if_neg (show ¬ (nI 1 = 4) by decide)]
        exact bad (z := (c2, nI 1, c4))
    · obtain ⟨f, f1, f2, f3, f4, f5⟩ := e6 (Or.inl rfl)
      unfold m_X4_takes m_X12_expandNumbers_J72 m_X12_expandNumbers_J104 m_X12_expandNumbers_J159 m_X4_takesHyphen m_X4_takes_J82 m_X4_takes_J87
      rw [if_neg (show ¬ (nI 2 = 0) by decide), if_neg (show ¬ (nI 2 = 1) by decide), if_pos (show nI 2 = 2 from rfl), if_neg (show ¬ (nI 2 = 0) by decide), if_neg (show ¬ (nI 2 = 1) by decide), if_neg (show ¬ (nI 2 = 3) by decide), if_pos (show nI 2 = 2 from rfl)]
      by_cases e : nI c = 45
      · rw [if_pos e, if_pos e, bd, if_neg one0, ckb_1, bd, if_neg one0]
        exact good (t' := 3) (by omega) ⟨e5, fun _ => ⟨f, f1, f2, f3, f4, f5⟩⟩
      · rw [if_neg e, if_neg e, bd, if_pos rfl]
        unfold m_X4_takesItemEnd m_X4_takesItemEnd_J14 m_X4_takesItemEnd_J26 m_X12_expandNumbers_J177 m_X12_expandNumbers_J187 m_X12_expandNumbers_J201 m_X12_expandNumbers_J213
        rw [if_pos (show nI 2 = 2 from rfl)]
        by_cases g : nI c = 44
        · simp only [if_pos g]
          rw [bd, if_neg one0, ckb_1, bd, if_neg one0]
          exact good (t' := 1) (by omega) ⟨e5, fun h => absurd h (by omega)⟩
        · simp only [if_neg g]
          by_cases g2 : nI c = 93
          · rw [if_pos g2, if_pos g2, bd, if_neg one0, ckb_1, bd, if_neg one0]
            exact good (t' := 5) (by omega) ⟨e5, fun h => absurd h (by omega)⟩
          · rw [if_neg g2, if_neg g2, bd, if_pos rfl, ckb_0, bd, if_pos rfl]
            exact bad (z := (c2, nI 2, c4))
    · obtain ⟨f, f1, f2, f3, f4, f5⟩ := e6 (Or.inr rfl)
      subst f3 f4
      unfold m_X4_takes m_X12_expandNumbers_J72 m_X12_expandNumbers_J104 m_X4_takesLast
      rw [if_neg (show ¬ (nI 3 = 0) by decide), if_neg (show ¬ (nI 3 = 1) by decide), if_neg (show ¬ (nI 3 = 2) by decide), if_pos (show nI 3 = 3 from rfl), if_neg (show ¬ (nI 3 = 0) by decide), if_neg (show ¬ (nI 3 = 1) by decide), if_pos (show nI 3 = 3 from rfl), nI_s, one (f + 1) (by omega) (by omega), bd]
      by_cases e : 48 + (f + 1) ≤ c ∧ c ≤ 48 + a 0
      · obtain ⟨x, hx⟩ : ∃ x, c = 48 + x := ⟨c - 48, by omega⟩
        subst hx
        have hcc : nI (48 + x) - 48 = nI x := by rw [show (48 : Int32) = nI 48 from rfl, nI_sub (by omega) (by omega), Nat.add_sub_cancel_left]
        obtain ⟨o1, p1, p2⟩ := lastC_ok (f := f) (x := x) (by omega) (by omega) c2
        obtain ⟨o2, q1, q2⟩ := lastM_ok h8 hA (f := f) (x := x) (by omega) (by omega) t1
        rw [if_pos e, if_neg one0, if_pos (show 49 ≤ 48 + x ∧ 48 + x ≤ 48 + a 0 by omega), if_neg one0, hcc, if_neg (show ¬ (nI x ≤ nI f) by rw [nI_le_iff (by omega) (by omega)]; omega), p1, q1, bd, bd, bd]
        dsimp only
        rw [ckb_1, bd, if_neg one0]
        exact good (t' := 4) (by omega) ⟨SR_rng h8 hnm e5 f5 p2 q2, fun h => absurd h (by omega)⟩
      · rw [if_neg e, if_pos (show (0 : Int32) = 0 from rfl), bd]
        dsimp only
        rw [ckb_0, bd, if_pos rfl]
        have rest : m_X12_expandNumbers_J159 t1 (nI f) (nI 3) (nI i) (nI c) (-1) = m_X12_expandNumbers_J215 t1 (nI f) (nI i) (-1) := by
          unfold m_X12_expandNumbers_J159 m_X12_expandNumbers_J177
          rw [if_neg (show ¬ (nI 3 = 2) by decide), if_neg (show ¬ (nI 3 = 2) by decide), if_neg (show ¬ (nI 3 = 4) by decide)]
        rw [rest]
        by_cases e' : 49 ≤ c ∧ c ≤ 48 + a 0
        · rw [if_pos e', if_neg one0, if_pos (show nI c - 48 ≤ nI f by rw [Int32.le_iff_toInt_le, c48 hc, nI_toI (by omega)]; omega)]
          exact bad (z := (c2, nI 3, nI f))
        · rw [if_neg e', if_pos (show (0 : Int32) = 0 from rfl)]
          exact bad (z := (c2, nI 3, nI f))
    · unfold m_X4_takes m_X12_expandNumbers_J72 m_X12_expandNumbers_J104 m_X12_expandNumbers_J159 m_X12_expandNumbers_J177 m_X12_expandNumbers_J187 m_X12_expandNumbers_J201 m_X12_expandNumbers_J213 m_X4_takesItemEnd m_X4_takesItemEnd_J14 m_X4_takesItemEnd_J26
      rw [if_neg (show ¬ (nI 4 = 0) by decide), if_neg (show ¬ (nI 4 = 1) by decide), if_neg (show ¬ (nI 4 = 2) by decide), if_neg (show ¬ (nI 4 = 3) by decide), if_pos (show nI 4 = 4 from rfl), if_neg (show ¬ (nI 4 = 0) by decide), if_neg (show ¬ (nI 4 = 1) by decide), if_neg (show ¬ (nI 4 = 3) by decide), if_neg (show ¬ (nI 4 = 2) by decide), if_neg (show ¬ (nI 4 = 2) by decide), if_pos (show nI 4 = 4 from rfl)]
      by_cases g : nI c = 44
      · simp only [if_pos g]
        rw [bd, ckb_1, bd, if_neg one0]
        exact good (t' := 1) (by omega) ⟨e5, fun h => absurd h (by omega)⟩
      · simp only [if_neg g]
        by_cases g2 : nI c = 93
        · rw [if_pos g2, if_pos g2, bd, ckb_1, bd, if_neg one0]
          exact good (t' := 5) (by omega) ⟨e5, fun h => absurd h (by omega)⟩
        · rw [if_neg g2, if_neg g2, bd, ckb_0, bd, if_pos rfl]
          exact bad (z := (c2, nI 4, c4))
    · unfold m_X4_takes m_X12_expandNumbers_J72 m_X12_expandNumbers_J104 m_X12_expandNumbers_J159 m_X12_expandNumbers_J177
      rw [if_neg (show ¬ (nI 5 = 0) by decide), if_neg (show ¬ (nI 5 = 1) by decide), if_neg (show ¬ (nI 5 = 2) by decide), if_neg (show ¬ (nI 5 = 3) by decide), if_neg (show ¬ (nI 5 = 4) by decide), if_neg (show ¬ (nI 5 = 0) by decide), if_neg (show ¬ (nI 5 = 1) by decide), if_neg (show ¬ (nI 5 = 3) by decide), if_neg (show ¬ (nI 5 = 2) by decide), if_neg (show ¬ (nI 5 = 2) by decide), if_neg (show ¬ (nI 5 = 4) by decide), bd, if_pos rfl]
      exact bad (z := (c2, nI 5, c4))
  · rintro ⟨c1, c2, c3, c4⟩ ⟨t1, t2, t3, t4⟩ ⟨e1, e2, t, ht, e3, e4, e5, e6⟩
    dsimp only at e1 e2 e3 e4 e5 e6
    subst e1 e2 e3 e4
    unfold m_X4_read_B17 m_X12_expandNumbers_B13
    have hN : nI n ≤ nI n := by rw [nI_le_iff (by omega) (by omega)]; omega
    dsimp only
    rw [if_pos hN, if_pos hN]
    exact ok2_ir (Or.inr ⟨_, t1, t, ht, rfl, rfl, rfl, e5⟩)
theorem worksC_ok {a nm : Nat → Nat} {od nu li bo bn : Nat → Int32} {W_n : Int32} (h8 : a 0 ≤ 8) (hWn : W_n = nI (a 0)) (hA : AR a nm od nu li bo bn) {fo set : Int32} (h : SR (a 0) nm fo set) : m_X0_worksWithNumbers W_n nu fo = some set := by
  have : OkS (it (m_X0_worksWithNumbers_B4 fo W_n nu) fu (0, 0)) (fun r => r = set) := by
    refine ok_for (fun i st => st.2 = nI i ∧ ∀ j, j < 32 → bt st.1 j = (decide (j < i) && bt set j)) (a 0) ⟨rfl, fun j hj => by rw [bt_0, decide_eq_false (by omega)]; rfl⟩ ?_ ?_ (by omega)
    · rintro i ⟨s1, s2⟩ hi ⟨e1, e2⟩
      dsimp only at e1 e2
      subst e1
      have hn := (hA.2 i hi).1
      unfold m_X0_worksWithNumbers_B4 m_X0_worksWithNumbers_J34
      rw [hWn]
      dsimp only
      rw [if_neg (by rw [nI_le_iff (by omega) (by omega)]; omega), ck_nI (by omega) (by omega), tn_nI (by omega), (hA.2 i hi).2.2.1, inSet_ok (by omega), bd, ← h.1 i hi, nI_s]
      cases hb : bt set i
      · rw [if_pos (by decide)]
        refine ok_l ⟨rfl, fun j hj => ?_⟩
        dsimp only
        rw [e2 j hj]
        by_cases e : j = i
        · subst e; rw [hb, Bool.and_false, Bool.and_false]
        · rw [decide_eq_decide.mpr (show j < i ↔ j < i + 1 by omega)]
      · rw [if_neg (by decide)]
        refine ok_l ⟨rfl, fun j hj => ?_⟩
        dsimp only
        rw [bt_or, e2 j hj, bt_one i (by omega) j hj]
        by_cases e : j = i
        · subst e; rw [hb, decide_eq_true rfl, decide_eq_true (show j < j + 1 by omega), Bool.or_true]; rfl
        · rw [decide_eq_false e, Bool.or_false, decide_eq_decide.mpr (show j < i ↔ j < i + 1 by omega)]
    · rintro ⟨s1, s2⟩ ⟨e1, e2⟩
      dsimp only at e1 e2
      subst e1
      unfold m_X0_worksWithNumbers_B4
      rw [hWn]
      dsimp only
      rw [if_pos (by rw [nI_le_iff (by omega) (by omega)]; omega)]
      refine ok_r (bt_ext (fun j hj => ?_))
      rw [e2 j hj]
      by_cases e : j < a 0
      · rw [decide_eq_true e, Bool.true_and]
      · rw [decide_eq_false e, h.2 j (by omega) hj]; rfl
  obtain ⟨r, h1, h2⟩ := this
  unfold m_X0_worksWithNumbers
  rw [h1, bd, h2]
theorem nI_m1 {i : Nat} (hi : i < 1000) : ¬ (nI i = -1) := by
  intro e
  have := congrArg Int32.toInt e
  rw [nI_toI (by omega), show (-1 : Int32).toInt = -1 from rfl] at this
  omega
theorem step3 : Step_3 Rel0 := by
  intro T_co T_n N_fo N_st N_gr N_fi W_n W_ac W_fa W_in W_yr W_ti S_st S_mi S_fi S_sp S_cl S_nu S_co S_ke S_di C_n C_sz C_cd Y_n Y_nx A_or A_nu A_li M_s M_ke M_km M_te M_n M_bo M_bn Q_rv hR
  have hR' := hR
  obtain ⟨ht, ⟨a, ho, r1, r2, r3, r4⟩, h5⟩ := hR
  have h8 := ho.1.1
  obtain ⟨n, hn, rfl, rfl, hT⟩ := ht
  obtain ⟨u, v, g1, g2, nm, hA⟩ := arr2 ho r1 r2 r3 r4 A_or A_nu A_li M_bo M_bn
  obtain ⟨x, y, x1, y1, hxy⟩ := exp2 h8 hA r4 hn hT N_fi
  unfold m_X11_expandNumbers m_X12_expandNumbers m_X4_read m_X4_read_J71
  rw [r1.1] at g1
  rw [g2, bd, r1.1, x1, y1, bd, bd]
  have hW : Rel0 T_co (nI n) (nI (a 0)) W_ac W_fa W_in W_yr W_ti S_st S_mi S_fi S_sp S_cl S_nu S_co S_ke S_di C_n C_sz C_cd Y_n Y_nx Q_rv M_s M_ke M_km M_te (nI n) := by rw [← r1.1]; exact hR'
  have hW0 : Rel0 T_co 0 (nI (a 0)) W_ac W_fa W_in W_yr W_ti S_st S_mi S_fi S_sp S_cl S_nu S_co S_ke S_di C_n C_sz C_cd Y_n Y_nx Q_rv M_s M_ke M_km M_te 0 := ⟨⟨0, by omega, rfl, rfl, fun i hi => absurd hi (by omega)⟩, ⟨a, ho, by rw [← r1.1]; exact r1, r2, r3, r4⟩, h5⟩
  rcases hxy with ⟨z, i, hi, rfl, hz, rfl⟩ | ⟨z, set, t, ht, rfl, hz, rfl, hS⟩
  · simp only [Sum.elim_inl]
    rw [bd]
    dsimp only
    rw [hz, if_neg (nI_m1 (by omega))]
    exact ⟨_, _, rfl, rfl, rfl, hW⟩
  · simp only [Sum.elim_inr]
    rw [hz]
    by_cases e : nI t = 5
    · rw [if_pos e, if_pos e, bd]
      dsimp only
      rw [if_pos rfl, g1, bd, worksC_ok h8 rfl hA hS, bd]
      exact ⟨_, _, rfl, rfl, rfl, hW0⟩
    · rw [if_neg e, if_neg e, bd]
      dsimp only
      rw [if_neg (nI_m1 (by omega))]
      exact ⟨_, _, rfl, rfl, rfl, hW⟩
