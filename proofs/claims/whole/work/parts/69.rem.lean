/-! ===== a work goes: works and citations close up ===== -/
theorem it_inv2 {σ ρ τ π : Type} {f : σ → Option (σ ⊕ ρ)} {g : τ → Option (τ ⊕ π)} {I : Nat → σ → τ → Prop} {Post : ρ → π → Prop} {N : Nat} (step : ∀ i s t, i < N → I i s t → ∃ s' t', f s = some (.inl s') ∧ g t = some (.inl t') ∧ I (i + 1) s' t') (last : ∀ s t, I N s t → ∃ u v, f s = some (.inr u) ∧ g t = some (.inr v) ∧ Post u v) : ∀ (k i : Nat) (s : σ) (t : τ), i + k = N → I i s t → ∀ fuel, k < fuel → ∃ u v, it f fuel s = some u ∧ it g fuel t = some v ∧ Post u v := by
  intro k
  induction k with
  | zero =>
    intro i s t hi hI fuel hf
    obtain ⟨n, rfl⟩ : ∃ n, fuel = n + 1 := ⟨fuel - 1, by omega⟩
    have : i = N := by omega
    subst this
    obtain ⟨u, v, h1, h2, h3⟩ := last s t hI
    exact ⟨u, v, by rw [it_succ, h1]; rfl, by rw [it_succ, h2]; rfl, h3⟩
  | succ k ih =>
    intro i s t hi hI fuel hf
    obtain ⟨n, rfl⟩ : ∃ n, fuel = n + 1 := ⟨fuel - 1, by omega⟩
    obtain ⟨s', t', h1, h2, h3⟩ := step i s t (by omega) hI
    obtain ⟨u, v, h4, h5, h6⟩ := ih (i + 1) s' t' (by omega) h3 n (by omega)
    exact ⟨u, v, by rw [it_succ, h1]; exact h4, by rw [it_succ, h2]; exact h5, h6⟩
theorem ok_for2 {σ ρ τ π : Type} {f : σ → Option (σ ⊕ ρ)} {g : τ → Option (τ ⊕ π)} (I : Nat → σ → τ → Prop) {Post : ρ → π → Prop} (N : Nat) {s : σ} {t : τ} (h0 : I 0 s t) (step : ∀ i s t, i < N → I i s t → ∃ s' t', f s = some (.inl s') ∧ g t = some (.inl t') ∧ I (i + 1) s' t') (last : ∀ s t, I N s t → ∃ u v, f s = some (.inr u) ∧ g t = some (.inr v) ∧ Post u v) (hN : N < 2000) : ∃ u v, it f fu s = some u ∧ it g fu t = some v ∧ Post u v := it_inv2 step last N 0 s t (by omega) h0 fu hN
theorem copyWorkS_ok (W_ac W_fa W_in W_yr W_ti : Nat → Int32) {f t : Nat} (hf : f < 8) (ht : t < 8) (hne : f ≠ t) : OkS (m_X9_copyWork_self W_ac W_fa W_in W_yr W_ti (nI f) (nI t)) (fun o => o.1 = upd W_ac t (W_ac f) ∧ o.2.2.2.1 = upd W_yr t (W_yr f) ∧ o.2.2.2.2 = upd W_ti t (W_ti f) ∧ (∀ k, k < 4 → o.2.1 (4 * t + k) = W_fa (4 * f + k) ∧ o.2.2.1 (4 * t + k) = W_in (4 * f + k)) ∧ (∀ j, j < 4 * t ∨ 4 * t + 4 ≤ j → o.2.1 j = W_fa j ∧ o.2.2.1 j = W_in j)) := by
  unfold m_X9_copyWork_self
  simp (disch := omega) only [ck_nI, tn_nI]
  refine ok_bind (Q := fun r => (∀ k, k < 4 → r.1 (4 * t + k) = W_fa (4 * f + k) ∧ r.2 (4 * t + k) = W_in (4 * f + k)) ∧ (∀ j, j < 4 * t ∨ 4 * t + 4 ≤ j → r.1 j = W_fa j ∧ r.2 j = W_in j)) ?_ (fun r h => ok_some ⟨rfl, rfl, rfl, h⟩)
  refine ok_for (fun i st => st.1 = nI i ∧ (∀ k, k < i → st.2.1 (4 * t + k) = W_fa (4 * f + k) ∧ st.2.2 (4 * t + k) = W_in (4 * f + k)) ∧ (∀ j, j < 4 * t ∨ 4 * t + i ≤ j → st.2.1 j = W_fa j ∧ st.2.2 j = W_in j)) 4 ⟨rfl, fun k hk => absurd hk (Nat.not_lt_zero k), fun j _ => ⟨rfl, rfl⟩⟩ ?_ ?_ (by omega)
  · rintro i ⟨s1, s2, s3⟩ hi ⟨e1, e2, e3⟩
    dsimp only at e1 e2 e3
    subst e1
    unfold m_X9_copyWork_self_B39
    simp (disch := omega) only [lit32, nI_le_iff, nI_mul, nI_add, ck_nI, tn_nI]
    rw [if_neg (by omega)]
    refine ok_l ⟨rfl, fun k hk => ?_, fun j hj => ?_⟩
    · dsimp only
      by_cases e : k = i
      · subst e
        rw [Nat.mul_comm t 4, upd_eq, upd_eq, Nat.mul_comm f 4]
        exact e3 _ (by omega)
      · rw [upd_ne _ _ (by omega), upd_ne _ _ (by omega)]
        exact e2 k (by omega)
    · dsimp only
      rw [upd_ne _ _ (by omega), upd_ne _ _ (by omega)]
      exact e3 j (by omega)
  · rintro ⟨s1, s2, s3⟩ ⟨e1, e2, e3⟩
    dsimp only at e1 e2 e3
    subst e1
    unfold m_X9_copyWork_self_B39
    simp (disch := omega) only [lit32, nI_le_iff]
    rw [if_pos (by omega)]
    exact ok_r ⟨e2, e3⟩
/-- the row of numbers with work x gone, its citations as they were -/
def goneW (a : Nat → Nat) (x : Nat) : Nat → Nat := fun j => if j = 0 then a 0 - 1 else if 1 + 7 * x ≤ j ∧ j < 1 + 7 * (a 0 - 1) then a (j + 7) else a j
theorem goneW_hi {a : Nat → Nat} {x j : Nat} (h0 : a 0 ≤ 8) (h : 57 ≤ j) : goneW a x j = a j := by
  unfold goneW
  rw [if_neg (by omega), if_neg (by omega)]
theorem goneW_at {a : Nat → Nat} {x w k : Nat} (hk : k < 7) (hw : w + 1 < a 0) : goneW a x (1 + 7 * w + k) = a (1 + 7 * (if w < x then w else w + 1) + k) := by
  unfold goneW
  rw [if_neg (by omega)]
  by_cases e : w < x
  · rw [if_neg (by omega), if_pos e]
  · rw [if_pos (by omega), if_neg e]
    congr 1
    omega
theorem goneW_0 {a : Nat → Nat} {x w : Nat} (hw : w + 1 < a 0) : goneW a x (1 + 7 * w) = a (1 + 7 * (if w < x then w else w + 1)) := goneW_at (k := 0) (by omega) hw
theorem goneW_1 {a : Nat → Nat} {x w k : Nat} (hk : k < 4) (hw : w + 1 < a 0) : goneW a x (2 + 7 * w + k) = a (2 + 7 * (if w < x then w else w + 1) + k) := by
  have := goneW_at (a := a) (x := x) (w := w) (k := k + 1) (by omega) hw
  rw [show 1 + 7 * w + (k + 1) = 2 + 7 * w + k by omega, show 1 + 7 * (if w < x then w else w + 1) + (k + 1) = 2 + 7 * (if w < x then w else w + 1) + k by omega] at this
  exact this
theorem goneW_5 {a : Nat → Nat} {x w : Nat} (hw : w + 1 < a 0) : goneW a x (6 + 7 * w) = a (6 + 7 * (if w < x then w else w + 1)) := by
  have := goneW_at (a := a) (x := x) (w := w) (k := 5) (by omega) hw
  rw [show 1 + 7 * w + 5 = 6 + 7 * w by omega, show 1 + 7 * (if w < x then w else w + 1) + 5 = 6 + 7 * (if w < x then w else w + 1) by omega] at this
  exact this
theorem goneW_6 {a : Nat → Nat} {x w : Nat} (hw : w + 1 < a 0) : goneW a x (7 + 7 * w) = a (7 + 7 * (if w < x then w else w + 1)) := by
  have := goneW_at (a := a) (x := x) (w := w) (k := 6) (by omega) hw
  rw [show 1 + 7 * w + 6 = 7 + 7 * w by omega, show 1 + 7 * (if w < x then w else w + 1) + 6 = 7 + 7 * (if w < x then w else w + 1) by omega] at this
  exact this
theorem OkW_gone {a : Nat → Nat} {x : Nat} (hx : x < a 0) (ho : OkW a) : OkW (goneW a x) := by
  have h8 := ho.1
  have h0 : goneW a x 0 = a 0 - 1 := rfl
  refine ⟨by rw [h0]; omega, fun w hw => ?_⟩
  rw [h0] at hw
  have hd : (if w < x then w else w + 1) < a 0 := by split <;> omega
  obtain ⟨q1, q2, q3, q4⟩ := ho.2 _ hd
  rw [goneW_0 (by omega), goneW_5 (by omega), goneW_6 (by omega)]
  exact ⟨q1, fun k hk => by rw [goneW_1 (by omega) (by omega)]; exact q2 k hk, q3, q4⟩
theorem removeAtW_ok {W_n : Int32} {W_ac W_fa W_in W_yr W_ti : Nat → Int32} {a : Nat → Nat} (ho : OkW a) (r1 : RW W_n W_ac W_fa W_in W_yr W_ti a) {x : Nat} (hx : x < a 0) : OkS (m_X9_removeAt W_n W_ac W_fa W_in W_yr W_ti (nI x)) (fun o => RW o.1 o.2.1 o.2.2.1 o.2.2.2.1 o.2.2.2.2.1 o.2.2.2.2.2 (goneW a x)) := by
  have h8 := ho.1
  unfold m_X9_removeAt
  rw [r1.1]
  refine ok_bind (Q := fun r => ∀ w, w + 1 < a 0 → SameW r.1 r.2.1 r.2.2.1 r.2.2.2.1 r.2.2.2.2 W_ac W_fa W_in W_yr W_ti w (if w < x then w else w + 1)) ?_ (fun r h => ok_some ?_)
  · refine ok_for (fun t st => st.1 = nI (x + 1 + t) ∧ (∀ w, w < a 0 → (x ≤ w ∧ w < x + t → SameW st.2.1 st.2.2.1 st.2.2.2.1 st.2.2.2.2.1 st.2.2.2.2.2 W_ac W_fa W_in W_yr W_ti w (w + 1)) ∧ (w < x ∨ x + t ≤ w → SameW st.2.1 st.2.2.1 st.2.2.2.1 st.2.2.2.2.1 st.2.2.2.2.2 W_ac W_fa W_in W_yr W_ti w w))) (a 0 - 1 - x) ⟨by rw [show (1 : Int32) = nI 1 from rfl, nI_add], fun c hc => ⟨fun h => by omega, fun _ => ⟨rfl, fun k hk => ⟨rfl, rfl⟩, rfl, rfl⟩⟩⟩ ?_ ?_ (by omega)
    · rintro t ⟨s1, s2, s3, s4, s5, s6⟩ hi ⟨e1, e2⟩
      dsimp only at e1 e2
      subst e1
      unfold m_X9_removeAt_B4
      rw [if_neg (by rw [nI_le_iff (by omega) (by omega)]; omega)]
      dsimp only
      rw [show nI (x + 1 + t) - 1 = nI (x + t) by rw [show (1 : Int32) = nI 1 from rfl, nI_sub (by omega) (by omega)]; congr 1; omega]
      refine ok_bind (copyWorkS_ok s2 s3 s4 s5 s6 (f := x + 1 + t) (t := x + t) (by omega) (by omega) (by omega)) ?_
      rintro ⟨p1, p2, p3, p4, p5⟩ ⟨c1, c2, c3, c4, c5⟩
      dsimp only at c1 c2 c3 c4 c5
      subst c1 c2 c3
      refine ok_l ⟨by simp only [lit32, nI_add]; rfl, fun c hc => ⟨fun h => ?_, fun h => ?_⟩⟩
      · by_cases e : c = x + t
        · subst e
          obtain ⟨u1, u2, u3, u4⟩ := (e2 (x + t + 1) (by omega)).2 (by omega)
          refine ⟨?_, fun k hk => ?_, ?_, ?_⟩
          · dsimp only; rw [upd_eq, show x + 1 + t = x + t + 1 by omega]; exact u1
          · dsimp only; rw [(c4 k hk).1, (c4 k hk).2, show x + 1 + t = x + t + 1 by omega]; exact u2 k hk
          · dsimp only; rw [upd_eq, show x + 1 + t = x + t + 1 by omega]; exact u3
          · dsimp only; rw [upd_eq, show x + 1 + t = x + t + 1 by omega]; exact u4
        · obtain ⟨u1, u2, u3, u4⟩ := (e2 c (by omega)).1 (by omega)
          refine ⟨?_, fun k hk => ?_, ?_, ?_⟩
          · dsimp only; rw [upd_ne _ _ e]; exact u1
          · dsimp only; rw [(c5 _ (by omega)).1, (c5 _ (by omega)).2]; exact u2 k hk
          · dsimp only; rw [upd_ne _ _ e]; exact u3
          · dsimp only; rw [upd_ne _ _ e]; exact u4
      · obtain ⟨u1, u2, u3, u4⟩ := (e2 c (by omega)).2 (by omega)
        refine ⟨?_, fun k hk => ?_, ?_, ?_⟩
        · dsimp only; rw [upd_ne _ _ (by omega)]; exact u1
        · dsimp only; rw [(c5 _ (by omega)).1, (c5 _ (by omega)).2]; exact u2 k hk
        · dsimp only; rw [upd_ne _ _ (by omega)]; exact u3
        · dsimp only; rw [upd_ne _ _ (by omega)]; exact u4
    · rintro ⟨s1, s2, s3, s4, s5, s6⟩ ⟨e1, e2⟩
      dsimp only at e1 e2
      subst e1
      unfold m_X9_removeAt_B4
      rw [if_pos (by rw [nI_le_iff (by omega) (by omega)]; omega)]
      refine ok_r (fun c hc => ?_)
      dsimp only
      by_cases e : c < x
      · rw [if_pos e]; exact (e2 c (by omega)).2 (by omega)
      · rw [if_neg e]; exact (e2 c (by omega)).1 (by omega)
  · refine ⟨by rw [show (1 : Int32) = nI 1 from rfl, nI_sub (by omega) (by omega)]; rfl, fun w hw => ?_⟩
    have hw' : w < a 0 - 1 := hw
    have hd : (if w < x then w else w + 1) < a 0 := by split <;> omega
    obtain ⟨u1, u2, u3, u4⟩ := h w (by omega)
    obtain ⟨t1, t2, t3, t4⟩ := r1.2 _ hd
    have := ho.2 _ hd
    dsimp only
    rw [goneW_0 (by omega), goneW_5 (by omega), goneW_6 (by omega), u1, u3, u4]
    refine ⟨t1, fun k hk => ?_, t3, t4⟩
    rw [(u2 k (by omega)).1, (u2 k (by omega)).2, goneW_1 (by omega) (by omega)]
    exact t2 k hk
theorem shiftM_ok {M_s : Nat → Int32} {a : Nat → Nat} (ho : OkW a) (r4 : RM M_s a) {x : Nat} (hx : x < a 0) : OkS (it m_X12_removeWork_B31 fu (nI (1 + 7 * x), upd M_s 0 (nI (a 0 - 1)))) (fun r => RM r (goneW a x)) := by
  have h8 := ho.1
  refine ok_for (fun t st => st.1 = nI (1 + 7 * x + t) ∧ ∀ j, j < 131 → st.2 j = nI (if j = 0 then a 0 - 1 else if 1 + 7 * x ≤ j ∧ j < 1 + 7 * x + t then a (j + 7) else a j)) (7 * (a 0 - 1 - x)) ⟨rfl, fun j hj => ?_⟩ ?_ ?_ (by omega)
  · dsimp only
    by_cases e : j = 0
    · rw [e, upd_eq, if_pos rfl]
    · rw [upd_ne _ _ e, if_neg e, if_neg (by omega)]; exact r4 j hj
  · rintro t ⟨s1, s2⟩ hi ⟨e1, e2⟩
    dsimp only at e1 e2
    subst e1
    have e70 := e2 0 (by omega)
    rw [if_pos rfl] at e70
    unfold m_X12_removeWork_B31
    simp (disch := omega) only [lit32, ck_nI, tn_nI, e70, nI_mul, nI_add, nI_le_iff]
    rw [if_neg (by omega)]
    refine ok_l ⟨rfl, fun j hj => ?_⟩
    dsimp only
    by_cases e : j = 1 + 7 * x + t
    · subst e
      rw [upd_eq, e2 _ (by omega), if_neg (by omega), if_neg (by omega), if_neg (by omega), if_pos (by omega)]
    · rw [upd_ne _ _ e, e2 j hj]
      congr 1
      by_cases e' : j = 0
      · rw [if_pos e', if_pos e']
      · rw [if_neg e', if_neg e']
        by_cases h : 1 + 7 * x ≤ j ∧ j < 1 + 7 * x + t
        · rw [if_pos h, if_pos (by omega)]
        · rw [if_neg h, if_neg (by omega)]
  · rintro ⟨s1, s2⟩ ⟨e1, e2⟩
    dsimp only at e1 e2
    subst e1
    have e70 := e2 0 (by omega)
    rw [if_pos rfl] at e70
    unfold m_X12_removeWork_B31
    simp (disch := omega) only [lit32, ck_nI, tn_nI, e70, nI_mul, nI_add, nI_le_iff]
    rw [if_pos (by omega)]
    refine ok_r (fun j hj => ?_)
    rw [e2 j hj, show 1 + 7 * x + 7 * (a 0 - 1 - x) = 1 + 7 * (a 0 - 1) by omega]
    rfl
