/-! ===== a work goes: works and citations close up ===== -/
/-! ===== two programs side by side ===== -/
def Ok2 {α β : Type} (x : Option α) (y : Option β) (P : α → β → Prop) : Prop := ∃ u v, x = some u ∧ y = some v ∧ P u v
def LR {σ ρ τ π : Type} (J : σ → τ → Prop) (P : ρ → π → Prop) : σ ⊕ ρ → τ ⊕ π → Prop
  | .inl s, .inl t => J s t
  | .inr u, .inr v => P u v
  | _, _ => False
theorem ok2_some {α β : Type} {u : α} {v : β} {P : α → β → Prop} (h : P u v) : Ok2 (some u) (some v) P := ⟨u, v, rfl, rfl, h⟩
theorem ok2_il {σ ρ τ π : Type} {J : σ → τ → Prop} {P : ρ → π → Prop} {s : σ} {t : τ} (h : J s t) : Ok2 (some (Sum.inl s : σ ⊕ ρ)) (some (Sum.inl t : τ ⊕ π)) (LR J P) := ⟨_, _, rfl, rfl, h⟩
theorem ok2_ir {σ ρ τ π : Type} {J : σ → τ → Prop} {P : ρ → π → Prop} {u : ρ} {v : π} (h : P u v) : Ok2 (some (Sum.inr u : σ ⊕ ρ)) (some (Sum.inr v : τ ⊕ π)) (LR J P) := ⟨_, _, rfl, rfl, h⟩
theorem ok2_bind {α β γ δ : Type} {x : Option α} {y : Option β} {f : α → Option γ} {g : β → Option δ} {Q : α → β → Prop} {P : γ → δ → Prop} (h : Ok2 x y Q) (k : ∀ u v, Q u v → Ok2 (f u) (g v) P) : Ok2 (x.bind f) (y.bind g) P := by
  obtain ⟨u, v, rfl, rfl, hq⟩ := h
  exact k u v hq
theorem ok2_lS {α β γ : Type} {x : Option α} {y : Option β} {f : α → Option γ} {Q : α → Prop} {P : γ → β → Prop} (h : OkS x Q) (k : ∀ u, Q u → Ok2 (f u) y P) : Ok2 (x.bind f) y P := by
  obtain ⟨u, rfl, hq⟩ := h
  exact k u hq
theorem ok2_rS {α β δ : Type} {x : Option α} {y : Option β} {g : β → Option δ} {Q : β → Prop} {P : α → δ → Prop} (h : OkS y Q) (k : ∀ v, Q v → Ok2 x (g v) P) : Ok2 x (y.bind g) P := by
  obtain ⟨v, rfl, hq⟩ := h
  exact k v hq
theorem ok2_l {α β γ : Type} {x : Option α} {y : Option β} {f : α → Option γ} {u : α} {P : γ → β → Prop} (h : x = some u) (k : Ok2 (f u) y P) : Ok2 (x.bind f) y P := by
  rw [h]
  exact k
theorem ok2_r {α β δ : Type} {x : Option α} {y : Option β} {g : β → Option δ} {v : β} {P : α → δ → Prop} (h : y = some v) (k : Ok2 x (g v) P) : Ok2 x (y.bind g) P := by
  rw [h]
  exact k
theorem ok2_mono {α β : Type} {x : Option α} {y : Option β} {P Q : α → β → Prop} (h : Ok2 x y P) (k : ∀ u v, P u v → Q u v) : Ok2 x y Q := by
  obtain ⟨u, v, h1, h2, h3⟩ := h
  exact ⟨u, v, h1, h2, k u v h3⟩
theorem ok2_S {α β : Type} {x : Option α} {y : Option β} {P : α → Prop} {Q : β → Prop} {R : α → β → Prop} (h1 : OkS x P) (h2 : OkS y Q) (k : ∀ u v, P u → Q v → R u v) : Ok2 x y R := by
  obtain ⟨u, e1, p⟩ := h1
  obtain ⟨v, e2, q⟩ := h2
  exact ⟨u, v, e1, e2, k u v p q⟩
theorem it_inv2 {σ ρ τ π : Type} {f : σ → Option (σ ⊕ ρ)} {g : τ → Option (τ ⊕ π)} {I : Nat → σ → τ → Prop} {Post : ρ → π → Prop} {N : Nat} (step : ∀ i s t, i < N → I i s t → Ok2 (f s) (g t) (LR (I (i + 1)) Post)) (last : ∀ s t, I N s t → Ok2 (f s) (g t) (LR (fun _ _ => False) Post)) : ∀ (k i : Nat) (s : σ) (t : τ), i + k = N → I i s t → ∀ fuel, k < fuel → Ok2 (it f fuel s) (it g fuel t) Post := by
  intro k
  induction k with
  | zero =>
    intro i s t hi hI fuel hf
    obtain ⟨n, rfl⟩ : ∃ n, fuel = n + 1 := ⟨fuel - 1, by omega⟩
    have : i = N := by omega
    subst this
    obtain ⟨u, v, h1, h2, h3⟩ := last s t hI
    cases u with
    | inl u => cases v with
      | inl v => exact absurd h3 (fun h => h)
      | inr v => exact absurd h3 (fun h => h)
    | inr u => cases v with
      | inl v => exact absurd h3 (fun h => h)
      | inr v => exact ⟨u, v, by rw [it_succ, h1]; rfl, by rw [it_succ, h2]; rfl, h3⟩
  | succ k ih =>
    intro i s t hi hI fuel hf
    obtain ⟨n, rfl⟩ : ∃ n, fuel = n + 1 := ⟨fuel - 1, by omega⟩
    obtain ⟨u, v, h1, h2, h3⟩ := step i s t (by omega) hI
    cases u with
    | inl u => cases v with
      | inl v =>
        obtain ⟨u', v', h4, h5, h6⟩ := ih (i + 1) u v (by omega) h3 n (by omega)
        exact ⟨u', v', by rw [it_succ, h1]; exact h4, by rw [it_succ, h2]; exact h5, h6⟩
      | inr v => exact absurd h3 (fun h => h)
    | inr u => cases v with
      | inl v => exact absurd h3 (fun h => h)
      | inr v => exact ⟨u, v, by rw [it_succ, h1]; rfl, by rw [it_succ, h2]; rfl, h3⟩
theorem ok2_for {σ ρ τ π : Type} {f : σ → Option (σ ⊕ ρ)} {g : τ → Option (τ ⊕ π)} (I : Nat → σ → τ → Prop) {Post : ρ → π → Prop} (N : Nat) {s : σ} {t : τ} (h0 : I 0 s t) (step : ∀ i s t, i < N → I i s t → Ok2 (f s) (g t) (LR (I (i + 1)) Post)) (last : ∀ s t, I N s t → Ok2 (f s) (g t) (LR (fun _ _ => False) Post)) (hN : N < 2000) : Ok2 (it f fu s) (it g fu t) Post := it_inv2 step last N 0 s t (by omega) h0 fu hN
theorem copyWorkS_ok (W_ac W_fa W_in W_yr W_ti : Nat → Int32) {f t : Nat} (hf : f < 8) (ht : t < 8) (hne : f ≠ t) : OkS (m_X9_copyWork_self W_ac W_fa W_in W_yr W_ti (nI f) (nI t)) (fun o => o.1 = upd W_ac t (W_ac f) ∧ o.2.2.2.1 = upd W_yr t (W_yr f) ∧ o.2.2.2.2 = upd W_ti t (W_ti f) ∧ (∀ k, k < 4 → o.2.1 (4 * t + k) = W_fa (4 * f + k) ∧ o.2.2.1 (4 * t + k) = W_in (4 * f + k)) ∧ (∀ j, j < 4 * t ∨ 4 * t + 4 ≤ j → o.2.1 j = W_fa j ∧ o.2.2.1 j = W_in j)) := by
  unfold m_X9_copyWork_self
  simp (disch := omega) only [ck_nI, tn_nI]
  refine ok_bind (Q := fun r => (∀ k, k < 4 → r.1 (4 * t + k) = W_fa (4 * f + k) ∧ r.2 (4 * t + k) = W_in (4 * f + k)) ∧ (∀ j, j < 4 * t ∨ 4 * t + 4 ≤ j → r.1 j = W_fa j ∧ r.2 j = W_in j)) ?_ (fun r h => ok_some ⟨rfl, rfl, rfl, h⟩)
  refine ok_for (fun i st => st.1 = nI i ∧ (∀ k, k < i → st.2.1 (4 * t + k) = W_fa (4 * f + k) ∧ st.2.2 (4 * t + k) = W_in (4 * f + k)) ∧ (∀ j, j < 4 * t ∨ 4 * t + i ≤ j → st.2.1 j = W_fa j ∧ st.2.2 j = W_in j)) 4 ⟨rfl, fun k hk => absurd hk (Nat.not_lt_zero k), fun j _ => ⟨rfl, rfl⟩⟩ ?_ ?_ (by omega)
  · rintro i ⟨s1, s2, s3⟩ hi ⟨e1, e2, e3⟩
    dsimp only at e1 e2 e3
    subst e1
    unfold m_X9_copyWork_self_B39
    simp (disch := omega) only [lit32, nI_le_iff, nI_mul, nI_add, ck_nI, tn_nI]
    rw [if_neg (by omega)]
    refine ok_l ⟨rfl, fun k hk => ?_, fun j hj => ?_⟩
    · dsimp only
      by_cases e : k = i
      · subst e
        rw [Nat.mul_comm t 4, upd_eq, upd_eq, Nat.mul_comm f 4]
        exact e3 _ (by omega)
      · rw [upd_ne _ _ (by omega), upd_ne _ _ (by omega)]
        exact e2 k (by omega)
    · dsimp only
      rw [upd_ne _ _ (by omega), upd_ne _ _ (by omega)]
      exact e3 j (by omega)
  · rintro ⟨s1, s2, s3⟩ ⟨e1, e2, e3⟩
    dsimp only at e1 e2 e3
    subst e1
    unfold m_X9_copyWork_self_B39
    simp (disch := omega) only [lit32, nI_le_iff]
    rw [if_pos (by omega)]
    exact ok_r ⟨e2, e3⟩
/-- the row of numbers with work x gone, its citations as they were -/
def goneW (a : Nat → Nat) (x : Nat) : Nat → Nat := fun j => if j = 0 then a 0 - 1 else if 1 + 7 * x ≤ j ∧ j < 1 + 7 * (a 0 - 1) then a (j + 7) else a j
theorem goneW_hi {a : Nat → Nat} {x j : Nat} (h0 : a 0 ≤ 8) (h : 57 ≤ j) : goneW a x j = a j := by
  unfold goneW
  rw [if_neg (by omega), if_neg (by omega)]
theorem goneW_at {a : Nat → Nat} {x w k : Nat} (hk : k < 7) (hw : w + 1 < a 0) : goneW a x (1 + 7 * w + k) = a (1 + 7 * (if w < x then w else w + 1) + k) := by
  unfold goneW
  rw [if_neg (by omega)]
  by_cases e : w < x
  · rw [if_neg (by omega), if_pos e]
  · rw [if_pos (by omega), if_neg e]
    congr 1
    omega
theorem goneW_0 {a : Nat → Nat} {x w : Nat} (hw : w + 1 < a 0) : goneW a x (1 + 7 * w) = a (1 + 7 * (if w < x then w else w + 1)) := goneW_at (k := 0) (by omega) hw
theorem goneW_1 {a : Nat → Nat} {x w k : Nat} (hk : k < 4) (hw : w + 1 < a 0) : goneW a x (2 + 7 * w + k) = a (2 + 7 * (if w < x then w else w + 1) + k) := by
  have := goneW_at (a := a) (x := x) (w := w) (k := k + 1) (by omega) hw
  rw [show 1 + 7 * w + (k + 1) = 2 + 7 * w + k by omega, show 1 + 7 * (if w < x then w else w + 1) + (k + 1) = 2 + 7 * (if w < x then w else w + 1) + k by omega] at this
  exact this
theorem goneW_5 {a : Nat → Nat} {x w : Nat} (hw : w + 1 < a 0) : goneW a x (6 + 7 * w) = a (6 + 7 * (if w < x then w else w + 1)) := by
  have := goneW_at (a := a) (x := x) (w := w) (k := 5) (by omega) hw
  rw [show 1 + 7 * w + 5 = 6 + 7 * w by omega, show 1 + 7 * (if w < x then w else w + 1) + 5 = 6 + 7 * (if w < x then w else w + 1) by omega] at this
  exact this
theorem goneW_6 {a : Nat → Nat} {x w : Nat} (hw : w + 1 < a 0) : goneW a x (7 + 7 * w) = a (7 + 7 * (if w < x then w else w + 1)) := by
  have := goneW_at (a := a) (x := x) (w := w) (k := 6) (by omega) hw
  rw [show 1 + 7 * w + 6 = 7 + 7 * w by omega, show 1 + 7 * (if w < x then w else w + 1) + 6 = 7 + 7 * (if w < x then w else w + 1) by omega] at this
  exact this
theorem OkW_gone {a : Nat → Nat} {x : Nat} (hx : x < a 0) (ho : OkW a) : OkW (goneW a x) := by
  have h8 := ho.1
  have h0 : goneW a x 0 = a 0 - 1 := rfl
  refine ⟨by rw [h0]; omega, fun w hw => ?_⟩
  rw [h0] at hw
  have hd : (if w < x then w else w + 1) < a 0 := by split <;> omega
  obtain ⟨q1, q2, q3, q4⟩ := ho.2 _ hd
  rw [goneW_0 (by omega), goneW_5 (by omega), goneW_6 (by omega)]
  exact ⟨q1, fun k hk => by rw [goneW_1 (by omega) (by omega)]; exact q2 k hk, q3, q4⟩
theorem removeAtW_ok {W_n : Int32} {W_ac W_fa W_in W_yr W_ti : Nat → Int32} {a : Nat → Nat} (ho : OkW a) (r1 : RW W_n W_ac W_fa W_in W_yr W_ti a) {x : Nat} (hx : x < a 0) : OkS (m_X9_removeAt W_n W_ac W_fa W_in W_yr W_ti (nI x)) (fun o => RW o.1 o.2.1 o.2.2.1 o.2.2.2.1 o.2.2.2.2.1 o.2.2.2.2.2 (goneW a x)) := by
  have h8 := ho.1
  unfold m_X9_removeAt
  rw [r1.1]
  refine ok_bind (Q := fun r => ∀ w, w + 1 < a 0 → SameW r.1 r.2.1 r.2.2.1 r.2.2.2.1 r.2.2.2.2 W_ac W_fa W_in W_yr W_ti w (if w < x then w else w + 1)) ?_ (fun r h => ok_some ?_)
  · refine ok_for (fun t st => st.1 = nI (x + 1 + t) ∧ (∀ w, w < a 0 → (x ≤ w ∧ w < x + t → SameW st.2.1 st.2.2.1 st.2.2.2.1 st.2.2.2.2.1 st.2.2.2.2.2 W_ac W_fa W_in W_yr W_ti w (w + 1)) ∧ (w < x ∨ x + t ≤ w → SameW st.2.1 st.2.2.1 st.2.2.2.1 st.2.2.2.2.1 st.2.2.2.2.2 W_ac W_fa W_in W_yr W_ti w w))) (a 0 - 1 - x) ⟨by rw [show (1 : Int32) = nI 1 from rfl, nI_add], fun c hc => ⟨fun h => by omega, fun _ => ⟨rfl, fun k hk => ⟨rfl, rfl⟩, rfl, rfl⟩⟩⟩ ?_ ?_ (by omega)
    · rintro t ⟨s1, s2, s3, s4, s5, s6⟩ hi ⟨e1, e2⟩
      dsimp only at e1 e2
      subst e1
      unfold m_X9_removeAt_B4
      rw [if_neg (by rw [nI_le_iff (by omega) (by omega)]; omega)]
      dsimp only
      rw [show nI (x + 1 + t) - 1 = nI (x + t) by rw [show (1 : Int32) = nI 1 from rfl, nI_sub (by omega) (by omega)]; congr 1; omega]
      refine ok_bind (copyWorkS_ok s2 s3 s4 s5 s6 (f := x + 1 + t) (t := x + t) (by omega) (by omega) (by omega)) ?_
      rintro ⟨p1, p2, p3, p4, p5⟩ ⟨c1, c2, c3, c4, c5⟩
      dsimp only at c1 c2 c3 c4 c5
      subst c1 c2 c3
      refine ok_l ⟨by simp only [lit32, nI_add]; rfl, fun c hc => ⟨fun h => ?_, fun h => ?_⟩⟩
      · by_cases e : c = x + t
        · subst e
          obtain ⟨u1, u2, u3, u4⟩ := (e2 (x + t + 1) (by omega)).2 (by omega)
          refine ⟨?_, fun k hk => ?_, ?_, ?_⟩
          · dsimp only; rw [upd_eq, show x + 1 + t = x + t + 1 by omega]; exact u1
          · dsimp only; rw [(c4 k hk).1, (c4 k hk).2, show x + 1 + t = x + t + 1 by omega]; exact u2 k hk
          · dsimp only; rw [upd_eq, show x + 1 + t = x + t + 1 by omega]; exact u3
          · dsimp only; rw [upd_eq, show x + 1 + t = x + t + 1 by omega]; exact u4
        · obtain ⟨u1, u2, u3, u4⟩ := (e2 c (by omega)).1 (by omega)
          refine ⟨?_, fun k hk => ?_, ?_, ?_⟩
          · dsimp only; rw [upd_ne _ _ e]; exact u1
          · dsimp only; rw [(c5 _ (by omega)).1, (c5 _ (by omega)).2]; exact u2 k hk
          · dsimp only; rw [upd_ne _ _ e]; exact u3
          · dsimp only; rw [upd_ne _ _ e]; exact u4
      · obtain ⟨u1, u2, u3, u4⟩ := (e2 c (by omega)).2 (by omega)
        refine ⟨?_, fun k hk => ?_, ?_, ?_⟩
        · dsimp only; rw [upd_ne _ _ (by omega)]; exact u1
        · dsimp only; rw [(c5 _ (by omega)).1, (c5 _ (by omega)).2]; exact u2 k hk
        · dsimp only; rw [upd_ne _ _ (by omega)]; exact u3
        · dsimp only; rw [upd_ne _ _ (by omega)]; exact u4
    · rintro ⟨s1, s2, s3, s4, s5, s6⟩ ⟨e1, e2⟩
      dsimp only at e1 e2
      subst e1
      unfold m_X9_removeAt_B4
      rw [if_pos (by rw [nI_le_iff (by omega) (by omega)]; omega)]
      refine ok_r (fun c hc => ?_)
      dsimp only
      by_cases e : c < x
      · rw [if_pos e]; exact (e2 c (by omega)).2 (by omega)
      · rw [if_neg e]; exact (e2 c (by omega)).1 (by omega)
  · refine ⟨by rw [show (1 : Int32) = nI 1 from rfl, nI_sub (by omega) (by omega)]; rfl, fun w hw => ?_⟩
    have hw' : w < a 0 - 1 := hw
    have hd : (if w < x then w else w + 1) < a 0 := by split <;> omega
    obtain ⟨u1, u2, u3, u4⟩ := h w (by omega)
    obtain ⟨t1, t2, t3, t4⟩ := r1.2 _ hd
    have := ho.2 _ hd
    dsimp only
    rw [goneW_0 (by omega), goneW_5 (by omega), goneW_6 (by omega), u1, u3, u4]
    refine ⟨t1, fun k hk => ?_, t3, t4⟩
    rw [(u2 k (by omega)).1, (u2 k (by omega)).2, goneW_1 (by omega) (by omega)]
    exact t2 k hk
theorem shiftM_ok {M_s : Nat → Int32} {a : Nat → Nat} (ho : OkW a) (r4 : RM M_s a) {x : Nat} (hx : x < a 0) : OkS (it m_X12_removeWork_B31 fu (nI (1 + 7 * x), upd M_s 0 (nI (a 0 - 1)))) (fun r => RM r (goneW a x)) := by
  have h8 := ho.1
  refine ok_for (fun t st => st.1 = nI (1 + 7 * x + t) ∧ ∀ j, j < 131 → st.2 j = nI (if j = 0 then a 0 - 1 else if 1 + 7 * x ≤ j ∧ j < 1 + 7 * x + t then a (j + 7) else a j)) (7 * (a 0 - 1 - x)) ⟨rfl, fun j hj => ?_⟩ ?_ ?_ (by omega)
  · dsimp only
    by_cases e : j = 0
    · rw [e, upd_eq, if_pos rfl]
    · rw [upd_ne _ _ e, if_neg e, if_neg (by omega)]; exact r4 j hj
  · rintro t ⟨s1, s2⟩ hi ⟨e1, e2⟩
    dsimp only at e1 e2
    subst e1
    have e70 := e2 0 (by omega)
    rw [if_pos rfl] at e70
    unfold m_X12_removeWork_B31
    simp (disch := omega) only [lit32, ck_nI, tn_nI, e70, nI_mul, nI_add, nI_le_iff]
    rw [if_neg (by omega)]
    refine ok_l ⟨rfl, fun j hj => ?_⟩
    dsimp only
    by_cases e : j = 1 + 7 * x + t
    · subst e
      rw [upd_eq, e2 _ (by omega), if_neg (by omega), if_neg (by omega), if_neg (by omega), if_pos (by omega)]
    · rw [upd_ne _ _ e, e2 j hj]
      congr 1
      by_cases e' : j = 0
      · rw [if_pos e', if_pos e']
      · rw [if_neg e', if_neg e']
        by_cases h : 1 + 7 * x ≤ j ∧ j < 1 + 7 * x + t
        · rw [if_pos h, if_pos (by omega)]
        · rw [if_neg h, if_neg (by omega)]
  · rintro ⟨s1, s2⟩ ⟨e1, e2⟩
    dsimp only at e1 e2
    subst e1
    have e70 := e2 0 (by omega)
    rw [if_pos rfl] at e70
    unfold m_X12_removeWork_B31
    simp (disch := omega) only [lit32, ck_nI, tn_nI, e70, nI_mul, nI_add, nI_le_iff]
    rw [if_pos (by omega)]
    refine ok_r (fun j hj => ?_)
    rw [e2 j hj, show 1 + 7 * x + 7 * (a 0 - 1 - x) = 1 + 7 * (a 0 - 1) by omega]
    rfl
def shr (x v : Nat) : Nat := if v ≤ x then v else v - 1
theorem cited_ok {s : Nat → Int32} {b : Nat → Nat} (h : RM s b) {c k : Nat} (hk : 72 + 6 * c + k < 131) : m_X12_cited s (nI c) (nI k) = some (nI (b (72 + 6 * c + k))) := by
  unfold m_X12_cited
  simp (disch := omega) only [lit32, nI_mul, nI_add, ck_nI, tn_nI]
  rw [show 71 + 6 * c + 1 + k = 72 + 6 * c + k by omega, h _ hk]
theorem citesM_ok {s : Nat → Int32} {b : Nat → Nat} (h : RM s b) {c : Nat} (hk : 71 + 6 * c < 131) : m_X12_cites s (nI c) = some (nI (b (71 + 6 * c))) := by
  unfold m_X12_cites
  simp (disch := omega) only [lit32, nI_mul, nI_add, ck_nI, tn_nI]
  rw [h _ hk]
theorem workAt_ok {cd : Nat → Int32} {c k : Nat} (hk : 5 * c + k < 50) : m_X1_workAt cd (nI c) (nI k) = some (cd (5 * c + k)) := by
  unfold m_X1_workAt
  simp (disch := omega) only [lit32, nI_mul, nI_add, ck_nI, tn_nI]
  rw [show c * 5 + k = 5 * c + k by omega]
theorem inner2 {x i d S N0 : Nat} {A : Nat → Nat} {sz cd s : Nat → Int32} {b : Nat → Nat} (hd : d ≤ i) (hi : i < 10) (hS : S ≤ 5) (hx : x < N0) (h8 : N0 ≤ 8) (hA : ∀ l, l < S → A l < N0) (hdis : ∀ k l, k < l → l < S → A k ≠ A l) (hb : RM s b) (hz : sz d = nI 0) (hcd : ∀ l, l < S → cd (5 * i + l) = nI (A l)) (hbA : ∀ l, l < S → b (72 + 6 * i + l) = A l) :
    Ok2 (it (m_X1_copyWithout_B18 (nI x) (nI i) (nI d) (nI S)) fu (0, sz, cd)) (it (m_X12_removeWork_B95 (nI x) (nI d) (nI i) (nI S)) fu (0, 0, s)) (fun u v => ∃ b' m, m ≤ S ∧ RM v.2 b' ∧ v.1 = nI m ∧ u.1 d = nI m ∧ (∀ c, c ≠ d → u.1 c = sz c) ∧ (∀ j, j < m → u.2 (5 * d + j) = nI (b' (72 + 6 * d + j)) ∧ b' (72 + 6 * d + j) < N0 - 1) ∧ (∀ j l, j < l → l < m → b' (72 + 6 * d + j) ≠ b' (72 + 6 * d + l)) ∧ (∀ j, j < 5 * d ∨ 5 * d + m ≤ j → u.2 j = cd j) ∧ (∀ j, j < 72 + 6 * d ∨ 72 + 6 * d + m ≤ j → b' j = b j)) := by
  refine ok2_for (fun k st tt => st.1 = nI k ∧ tt.2.1 = nI k ∧ ∃ b' m, m ≤ k ∧ RM tt.2.2 b' ∧ tt.1 = nI m ∧ st.2.1 d = nI m ∧ (∀ c, c ≠ d → st.2.1 c = sz c) ∧ (∀ j, j < m → st.2.2 (5 * d + j) = nI (b' (72 + 6 * d + j)) ∧ b' (72 + 6 * d + j) < N0 - 1) ∧ (∀ j l, j < l → l < m → b' (72 + 6 * d + j) ≠ b' (72 + 6 * d + l)) ∧ (∀ j, j < 5 * d ∨ 5 * d + m ≤ j → st.2.2 j = cd j) ∧ (∀ j, j < 72 + 6 * d ∨ 72 + 6 * d + m ≤ j → b' j = b j) ∧ (∀ j, j < m → ∃ l, l < k ∧ A l ≠ x ∧ b' (72 + 6 * d + j) = shr x (A l))) S ⟨rfl, rfl, b, 0, by omega, hb, rfl, hz, fun _ _ => rfl, fun j hj => absurd hj (by omega), fun j l _ hl => absurd hl (by omega), fun _ _ => rfl, fun _ _ => rfl, fun j hj => absurd hj (by omega)⟩ ?_ ?_ (by omega)
  · rintro k ⟨c1, c2, c3⟩ ⟨t1, t2, t3⟩ hk ⟨e1, e2, b', m, hm, hr, e3, e4, e5, e6, e7, e8, e9, e10⟩
    dsimp only at e1 e2 hr e3 e4 e5 e6 e8
    subst e1 e2 e3
    have hAk := hA k hk
    have rd1 : c3 (5 * i + k) = nI (A k) := by rw [e8 _ (by omega)]; exact hcd k hk
    have rd2 : b' (72 + 6 * i + k) = A k := by rw [e9 _ (by omega)]; exact hbA k hk
    unfold m_X1_copyWithout_B18 m_X12_removeWork_B95
    dsimp only
    rw [if_neg (by rw [nI_le_iff (by omega) (by omega)]; omega), if_neg (by rw [nI_le_iff (by omega) (by omega)]; omega)]
    refine ok2_l (workAt_ok (by omega)) (ok2_r (cited_ok hr (by omega)) ?_)
    rw [rd1, rd2]
    by_cases ex : A k = x
    · rw [if_pos (by rw [ex]), if_pos (by rw [ex])]
      refine ok2_il ⟨by rw [show (1 : Int32) = nI 1 from rfl, nI_add], by dsimp only; rw [show (1 : Int32) = nI 1 from rfl, nI_add], b', m, by omega, hr, rfl, e4, e5, e6, e7, e8, e9, fun j hj => ?_⟩
      obtain ⟨l, q1, q2⟩ := e10 j hj
      exact ⟨l, by omega, q2⟩
    · have ex' : ¬ (nI (A k) = nI x) := by rw [nI_eq_iff (by omega) (by omega)]; exact ex
      rw [if_neg ex', if_neg ex']
      have key : ∀ v, v = shr x (A k) → Ok2 (m_X1_copyWithout_J57 (nI x) (nI i) (nI d) (nI S) (nI k) (nI v) (nI d) c2 c3) (m_X12_removeWork_J148 (nI x) (nI d) (nI i) (nI m) (nI S) (nI k) (nI v) (((71 + (6 * nI d)) + 1) + nI m) t3) (LR (fun st tt => st.1 = nI (k + 1) ∧ tt.2.1 = nI (k + 1) ∧ ∃ b' m, m ≤ k + 1 ∧ RM tt.2.2 b' ∧ tt.1 = nI m ∧ st.2.1 d = nI m ∧ (∀ c, c ≠ d → st.2.1 c = sz c) ∧ (∀ j, j < m → st.2.2 (5 * d + j) = nI (b' (72 + 6 * d + j)) ∧ b' (72 + 6 * d + j) < N0 - 1) ∧ (∀ j l, j < l → l < m → b' (72 + 6 * d + j) ≠ b' (72 + 6 * d + l)) ∧ (∀ j, j < 5 * d ∨ 5 * d + m ≤ j → st.2.2 j = cd j) ∧ (∀ j, j < 72 + 6 * d ∨ 72 + 6 * d + m ≤ j → b' j = b j) ∧ (∀ j, j < m → ∃ l, l < k + 1 ∧ A l ≠ x ∧ b' (72 + 6 * d + j) = shr x (A l))) (fun u v => ∃ b' m, m ≤ S ∧ RM v.2 b' ∧ v.1 = nI m ∧ u.1 d = nI m ∧ (∀ c, c ≠ d → u.1 c = sz c) ∧ (∀ j, j < m → u.2 (5 * d + j) = nI (b' (72 + 6 * d + j)) ∧ b' (72 + 6 * d + j) < N0 - 1) ∧ (∀ j l, j < l → l < m → b' (72 + 6 * d + j) ≠ b' (72 + 6 * d + l)) ∧ (∀ j, j < 5 * d ∨ 5 * d + m ≤ j → u.2 j = cd j) ∧ (∀ j, j < 72 + 6 * d ∨ 72 + 6 * d + m ≤ j → b' j = b j))) := by
        intro v hv
        have hvN : v < N0 - 1 := by rw [hv]; unfold shr; split <;> omega
        unfold m_X1_copyWithout_J57 m_X12_removeWork_J148 m_X1_copyWithout_J60 m_X12_removeWork_J152
        rw [cadd_ok (by omega) (by omega) e4]
        simp (disch := omega) only [lit32, nI_mul, nI_add, ck_nI, tn_nI, bd]
        rw [show 71 + 6 * d + 1 + m = 72 + 6 * d + m by omega]
        refine ok2_il ⟨rfl, rfl, upN b' (72 + 6 * d + m) v, m + 1, by omega, RM_up hr, rfl, by dsimp only; rw [upd_eq], fun c hc => by dsimp only; rw [upd_ne _ _ hc]; exact e5 c hc, fun j hj => ?_, fun j l hjl hl => ?_, fun j hj => ?_, fun j hj => ?_, fun j hj => ?_⟩
        · dsimp only
          by_cases e : j = m
          · subst e
            rw [upd_eq, upN_eq]
            exact ⟨rfl, hvN⟩
          · rw [upd_ne _ _ (by omega), upN_ne _ _ (by omega)]
            exact e6 j (by omega)
        · rw [upN_ne _ _ (by omega : 72 + 6 * d + j ≠ 72 + 6 * d + m)]
          by_cases e : l = m
          · subst e
            rw [upN_eq]
            obtain ⟨l', q1, q2, q3⟩ := e10 j (by omega)
            have := hdis l' k q1 hk
            rw [q3, hv]
            unfold shr
            split <;> split <;> omega
          · rw [upN_ne _ _ (by omega)]
            exact e7 j l hjl (by omega)
        · dsimp only
          rw [upd_ne _ _ (by omega)]
          exact e8 j (by omega)
        · rw [upN_ne _ _ (by omega)]
          exact e9 j (by omega)
        · by_cases e : j = m
          · subst e
            rw [upN_eq]
            exact ⟨k, by omega, ex, hv⟩
          · rw [upN_ne _ _ (by omega)]
            obtain ⟨l, q1, q2⟩ := e10 j (by omega)
            exact ⟨l, by omega, q2⟩
      by_cases h : A k ≤ x
      · have h' : nI (A k) ≤ nI x := by rw [nI_le_iff (by omega) (by omega)]; exact h
        rw [if_pos h', if_pos h']
        exact key _ (by unfold shr; rw [if_pos h])
      · have h' : ¬ (nI (A k) ≤ nI x) := by rw [nI_le_iff (by omega) (by omega)]; exact h
        rw [if_neg h', if_neg h', show nI (A k) - 1 = nI (A k - 1) by rw [show (1 : Int32) = nI 1 from rfl, nI_sub (by omega) (by omega)]]
        exact key _ (by unfold shr; rw [if_neg h])
  · rintro ⟨c1, c2, c3⟩ ⟨t1, t2, t3⟩ ⟨e1, e2, b', m, hm, hr, e3, e4, e5, e6, e7, e8, e9, e10⟩
    dsimp only at e1 e2 hr e3 e4 e5 e6 e8
    subst e1 e2 e3
    unfold m_X1_copyWithout_B18 m_X12_removeWork_B95
    dsimp only
    rw [if_pos (by rw [nI_le_iff (by omega) (by omega)]; omega), if_pos (by rw [nI_le_iff (by omega) (by omega)]; omega)]
    exact ok2_ir ⟨b', m, hm, hr, rfl, e4, e5, e6, e7, e8, e9⟩
/-- what stands behind the citations that are done -/
def Done (N0 : Nat) (sz cd : Nat → Int32) (b : Nat → Nat) (d : Nat) : Prop := ∀ c, c < d → (1 ≤ b (71 + 6 * c) ∧ b (71 + 6 * c) ≤ 5) ∧ sz c = nI (b (71 + 6 * c)) ∧ (∀ k, k < b (71 + 6 * c) → cd (5 * c + k) = nI (b (72 + 6 * c + k)) ∧ b (72 + 6 * c + k) < N0 - 1) ∧ (∀ k l, k < l → l < b (71 + 6 * c) → b (72 + 6 * c + k) ≠ b (72 + 6 * c + l))
theorem drop2 {C_n : Int32} {sz cd s : Nat → Int32} {a : Nat → Nat} {x : Nat} (hoW : OkW a) (hoC : OkC a) (r3 : RT C_n sz cd a) (hx : x < a 0) (hs : RM s (goneW a x)) :
    Ok2 (it (m_X1_dropWork_B4 (nI x) C_n) fu (0, 0, sz, cd)) (it (m_X12_removeWork_B71 (nI x)) fu (0, 0, s)) (fun u v => ∃ b d, d ≤ 10 ∧ u.1 = nI d ∧ v.1 = nI d ∧ RM v.2 b ∧ (∀ j, j < 71 → b j = goneW a x j) ∧ Done (a 0) u.2.1 u.2.2 b d) := by
  have h8 := hoW.1
  have h10 := hoC.1
  refine ok2_for (fun i st tt => st.2.1 = nI i ∧ tt.2.1 = nI i ∧ ∃ b d, d ≤ i ∧ st.1 = nI d ∧ tt.1 = nI d ∧ RM tt.2.2 b ∧ (∀ j, j < 71 → b j = goneW a x j) ∧ Done (a 0) st.2.2.1 st.2.2.2 b d ∧ (∀ c, i ≤ c → c < a 70 → st.2.2.1 c = nI (a (71 + 6 * c)) ∧ b (71 + 6 * c) = a (71 + 6 * c) ∧ ∀ k, k < a (71 + 6 * c) → st.2.2.2 (5 * c + k) = nI (a (72 + 6 * c + k)) ∧ b (72 + 6 * c + k) = a (72 + 6 * c + k))) (a 70) ⟨rfl, rfl, goneW a x, 0, by omega, rfl, rfl, hs, fun _ _ => rfl, fun c hc => absurd hc (by omega), fun c _ hc => ?_⟩ ?_ ?_ (by omega)
  · have := r3.2 c hc
    exact ⟨this.1, goneW_hi h8 (by omega), fun k hk => ⟨this.2 k hk, goneW_hi h8 (by omega)⟩⟩
  · rintro i ⟨c1, c2, c3, c4⟩ ⟨t1, t2, t3⟩ hi ⟨e1, e2, b, d, hd, e3, e4, hr, e5, e6, e7⟩
    dsimp only at e1 e2 e3 e4 hr e6 e7
    subst e1 e2 e3 e4
    obtain ⟨z1, z2, z3⟩ := e7 i (by omega) hi
    obtain ⟨q1, q2, q3⟩ := hoC.2 i hi
    have t70 : t3 70 = nI (a 70) := by rw [hr 70 (by omega), e5 70 (by omega), goneW_hi h8 (by omega)]
    unfold m_X1_dropWork_B4 m_X12_removeWork_B71 m_X1_copyWithout
    rw [r3.1]
    simp (disch := omega) only [lit32, nI_mul, nI_add, ck_nI, tn_nI]
    rw [t70, if_neg (by rw [nI_le_iff (by omega) (by omega)]; omega), if_neg (by rw [nI_le_iff (by omega) (by omega)]; omega), z1]
    refine ok2_r (citesM_ok hr (by omega)) ?_
    rw [z2]
    have := inner2 (x := x) (i := i) (d := d) (S := a (71 + 6 * i)) (N0 := a 0) (A := fun l => a (72 + 6 * i + l)) (sz := upd c3 d (nI 0)) (cd := c4) (s := t3) (b := b) hd (by omega) q1.2 hx h8 q2 q3 hr (by rw [upd_eq]) (fun l hl => (z3 l hl).1) (fun l hl => (z3 l hl).2)
    refine ok2_bind (Q := fun u v => ∃ b' m, m ≤ a (71 + 6 * i) ∧ RM v.2 b' ∧ v.1 = nI m ∧ u.1 d = nI m ∧ (∀ c, c ≠ d → u.1 c = upd c3 d (nI 0) c) ∧ (∀ j, j < m → u.2 (5 * d + j) = nI (b' (72 + 6 * d + j)) ∧ b' (72 + 6 * d + j) < a 0 - 1) ∧ (∀ j l, j < l → l < m → b' (72 + 6 * d + j) ≠ b' (72 + 6 * d + l)) ∧ (∀ j, j < 5 * d ∨ 5 * d + m ≤ j → u.2 j = c4 j) ∧ (∀ j, j < 72 + 6 * d ∨ 72 + 6 * d + m ≤ j → b' j = b j)) (by obtain ⟨u, v, w1, w2, w3⟩ := this; exact ⟨(u.1, u.2), v, by rw [show ((0 : Int32), upd c3 d (nI 0), c4) = (nI 0, upd c3 d (nI 0), c4) from rfl] at w1; rw [w1, bd], w2, w3⟩) ?_
    rintro ⟨u1, u2⟩ ⟨v1, v2⟩ ⟨b', m, hm, g1, g2, g3, g4, g5, g6, g7, g8⟩
    dsimp only at g1 g2 g3 g4 g5 g7
    subst g2
    simp only [g3]
    have low : ∀ c, c < d → b' (71 + 6 * c) = b (71 + 6 * c) ∧ u1 c = c3 c ∧ (∀ k, k < 5 → b' (72 + 6 * c + k) = b (72 + 6 * c + k) ∧ u2 (5 * c + k) = c4 (5 * c + k)) := fun c hc => ⟨g8 _ (by omega), by rw [g4 c (by omega), upd_ne _ _ (by omega)], fun k hk => ⟨g8 _ (by omega), g7 _ (by omega)⟩⟩
    have hig : ∀ c, i + 1 ≤ c → c < a 70 → u1 c = nI (a (71 + 6 * c)) ∧ b' (71 + 6 * c) = a (71 + 6 * c) ∧ ∀ k, k < a (71 + 6 * c) → u2 (5 * c + k) = nI (a (72 + 6 * c + k)) ∧ b' (72 + 6 * c + k) = a (72 + 6 * c + k) := by
      intro c hc hc'
      obtain ⟨y1, y2, y3⟩ := e7 c (by omega) hc'
      refine ⟨by rw [g4 c (by omega), upd_ne _ _ (by omega)]; exact y1, by rw [g8 _ (by omega)]; exact y2, fun k hk => ?_⟩
      rw [g7 _ (by omega), g8 _ (by omega)]
      exact y3 k hk
    have fin : ∀ d', d' = (if m = 0 then d else d + 1) → (fun st tt => st.2.1 = nI (i + 1) ∧ tt.2.1 = nI (i + 1) ∧ ∃ b d, d ≤ i + 1 ∧ st.1 = nI d ∧ tt.1 = nI d ∧ RM tt.2.2 b ∧ (∀ j, j < 71 → b j = goneW a x j) ∧ Done (a 0) st.2.2.1 st.2.2.2 b d ∧ (∀ c, i + 1 ≤ c → c < a 70 → st.2.2.1 c = nI (a (71 + 6 * c)) ∧ b (71 + 6 * c) = a (71 + 6 * c) ∧ ∀ k, k < a (71 + 6 * c) → st.2.2.2 (5 * c + k) = nI (a (72 + 6 * c + k)) ∧ b (72 + 6 * c + k) = a (72 + 6 * c + k)) : Int32 × Int32 × (Nat → Int32) × (Nat → Int32) → Int32 × Int32 × (Nat → Int32) → Prop) (nI d', nI (i + 1), u1, u2) (nI d', nI (i + 1), upd v2 (71 + 6 * d) (nI m)) := by
      intro d' hd'
      refine ⟨rfl, rfl, upN b' (71 + 6 * d) m, d', by rw [hd']; split <;> omega, rfl, rfl, RM_up g1, fun j hj => ?_, fun c hc => ?_, fun c hc hc' => ?_⟩
      · rw [upN_ne _ _ (by omega), g8 _ (by omega)]
        exact e5 j hj
      · dsimp only
        by_cases e : c = d
        · subst e
          have hm0 : m ≠ 0 := by intro h0; rw [if_pos h0] at hd'; omega
          rw [upN_eq]
          refine ⟨⟨by omega, by omega⟩, g3, fun k hk => ?_, fun k l hkl hl => ?_⟩
          · rw [upN_ne _ _ (by omega)]
            exact g5 k hk
          · rw [upN_ne _ _ (by omega), upN_ne _ _ (by omega)]
            exact g6 k l hkl hl
        · have hcd : c < d := by rw [hd'] at hc; split at hc <;> omega
          obtain ⟨l1, l2, l3⟩ := low c hcd
          obtain ⟨p1, p2, p3, p4⟩ := e6 c hcd
          rw [upN_ne _ _ (by omega), l1, l2]
          refine ⟨p1, p2, fun k hk => ?_, fun k l hkl hl => ?_⟩
          · rw [upN_ne _ _ (by omega), (l3 k (by omega)).1, (l3 k (by omega)).2]
            exact p3 k hk
          · rw [upN_ne _ _ (by omega), upN_ne _ _ (by omega), (l3 k (by omega)).1, (l3 l (by omega)).1]
            exact p4 k l hkl hl
      · obtain ⟨y1, y2, y3⟩ := hig c hc hc'
        refine ⟨y1, by rw [upN_ne _ _ (by omega)]; exact y2, fun k hk => ?_⟩
        rw [upN_ne _ _ (by omega)]
        exact y3 k hk
    by_cases hm0 : m = 0
    · subst hm0
      rw [if_pos (by rw [nI_le_iff (by omega) (by omega)]; omega), if_pos (by rw [nI_le_iff (by omega) (by omega)]; omega)]
      unfold m_X1_dropWork_J31 m_X12_removeWork_J183
      simp (disch := omega) only [lit32, nI_add, Nat.add_zero]
      exact ok2_il (fin d (by rw [if_pos rfl]))
    · rw [if_neg (by rw [nI_le_iff (by omega) (by omega)]; omega), if_neg (by rw [nI_le_iff (by omega) (by omega)]; omega)]
      unfold m_X1_dropWork_J31 m_X12_removeWork_J183
      simp (disch := omega) only [lit32, nI_add]
      exact ok2_il (fin (d + 1) (by rw [if_neg hm0]))
  · rintro ⟨c1, c2, c3, c4⟩ ⟨t1, t2, t3⟩ ⟨e1, e2, b, d, hd, e3, e4, hr, e5, e6, e7⟩
    dsimp only at e1 e2 e3 e4 hr e6 e7
    subst e1 e2 e3 e4
    have t70 : t3 70 = nI (a 70) := by rw [hr 70 (by omega), e5 70 (by omega), goneW_hi h8 (by omega)]
    unfold m_X1_dropWork_B4 m_X12_removeWork_B71
    rw [r3.1]
    simp (disch := omega) only [lit32, ck_nI, tn_nI]
    rw [t70, if_pos (by rw [nI_le_iff (by omega) (by omega)]; omega), if_pos (by rw [nI_le_iff (by omega) (by omega)]; omega)]
    exact ok2_ir ⟨b, d, by omega, rfl, rfl, hr, e5, e6⟩
theorem step4 : Step_4 Rel0 := by
  intro T_co T_n W_n W_ac W_fa W_in W_yr W_ti S_st S_mi S_fi S_sp S_cl S_nu S_co S_ke S_di C_n C_sz C_cd Y_n Y_nx M_s M_ke M_km M_te M_n Q_rv x1 hR
  obtain ⟨ht, ⟨a, ho, r1, r2, r3, r4⟩, h5⟩ := hR
  have h8 := ho.1.1
  rcases hasW x1 h8 (r4 0 (by omega)) with ⟨x, k1, k2, f1, f2⟩ | ⟨f1, f2⟩
  · subst k2
    obtain ⟨o1, o2, s1, s2, s3⟩ := save_ok ho r1 r2 r3 r4 h5
    obtain ⟨w, w1, w2⟩ := removeAtW_ok ho.1 r1 k1
    obtain ⟨m, m1, m2⟩ := shiftM_ok ho.1 r4 k1
    obtain ⟨u, v, d1, d2, b, d, hd, d3, d4, d5, d6, d7⟩ := drop2 ho.1 ho.2.2 r3 k1 m2
    have gl : ∀ j, j < 70 → upN b 70 d j = goneW a x j := fun j hj => by rw [upN_ne _ _ (by omega)]; exact d6 j (by omega)
    have gh : ∀ j, 57 ≤ j → j < 70 → upN b 70 d j = a j := fun j h1 h2 => by rw [gl j h2, goneW_hi h8 h1]
    have g0 : upN b 70 d 0 = a 0 - 1 := by rw [gl 0 (by omega)]; rfl
    have g70 : upN b 70 d 70 = d := upN_eq _ _ _
    refine ⟨(nI d, w.1, w.2.1, w.2.2.1, w.2.2.2.1, w.2.2.2.2.1, w.2.2.2.2.2, nI d, u.2.1, u.2.2, o1.1, o1.2.1, o1.2.2), (nI d, upd v.2 70 (nI d), o2.1, o2.2), ?_, ?_, rfl, ht, ⟨upN b 70 d, ⟨?_, ?_, ?_⟩, ?_, ?_, ?_, RM_up d5⟩, s3⟩
    · unfold m_X11_removeWork m_X1_dropWork
      rw [show m_X9_has W_n (nI x) = some 1 by rw [r1.1]; exact f1, bd, if_neg (by decide), s1, bd, w1, bd, d1, bd, bd, d3]
    · unfold m_X12_removeWork
      rw [f2, bd, if_neg (by decide), s2, bd]
      simp (disch := omega) only [lit32, ck_nI, tn_nI, r4 0 (by omega), nI_mul, nI_add, nI_sub]
      rw [m1, bd, show ((nI 0 : Int32), nI 0, m) = (0, 0, m) from rfl, d2, bd, d4]
    · exact OkW_cg (fun i hi => gl i (by omega)) (OkW_gone k1 ho.1)
    · exact OkE_cg gh ho.2.1
    · refine ⟨by rw [g70]; exact hd, fun c hc => ?_⟩
      rw [g70] at hc
      obtain ⟨p1, p2, p3, p4⟩ := d7 c hc
      rw [g0, upN_ne _ _ (by omega)]
      refine ⟨p1, fun k hk => ?_, fun k l hkl hl => ?_⟩
      · rw [upN_ne _ _ (by omega)]; exact (p3 k hk).2
      · rw [upN_ne _ _ (by omega), upN_ne _ _ (by omega)]; exact p4 k l hkl hl
    · exact RW_cg (fun i hi => gl i (by omega)) (OkW_gone k1 ho.1) w2
    · exact RS_cg gh r2
    · refine ⟨by rw [g70], fun c hc => ?_⟩
      rw [g70] at hc
      obtain ⟨p1, p2, p3, p4⟩ := d7 c hc
      rw [upN_ne _ _ (by omega)]
      refine ⟨p2, fun k hk => ?_⟩
      rw [upN_ne _ _ (by omega)]; exact (p3 k hk).1
  · refine ⟨((-1), W_n, W_ac, W_fa, W_in, W_yr, W_ti, C_n, C_sz, C_cd, Y_n, Y_nx, Q_rv), ((-1), M_s, M_ke, M_km), ?_, ?_, rfl, ht, ⟨a, ho, r1, r2, r3, r4⟩, h5⟩
    · unfold m_X11_removeWork
      rw [r1.1, f1, bd, if_pos rfl]
    · unfold m_X12_removeWork
      rw [f2, bd, if_pos rfl]
