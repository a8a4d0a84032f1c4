/-! ===== the pure part: numbers ===== -/
theorem lit32 (k : Nat) : (@OfNat.ofNat Int32 k Int32.instOfNat) = nI k := rfl
theorem nI_mul (a b : Nat) : nI a * nI b = nI (a * b) := (Int32.ofNat_mul a b).symm
theorem nI_toI {n : Nat} (h : n < 2147483648) : (nI n).toInt = (n : Int) := nI_toInt h
theorem tn_nI {n : Nat} (h : n < 2147483648) : Int32.toNatClampNeg (nI n) = n := nI_clamp h
theorem i32_ext {x y : Int32} (h : x.toInt = y.toInt) : x = y := Int32.toInt_inj.mp h
theorem nI_sub {a b : Nat} (h : b ≤ a) (ha : a < 2147483648) : nI a - nI b = nI (a - b) := by
  apply i32_ext
  rw [Int32.toInt_sub, nI_toI ha, nI_toI (by omega), nI_toI (by omega), Int.bmod_eq_of_le (by omega) (by omega)]
  omega
theorem nI_le_iff {a b : Nat} (ha : a < 2147483648) (hb : b < 2147483648) : (nI a ≤ nI b) = (a ≤ b) := by
  rw [Int32.le_iff_toInt_le, nI_toI ha, nI_toI hb]
  simp
theorem nI_lt_iff {a b : Nat} (ha : a < 2147483648) (hb : b < 2147483648) : (nI a < nI b) = (a < b) := by
  rw [Int32.lt_iff_toInt_lt, nI_toI ha, nI_toI hb]
  simp
theorem nI_eq_iff {a b : Nat} (ha : a < 2147483648) (hb : b < 2147483648) : (nI a = nI b) = (a = b) := by
  rw [← Int32.toInt_inj, nI_toI ha, nI_toI hb]
  exact propext ⟨fun h => by omega, fun h => by omega⟩
theorem nI_div {a b : Nat} (ha : a < 2147483648) (hb : b < 2147483648) : nI a / nI b = nI (a / b) := (Int32.ofNat_div ha hb).symm
theorem ck_nI {α : Type} {i n : Nat} {k : Option α} (h : i < n) (hn : i < 2147483648) : ck (nI i) n k = k := by
  unfold ck
  rw [if_neg]
  rw [show (0 : Int32) = nI 0 from rfl, nI_lt_iff hn (by omega), tn_nI hn]
  omega
theorem ck_lit {α : Type} {i n : Nat} {k : Option α} (h : i < n) (hn : i < 2147483648) : ck (@OfNat.ofNat Int32 i Int32.instOfNat) n k = k := ck_nI h hn
theorem ckb_0 {α : Type} {k : Option α} : ckb 0 k = k := by unfold ckb; rw [if_pos (Or.inl rfl)]
theorem ckb_1 {α : Type} {k : Option α} : ckb 1 k = k := by unfold ckb; rw [if_pos (Or.inr rfl)]
theorem upd_eq (f : Nat → Int32) (k : Nat) (x : Int32) : upd f k x k = x := by simp [upd]
theorem upd_ne (f : Nat → Int32) {k j : Nat} (x : Int32) (h : j ≠ k) : upd f k x j = f j := by simp [upd, h]
/-! ===== loops ===== -/
theorem it_succ {σ ρ : Type} (f : σ → Option (σ ⊕ ρ)) (n : Nat) (s : σ) : it f (n + 1) s = (f s).bind fun x => Sum.elim (fun s' => it f n s') (fun r => some r) x := rfl
/-- a loop by an invariant: at step i it goes round, or out -/
theorem it_inv {σ ρ : Type} {f : σ → Option (σ ⊕ ρ)} {I : Nat → σ → Prop} {Post : ρ → Prop} {N : Nat} (step : ∀ i s, i < N → I i s → (∃ s', f s = some (.inl s') ∧ I (i + 1) s') ∨ (∃ r, f s = some (.inr r) ∧ Post r)) (last : ∀ s, I N s → ∃ r, f s = some (.inr r) ∧ Post r) : ∀ (k i : Nat) (s : σ), i + k = N → I i s → ∀ fuel, k < fuel → ∃ r, it f fuel s = some r ∧ Post r := by
  intro k
  induction k with
  | zero =>
    intro i s hi hI fuel hf
    obtain ⟨n, rfl⟩ : ∃ n, fuel = n + 1 := ⟨fuel - 1, by omega⟩
    have : i = N := by omega
    subst this
    obtain ⟨r, h1, h2⟩ := last s hI
    exact ⟨r, by rw [it_succ, h1]; rfl, h2⟩
  | succ k ih =>
    intro i s hi hI fuel hf
    obtain ⟨n, rfl⟩ : ∃ n, fuel = n + 1 := ⟨fuel - 1, by omega⟩
    rcases step i s (by omega) hI with ⟨s', h1, h2⟩ | ⟨r, h1, h2⟩
    · obtain ⟨r, h3, h4⟩ := ih (i + 1) s' (by omega) h2 n (by omega)
      exact ⟨r, by rw [it_succ, h1]; exact h3, h4⟩
    · exact ⟨r, by rw [it_succ, h1]; rfl, h2⟩
theorem it_for {σ ρ : Type} {f : σ → Option (σ ⊕ ρ)} (I : Nat → σ → Prop) (Post : ρ → Prop) (N : Nat) (s : σ) (h0 : I 0 s) (step : ∀ i s, i < N → I i s → (∃ s', f s = some (.inl s') ∧ I (i + 1) s') ∨ (∃ r, f s = some (.inr r) ∧ Post r)) (last : ∀ s, I N s → ∃ r, f s = some (.inr r) ∧ Post r) (hN : N < 2000) : ∃ r, it f fu s = some r ∧ Post r := it_inv step last N 0 s (by omega) h0 fu hN
/-- a loop whose every state is known -/
theorem it_run {σ ρ : Type} {f : σ → Option (σ ⊕ ρ)} (g : Nat → σ) (N : Nat) (r : ρ) (step : ∀ i, i < N → f (g i) = some (.inl (g (i + 1)))) (last : f (g N) = some (.inr r)) (hN : N < 2000) : it f fu (g 0) = some r := by
  obtain ⟨r', h1, h2⟩ := it_for (f := f) (fun i s => s = g i) (fun r' => r' = r) N (g 0) rfl (fun i s hi hs => Or.inl ⟨g (i + 1), by rw [hs]; exact step i hi, rfl⟩) (fun s hs => ⟨r, by rw [hs]; exact last, rfl⟩) hN
  rw [h1, h2]
theorem bd {α β : Type} (a : α) (f : α → Option β) : (some a).bind f = f a := rfl
/-! ===== 'it comes to an answer, and of it holds ..' ===== -/
def OkS {α : Type} (x : Option α) (P : α → Prop) : Prop := ∃ y, x = some y ∧ P y
theorem ok_some {α : Type} {y : α} {P : α → Prop} (h : P y) : OkS (some y) P := ⟨y, rfl, h⟩
theorem ok_bind {α β : Type} {x : Option α} {f : α → Option β} {Q : α → Prop} {P : β → Prop} (h : OkS x Q) (k : ∀ y, Q y → OkS (f y) P) : OkS (x.bind f) P := by
  obtain ⟨y, rfl, hy⟩ := h
  exact k y hy
theorem ok_bindE {α β : Type} {x : Option α} {f : α → Option β} {y : α} {P : β → Prop} (h : x = some y) (k : OkS (f y) P) : OkS (x.bind f) P := by
  rw [h]
  exact k
theorem ok_ck {α : Type} {i n : Nat} {k : Option α} {P : α → Prop} (h : i < n) (hn : i < 2147483648) (hk : OkS k P) : OkS (ck (nI i) n k) P := by
  rw [ck_nI h hn]
  exact hk
theorem ok_if {α : Type} {c : Prop} [Decidable c] {a b : Option α} {P : α → Prop} (h1 : c → OkS a P) (h2 : ¬ c → OkS b P) : OkS (if c then a else b) P := by
  by_cases h : c
  · rw [if_pos h]; exact h1 h
  · rw [if_neg h]; exact h2 h
theorem ok_mono {α : Type} {x : Option α} {P Q : α → Prop} (h : OkS x P) (k : ∀ y, P y → Q y) : OkS x Q := by
  obtain ⟨y, h1, h2⟩ := h
  exact ⟨y, h1, k y h2⟩
theorem ok_l {α β : Type} {s : α} {J : α → Prop} {P : β → Prop} (h : J s) : OkS (some (Sum.inl s : α ⊕ β)) (Sum.elim J P) := ⟨_, rfl, h⟩
theorem ok_r {α β : Type} {r : β} {J : α → Prop} {P : β → Prop} (h : P r) : OkS (some (Sum.inr r : α ⊕ β)) (Sum.elim J P) := ⟨_, rfl, h⟩
theorem ok_for {σ ρ : Type} {f : σ → Option (σ ⊕ ρ)} (I : Nat → σ → Prop) {Post : ρ → Prop} (N : Nat) {s : σ} (h0 : I 0 s) (step : ∀ i s, i < N → I i s → OkS (f s) (Sum.elim (I (i + 1)) Post)) (last : ∀ s, I N s → OkS (f s) (Sum.elim (fun _ => False) Post)) (hN : N < 2000) : OkS (it f fu s) Post := by
  refine it_for I Post N s h0 (fun i s hi hI => ?_) (fun s hI => ?_) hN
  · obtain ⟨y, h1, h2⟩ := step i s hi hI
    cases y with
    | inl s' => exact Or.inl ⟨s', h1, h2⟩
    | inr r => exact Or.inr ⟨r, h1, h2⟩
  · obtain ⟨y, h1, h2⟩ := last s hI
    cases y with
    | inl s' => exact absurd h2 (fun h => h)
    | inr r => exact ⟨r, h1, h2⟩
