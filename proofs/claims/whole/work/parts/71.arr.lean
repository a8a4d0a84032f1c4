/-! ===== the order of the bibliography: every work has a number, its place is how many lie below ===== -/
def cnt (p : Nat → Bool) : Nat → Nat
  | 0 => 0
  | n + 1 => cnt p n + (if p n = true then 1 else 0)
theorem cnt_s (p : Nat → Bool) (n : Nat) : cnt p (n + 1) = cnt p n + (if p n = true then 1 else 0) := rfl
theorem cnt_le (p : Nat → Bool) : ∀ n, cnt p n ≤ n := by
  intro n
  induction n with
  | zero => exact Nat.le_refl 0
  | succ n ih => rw [cnt_s]; split <;> omega
theorem cnt_lt {p : Nat → Bool} {w : Nat} (h : p w = false) : ∀ n, w < n → cnt p n < n := by
  intro n
  induction n with
  | zero => intro hw; omega
  | succ n ih =>
    intro hw
    rw [cnt_s]
    by_cases e : w = n
    · subst e
      have := cnt_le p w
      rw [if_neg (by rw [h]; decide)]
      omega
    · have := ih (by omega)
      split <;> omega
theorem cnt_mono {p q : Nat → Bool} : ∀ n, (∀ i, i < n → p i = true → q i = true) → cnt p n ≤ cnt q n := by
  intro n
  induction n with
  | zero => intro _; exact Nat.le_refl 0
  | succ n ih =>
    intro h
    have h1 := ih (fun i hi => h i (by omega))
    have h2 := h n (by omega)
    rw [cnt_s, cnt_s]
    by_cases e : p n = true
    · rw [if_pos e, if_pos (h2 e)]; omega
    · rw [if_neg e]; split <;> omega
theorem cnt_strict {p q : Nat → Bool} {v : Nat} (h1 : p v = false) (h2 : q v = true) : ∀ n, v < n → (∀ i, i < n → p i = true → q i = true) → cnt p n < cnt q n := by
  intro n
  induction n with
  | zero => intro hv; omega
  | succ n ih =>
    intro hv h
    rw [cnt_s, cnt_s]
    by_cases e : v = n
    · subst e
      have := cnt_mono v (fun i hi => h i (by omega))
      rw [if_neg (by rw [h1]; decide), if_pos h2]
      omega
    · have h3 := ih (by omega) (fun i hi => h i (by omega))
      by_cases e : p n = true
      · rw [if_pos e, if_pos (h n (by omega) e)]; omega
      · rw [if_neg e]; split <;> omega
theorem cnt_cg {p q : Nat → Bool} : ∀ n, (∀ i, i < n → p i = q i) → cnt p n = cnt q n := by
  intro n
  induction n with
  | zero => intro _; rfl
  | succ n ih =>
    intro h
    rw [cnt_s, cnt_s, ih (fun i hi => h i (by omega)), h n (by omega)]
theorem cnt_up {p q : Nat → Bool} {w : Nat} (h1 : p w = false) (h2 : q w = true) : ∀ n, w < n → (∀ i, i < n → i ≠ w → q i = p i) → cnt q n = cnt p n + 1 := by
  intro n
  induction n with
  | zero => intro hv; omega
  | succ n ih =>
    intro hv h
    rw [cnt_s, cnt_s]
    by_cases e : w = n
    · subst e
      rw [cnt_cg w (fun i hi => h i (by omega) (by omega)), if_pos h2, if_neg (by rw [h1]; decide)]
    · rw [ih (by omega) (fun i hi => h i (by omega)), h n (by omega) (by omega)]
      split <;> omega
theorem cnt_full {p : Nat → Bool} : ∀ n, (∀ i, i < n → p i = true) → cnt p n = n := by
  intro n
  induction n with
  | zero => intro _; rfl
  | succ n ih => intro h; rw [cnt_s, ih (fun i hi => h i (by omega)), if_pos (h n (by omega))]
theorem pigeon : ∀ (n : Nat) (f : Nat → Nat), (∀ i, i < n → f i < n) → (∀ i j, i < n → j < n → f i = f j → i = j) → ∀ p, p < n → ∃ i, i < n ∧ f i = p := by
  intro n
  induction n with
  | zero => intro f _ _ p hp; omega
  | succ n ih =>
    intro f h1 h2 p hp
    by_cases em : p = f n
    · exact ⟨n, by omega, em.symm⟩
    have hg := ih (fun i => if f i = n then f n else f i) (fun i hi => by
      have a1 := h1 i (by omega)
      have a2 := h1 n (by omega)
      split
      · next e => have := fun e' => h2 i n (by omega) (by omega) (e.trans e'); by_cases e' : f n = n
                  · exact absurd (this e'.symm) (by omega)
                  · omega
      · omega) (fun i j hi hj e => by
      have b1 := h2 i j (by omega) (by omega)
      have b2 := h2 i n (by omega) (by omega)
      have b3 := h2 j n (by omega) (by omega)
      split at e <;> split at e
      · next e1 e2 => exact b1 (e1.trans e2.symm)
      · next e1 e2 => exact absurd (b3 e.symm) (by omega)
      · next e1 e2 => exact absurd (b2 e) (by omega)
      · exact b1 e)
    by_cases en : p = n
    · obtain ⟨i, hi, e⟩ := hg (f n) (by have := h1 n (by omega); omega)
      split at e
      · next e1 => exact ⟨i, by omega, by omega⟩
      · exact absurd (h2 i n (by omega) (by omega) e) (by omega)
    · obtain ⟨i, hi, e⟩ := hg p (by omega)
      split at e
      · exact absurd e (by omega)
      · exact ⟨i, by omega, e⟩
/-- the letters of an author as a figure; the authors of a work as a number; what a slot sorts by; the whole -/
def dg (a : Nat → Nat) (w k : Nat) : Nat := if k < a (1 + 7 * w) then a (2 + 7 * w + k) + 1 else 0
def kA (a : Nat → Nat) (w : Nat) : Nat := ((dg a w 0 * 677 + dg a w 1) * 677 + dg a w 2) * 677 + dg a w 3
def kS (a : Nat → Nat) (j w : Nat) : Nat := if a (64 + 2 * j) = 1 then kA a w else if a (64 + 2 * j) = 2 then a (6 + 7 * w) else if a (64 + 2 * j) = 3 then a (7 + 7 * w) else 0
def kD (a : Nat → Nat) (j w : Nat) : Nat := if a (65 + 2 * j) = 1 then 210065472241 - kS a j w else kS a j w
def KK2 (a : Nat → Nat) (w : Nat) : Nat := ((kD a 0 w * 210065472242 + kD a 1 w) * 210065472242 + kD a 2 w) * 8 + w
theorem dg_le {a : Nat → Nat} (ho : OkW a) {w : Nat} (hw : w < a 0) (k : Nat) : dg a w k ≤ 676 := by
  unfold dg
  split
  · next h => have := (ho.2 w hw).2.1 k h; omega
  · omega
theorem kA_lt {a : Nat → Nat} (ho : OkW a) {v w i : Nat} (hv : v < a 0) (hw : w < a 0) (hi : i < 4) (he : ∀ k, k < i → dg a v k = dg a w k) (hl : dg a v i < dg a w i) : kA a v < kA a w := by
  have v0 := dg_le ho hv 0
  have v1 := dg_le ho hv 1
  have v2 := dg_le ho hv 2
  have v3 := dg_le ho hv 3
  have w0 := dg_le ho hw 0
  have w1 := dg_le ho hw 1
  have w2 := dg_le ho hw 2
  have w3 := dg_le ho hw 3
  unfold kA
  rcases (show i = 0 ∨ i = 1 ∨ i = 2 ∨ i = 3 by omega) with rfl | rfl | rfl | rfl
  · omega
  · have := he 0 (by omega); omega
  · have := he 0 (by omega); have := he 1 (by omega); omega
  · have := he 0 (by omega); have := he 1 (by omega); have := he 2 (by omega); omega
theorem kS_le {a : Nat → Nat} (ho : OkW a) {w : Nat} (hw : w < a 0) (j : Nat) : kS a j w ≤ 210065472241 := by
  have w0 := dg_le ho hw 0
  have w1 := dg_le ho hw 1
  have w2 := dg_le ho hw 2
  have w3 := dg_le ho hw 3
  have := ho.2 w hw
  unfold kS
  split
  · unfold kA; omega
  · split
    · omega
    · split <;> omega
theorem kD_le {a : Nat → Nat} (ho : OkW a) {w : Nat} (hw : w < a 0) (j : Nat) : kD a j w ≤ 210065472241 := by
  have := kS_le ho hw j
  unfold kD
  split <;> omega
theorem K_lt {a : Nat → Nat} (ho : OkW a) {v w j : Nat} (hv : v < a 0) (hw : w < a 0) (hj : j < 3) (he : ∀ k, k < j → kD a k v = kD a k w) (hl : kD a j v < kD a j w) : KK2 a v < KK2 a w := by
  have h8 := ho.1
  have v0 := kD_le ho hv 0
  have v1 := kD_le ho hv 1
  have v2 := kD_le ho hv 2
  have w0 := kD_le ho hw 0
  have w1 := kD_le ho hw 1
  have w2 := kD_le ho hw 2
  unfold KK2
  rcases (show j = 0 ∨ j = 1 ∨ j = 2 by omega) with rfl | rfl | rfl
  · omega
  · have := he 0 (by omega); omega
  · have := he 0 (by omega); have := he 1 (by omega); omega
theorem K_eq {a : Nat → Nat} {v w : Nat} (he : ∀ k, k < 3 → kD a k v = kD a k w) : KK2 a v < KK2 a w ↔ v < w := by
  have h0 := he 0 (by omega)
  have h1 := he 1 (by omega)
  have h2 := he 2 (by omega)
  unfold KK2
  omega
theorem K_inj {a : Nat → Nat} (ho : OkW a) {v w : Nat} (hv : v < a 0) (hw : w < a 0) (h : KK2 a v = KK2 a w) : v = w := by
  have := ho.1
  unfold KK2 at h
  omega
/-- the sign of a difference -/
def Sg (r : Int32) (x y : Nat) : Prop := (-1000 ≤ r.toInt ∧ r.toInt ≤ 1000) ∧ (r.toInt < 0 ↔ x < y) ∧ (0 < r.toInt ↔ y < x)
theorem sub_toInt {p q : Nat} (hp : p ≤ 1000) (hq : q ≤ 1000) : (nI p - nI q).toInt = (p : Int) - q := by
  rw [Int32.toInt_sub, nI_toI (by omega), nI_toI (by omega), Int.bmod_eq_of_le (by omega) (by omega)]
theorem sg_sub {p q x y : Nat} (hp : p ≤ 1000) (hq : q ≤ 1000) (h1 : p < q ↔ x < y) (h2 : q < p ↔ y < x) : Sg (nI p - nI q) x y := by
  unfold Sg
  rw [sub_toInt hp hq]
  refine ⟨by omega, ?_, ?_⟩
  · rw [← h1]; omega
  · rw [← h2]; omega
theorem Sg_0 {r : Int32} {x y : Nat} (h : Sg r x y) : r = 0 ↔ x = y := by
  obtain ⟨_, h2, h3⟩ := h
  constructor
  · intro e
    subst e
    have : (0 : Int32).toInt = 0 := rfl
    omega
  · intro e
    apply i32_ext
    have : (0 : Int32).toInt = 0 := rfl
    omega
theorem dg_eq {a : Nat → Nat} {v w k : Nat} (h1 : k < a (1 + 7 * v)) (h2 : k < a (1 + 7 * w)) (h : a (2 + 7 * v + k) = a (2 + 7 * w + k)) : dg a v k = dg a w k := by
  unfold dg
  rw [if_pos h1, if_pos h2, h]
theorem sgA {a : Nat → Nat} (ho : OkW a) {v w i p q : Nat} (hv : v < a 0) (hw : w < a 0) (h1 : i < a (1 + 7 * v)) (h2 : i < a (1 + 7 * w)) (he : ∀ k, k < i → a (2 + 7 * v + k) = a (2 + 7 * w + k)) (hp : p ≤ 1000) (hq : q ≤ 1000) (hne : p ≠ q) (hl : p < q → a (2 + 7 * v + i) < a (2 + 7 * w + i)) (hg : q < p → a (2 + 7 * w + i) < a (2 + 7 * v + i)) : Sg (nI p - nI q) (kA a v) (kA a w) := by
  have c1 := (ho.2 v hv).1
  have c2 := (ho.2 w hw).1
  have hd : ∀ k, k < i → dg a v k = dg a w k := fun k hk => dg_eq (by omega) (by omega) (he k hk)
  have dv : dg a v i = a (2 + 7 * v + i) + 1 := by unfold dg; rw [if_pos h1]
  have dw : dg a w i = a (2 + 7 * w + i) + 1 := by unfold dg; rw [if_pos h2]
  rcases Nat.lt_or_gt_of_ne hne with h | h
  · have := kA_lt ho hv hw (by omega) hd (by have := hl h; omega)
    exact sg_sub hp hq (by omega) (by omega)
  · have := kA_lt ho hw hv (by omega) (fun k hk => (hd k hk).symm) (by have := hg h; omega)
    exact sg_sub hp hq (by omega) (by omega)
theorem sgL {a : Nat → Nat} (ho : OkW a) {v w : Nat} (hv : v < a 0) (hw : w < a 0) (he : ∀ k, k < min (a (1 + 7 * v)) (a (1 + 7 * w)) → a (2 + 7 * v + k) = a (2 + 7 * w + k)) : Sg (nI (a (1 + 7 * v)) - nI (a (1 + 7 * w))) (kA a v) (kA a w) := by
  have c1 := (ho.2 v hv).1
  have c2 := (ho.2 w hw).1
  rcases Nat.lt_trichotomy (a (1 + 7 * v)) (a (1 + 7 * w)) with h | h | h
  · have := kA_lt ho hv hw (i := a (1 + 7 * v)) (by omega) (fun k hk => dg_eq hk (by omega) (he k (by omega))) (by unfold dg; rw [if_neg (by omega), if_pos h]; omega)
    exact sg_sub (by omega) (by omega) (by omega) (by omega)
  · have hd : ∀ k, dg a v k = dg a w k := by
      intro k
      by_cases e : k < a (1 + 7 * v)
      · exact dg_eq e (by omega) (he k (by omega))
      · unfold dg; rw [if_neg e, if_neg (by omega)]
    have : kA a v = kA a w := by unfold kA; rw [hd 0, hd 1, hd 2, hd 3]
    exact sg_sub (by omega) (by omega) (by omega) (by omega)
  · have := kA_lt ho hw hv (i := a (1 + 7 * w)) (by omega) (fun k hk => dg_eq hk (by omega) (he k (by omega)).symm) (by unfold dg; rw [if_neg (by omega), if_pos h]; omega)
    exact sg_sub (by omega) (by omega) (by omega) (by omega)
theorem authC_ok {W_n : Int32} {W_ac W_fa W_in W_yr W_ti : Nat → Int32} {a : Nat → Nat} (ho : OkW a) (r1 : RW W_n W_ac W_fa W_in W_yr W_ti a) {v w : Nat} (hv : v < a 0) (hw : w < a 0) : OkS (m_X9_compareAuthors W_ac W_fa W_in (nI v) (nI w)) (fun r => Sg r (kA a v) (kA a w)) := by
  have h8 := ho.1
  obtain ⟨v1, v2, v3, v4⟩ := r1.2 v hv
  obtain ⟨w1, w2, w3, w4⟩ := r1.2 w hw
  obtain ⟨p1, p2, p3, p4⟩ := ho.2 v hv
  obtain ⟨q1, q2, q3, q4⟩ := ho.2 w hw
  unfold m_X9_compareAuthors
  refine ok_bind (Q := fun r => Sum.elim (fun z => ∃ i, i < a (1 + 7 * v) ∧ i < a (1 + 7 * w) ∧ (∀ k, k < i → a (2 + 7 * v + k) = a (2 + 7 * w + k)) ∧ z.1 = nI (4 * v + i) ∧ z.2 = nI (4 * w + i) ∧ a (2 + 7 * v + i) / 26 ≠ a (2 + 7 * w + i) / 26) (Sum.elim (fun z => ∃ i, i < a (1 + 7 * v) ∧ i < a (1 + 7 * w) ∧ (∀ k, k < i → a (2 + 7 * v + k) = a (2 + 7 * w + k)) ∧ z.1 = nI (4 * v + i) ∧ z.2 = nI (4 * w + i) ∧ a (2 + 7 * v + i) / 26 = a (2 + 7 * w + i) / 26 ∧ a (2 + 7 * v + i) % 26 ≠ a (2 + 7 * w + i) % 26) (fun _ => ∀ k, k < min (a (1 + 7 * v)) (a (1 + 7 * w)) → a (2 + 7 * v + k) = a (2 + 7 * w + k))) r) ?_ ?_
  · refine ok_for (fun i st => st = nI i ∧ ∀ k, k < i → a (2 + 7 * v + k) = a (2 + 7 * w + k)) (min (a (1 + 7 * v)) (a (1 + 7 * w))) ⟨rfl, fun k hk => absurd hk (by omega)⟩ ?_ ?_ (by omega)
    · rintro i st hi ⟨e1, e2⟩
      subst e1
      have a1 := v2 i (by omega)
      have a2 := w2 i (by omega)
      have a3 := p2 i (by omega)
      have a4 := q2 i (by omega)
      rw [Nat.mul_comm 4 v] at a1
      rw [Nat.mul_comm 4 w] at a2
      unfold m_X9_compareAuthors_B2
      simp (disch := omega) only [lit32, nI_mul, nI_add, ck_nI, tn_nI, v1, w1, nI_le_iff, a1.1, a1.2, a2.1, a2.2, nI_eq_iff]
      rw [if_neg (by omega), if_neg (by omega)]
      refine ok_if (fun c1 => ok_if (fun c2 => ?_) (fun c2 => ?_)) (fun c1 => ?_)
      · refine ok_l ⟨rfl, fun k hk => ?_⟩
        by_cases e : k = i
        · subst e; omega
        · exact e2 k (by omega)
      · exact ok_r ⟨i, by omega, by omega, e2, by dsimp only; rw [Nat.mul_comm], by dsimp only; rw [Nat.mul_comm], by omega, by omega⟩
      · exact ok_r ⟨i, by omega, by omega, e2, by dsimp only; rw [Nat.mul_comm], by dsimp only; rw [Nat.mul_comm], by omega⟩
    · rintro st ⟨e1, e2⟩
      subst e1
      unfold m_X9_compareAuthors_B2
      simp (disch := omega) only [ck_nI, tn_nI, v1, w1, nI_le_iff]
      by_cases e : a (1 + 7 * v) ≤ min (a (1 + 7 * v)) (a (1 + 7 * w))
      · rw [if_pos e]; exact ok_r e2
      · rw [if_neg e, if_pos (by omega)]; exact ok_r e2
  · rintro (⟨z1, z2⟩ | ⟨z1, z2⟩ | _) h
    · obtain ⟨i, i1, i2, i3, i4, i5, i6⟩ := h
      dsimp only at i4 i5
      subst i4 i5
      have a1 := v2 i (by omega)
      have a2 := w2 i (by omega)
      have a3 := p2 i (by omega)
      have a4 := q2 i (by omega)
      simp (disch := omega) only [Sum.elim_inl, ck_nI, tn_nI, a1.1, a2.1]
      exact ok_some (sgA ho hv hw i1 i2 i3 (by omega) (by omega) (by omega) (by omega) (by omega))
    · obtain ⟨i, i1, i2, i3, i4, i5, i6, i7⟩ := h
      dsimp only at i4 i5
      subst i4 i5
      have a1 := v2 i (by omega)
      have a2 := w2 i (by omega)
      have a3 := p2 i (by omega)
      have a4 := q2 i (by omega)
      simp (disch := omega) only [Sum.elim_inl, Sum.elim_inr, ck_nI, tn_nI, a1.2, a2.2]
      exact ok_some (sgA ho hv hw i1 i2 i3 (by omega) (by omega) (by omega) (by omega) (by omega))
    · simp (disch := omega) only [Sum.elim_inr, ck_nI, tn_nI, v1, w1]
      exact ok_some (sgL ho hv hw h)
