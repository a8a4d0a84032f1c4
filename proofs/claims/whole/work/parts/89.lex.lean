/-! ===== the lexemes of a text ===== -/
def TX (n : Nat) (c : Nat → Nat) (T_co M_te : Nat → Int32) : Prop := n ≤ 150 ∧ ∀ i, i < n → c i ≤ 255 ∧ T_co i = nI (c i) ∧ M_te i = nI (c i)
def kd (n : Nat) (c : Nat → Nat) (i : Nat) : Nat := if i < n then (if 97 ≤ c i ∧ c i ≤ 122 then 1 else if 65 ≤ c i ∧ c i ≤ 90 then 2 else if 48 ≤ c i ∧ c i ≤ 57 then 3 else 0) else 0
theorem kd_le (n : Nat) (c : Nat → Nat) (i : Nat) : kd n c i ≤ 3 := by
  unfold kd
  split
  · split
    · omega
    · split
      · omega
      · split <;> omega
  · omega
theorem kd_1 {n : Nat} {c : Nat → Nat} {i : Nat} : kd n c i = 1 ↔ i < n ∧ 97 ≤ c i ∧ c i ≤ 122 := by
  unfold kd
  split
  · split
    · omega
    · split
      · omega
      · split <;> omega
  · omega
theorem kd_2 {n : Nat} {c : Nat → Nat} {i : Nat} : kd n c i = 2 ↔ i < n ∧ 65 ≤ c i ∧ c i ≤ 90 := by
  unfold kd
  split
  · split
    · omega
    · split
      · omega
      · split <;> omega
  · omega
theorem kd_3 {n : Nat} {c : Nat → Nat} {i : Nat} : kd n c i = 3 ↔ i < n ∧ 48 ≤ c i ∧ c i ≤ 57 := by
  unfold kd
  split
  · split
    · omega
    · split
      · omega
      · split <;> omega
  · omega
theorem rngN (x l u : Nat) (hx : x < 2147483648) (hl : l < 2147483648) (hu : u < 2147483648) : m_X11_inRange (nI x) (nI l) (nI u) = some (if l ≤ x ∧ x ≤ u then 1 else 0) := by
  rw [rng_eq, nI_toI hx, nI_toI hl, nI_toI hu]
  by_cases e : l ≤ x ∧ x ≤ u
  · rw [if_pos e, if_pos (by omega)]
  · rw [if_neg e, if_neg (by omega)]
theorem kind_ok {n : Nat} {c : Nat → Nat} {T_co M_te : Nat → Int32} (h : TX n c T_co M_te) {i : Nat} (hi : i < 1000) : m_X8_kindAt T_co (nI n) (nI i) = some (nI (kd n c i)) := by
  have hn := h.1
  unfold m_X8_kindAt m_X8_kindAt_J59 kd
  by_cases e : i < n
  · obtain ⟨c1, c2, c3⟩ := h.2 i e
    rw [if_pos (by rw [nI_lt_iff (by omega) (by omega)]; exact e), if_pos e, ck_nI (by omega) (by omega), tn_nI (by omega), c2, show (97 : Int32) = nI 97 from rfl, show (122 : Int32) = nI 122 from rfl, rngN _ _ _ (by omega) (by omega) (by omega), bd, show (65 : Int32) = nI 65 from rfl, show (90 : Int32) = nI 90 from rfl, rngN _ _ _ (by omega) (by omega) (by omega), bd, show (48 : Int32) = nI 48 from rfl, show (57 : Int32) = nI 57 from rfl, rngN _ _ _ (by omega) (by omega) (by omega), bd]
    by_cases e1 : 97 ≤ c i ∧ c i ≤ 122
    · rw [if_pos e1, if_pos e1, if_neg one0]; rfl
    · rw [if_neg e1, if_neg e1, if_pos rfl]
      by_cases e2 : 65 ≤ c i ∧ c i ≤ 90
      · rw [if_pos e2, if_pos e2, if_neg one0]; rfl
      · rw [if_neg e2, if_neg e2, if_pos rfl]
        by_cases e3 : 48 ≤ c i ∧ c i ≤ 57
        · rw [if_pos e3, if_pos e3, if_neg one0]; rfl
        · rw [if_neg e3, if_neg e3, if_pos rfl]; rfl
  · rw [if_neg (by rw [nI_lt_iff (by omega) (by omega)]; exact e), if_neg e]; rfl
theorem letter_ok {n : Nat} {c : Nat → Nat} {T_co M_te : Nat → Int32} (h : TX n c T_co M_te) {i : Nat} (hi : i < 1000) : m_X12_letterAt M_te (nI n) (nI i) = some (if i < n then nI (c i) else -1) := by
  have hn := h.1
  unfold m_X12_letterAt m_X12_letterAt_J18
  by_cases e : i < n
  · rw [if_neg (by rw [nI_le_iff (by omega) (by omega)]; omega), if_pos e, ck_nI (by omega) (by omega), tn_nI (by omega), (h.2 i e).2.2]
  · rw [if_pos (by rw [nI_le_iff (by omega) (by omega)]; omega), if_neg e]
theorem inL {n : Nat} {c : Nat → Nat} {T_co M_te : Nat → Int32} (h : TX n c T_co M_te) {i : Nat} (l u : Nat) (hl : l < 1000) (hu : u < 1000) : m_X12_in (Int32.toInt64 (if i < n then nI (c i) else -1)) (lN l) (lN u) = some (if i < n ∧ l ≤ c i ∧ c i ≤ u then 1 else 0) := by
  rw [in_eq, Int32.toInt_toInt64, lN_toInt (by omega), lN_toInt (by omega)]
  by_cases e : i < n
  · have := (h.2 i e).1
    rw [if_pos e, nI_toI (by omega)]
    by_cases e1 : l ≤ c i ∧ c i ≤ u
    · rw [if_pos (show (l : Int) ≤ (c i : Int) ∧ (c i : Int) ≤ (u : Int) by omega), if_pos (show i < n ∧ l ≤ c i ∧ c i ≤ u from ⟨e, e1⟩)]
    · rw [if_neg (show ¬ ((l : Int) ≤ (c i : Int) ∧ (c i : Int) ≤ (u : Int)) by omega), if_neg (show ¬ (i < n ∧ l ≤ c i ∧ c i ≤ u) from fun h => e1 h.2)]
  · rw [if_neg e, show (-1 : Int32).toInt = -1 from rfl, if_neg (show ¬ ((l : Int) ≤ -1 ∧ -1 ≤ (u : Int)) by omega), if_neg (show ¬ (i < n ∧ l ≤ c i ∧ c i ≤ u) from fun h => e h.1)]
theorem ckb_if {P : Prop} [Decidable P] {α : Type} {k : Option α} : ckb (if P then 1 else 0) k = k := by
  split
  · exact ckb_1
  · exact ckb_0
theorem if_iff {P Q : Prop} [Decidable P] [Decidable Q] {x y : Int32} (h : P ↔ Q) : (if P then x else y) = (if Q then x else y) := by
  by_cases e : P
  · rw [if_pos e, if_pos (h.mp e)]
  · rw [if_neg e, if_neg (fun q => e (h.mpr q))]
theorem low_ok {n : Nat} {c : Nat → Nat} {T_co M_te : Nat → Int32} (h : TX n c T_co M_te) {i : Nat} (hi : i < 1000) : m_X12_isLow M_te (nI n) (nI i) = some (if kd n c i = 1 then 1 else 0) := by
  unfold m_X12_isLow
  rw [letter_ok h hi, bd, show (97 : Int64) = lN 97 from rfl, show (122 : Int64) = lN 122 from rfl, inL h 97 122 (by omega) (by omega), bd, ckb_if, if_iff kd_1]
theorem fig_ok {n : Nat} {c : Nat → Nat} {T_co M_te : Nat → Int32} (h : TX n c T_co M_te) {i : Nat} (hi : i < 1000) : m_X12_isFigure M_te (nI n) (nI i) = some (if kd n c i = 3 then 1 else 0) := by
  unfold m_X12_isFigure
  rw [letter_ok h hi, bd, show (48 : Int64) = lN 48 from rfl, show (57 : Int64) = lN 57 from rfl, inL h 48 57 (by omega) (by omega), bd, ckb_if, if_iff kd_3]
theorem runL {n : Nat} {c : Nat → Nat} {T_co M_te : Nat → Int32} (h : TX n c T_co M_te) {b : Nat} (hb : b < n) (hk : kd n c b = 1) : ∃ m, 1 ≤ m ∧ b + m ≤ n ∧ it (m_X8_lexemeEnd_B38 (nI 1) T_co (nI n)) fu (nI (b + 1)) = some (nI (b + m)) ∧ it (m_X12_nextLexeme_B80 M_te (nI n) (nI b)) fu 1 = some (nI m) ∧ ∀ i, i < m → kd n c (b + i) = 1 := by
  have hn := h.1
  have lock : Ok2 (it (m_X8_lexemeEnd_B38 (nI 1) T_co (nI n)) fu (nI (b + 1))) (it (m_X12_nextLexeme_B80 M_te (nI n) (nI b)) fu 1) (fun u v => ∃ m, 1 ≤ m ∧ b + m ≤ n ∧ u = nI (b + m) ∧ v = nI m ∧ ∀ i, i < m → kd n c (b + i) = 1) := by
    refine ok2_for (fun t st tt => st = nI (b + 1 + t) ∧ tt = nI (1 + t) ∧ ∀ i, i < 1 + t → kd n c (b + i) = 1) (n - b - 1) ⟨rfl, rfl, fun i hi => by rw [show i = 0 by omega]; exact hk⟩ ?_ ?_ (by omega)
    · rintro t st tt ht ⟨rfl, rfl, e3⟩
      unfold m_X8_lexemeEnd_B38 m_X12_nextLexeme_B80
      rw [if_neg (by rw [nI_le_iff (by omega) (by omega)]; omega), kind_ok h (by omega), bd, nI_add, low_ok h (by omega), bd, show b + (1 + t) = b + 1 + t by omega, nI_s, nI_s]
      have hkl := kd_le n c (b + 1 + t)
      by_cases e : kd n c (b + 1 + t) = 1
      · rw [if_pos (show nI (kd n c (b + 1 + t)) = nI 1 by rw [e]), if_pos e, if_neg one0]
        refine ok2_il ⟨rfl, rfl, fun i hi => ?_⟩
        by_cases ei : i = 1 + t
        · rw [ei, show b + (1 + t) = b + 1 + t by omega]; exact e
        · exact e3 i (by omega)
      · rw [if_neg (show ¬ (nI (kd n c (b + 1 + t)) = nI 1) by rw [nI_eq_iff (by omega) (by omega)]; exact e), if_neg e, if_pos rfl]
        exact ok2_ir ⟨1 + t, by omega, by omega, by rw [show b + (1 + t) = b + 1 + t by omega], rfl, e3⟩
    · rintro st tt ⟨rfl, rfl, e3⟩
      unfold m_X8_lexemeEnd_B38 m_X12_nextLexeme_B80
      rw [if_pos (by rw [nI_le_iff (by omega) (by omega)]; omega), nI_add, low_ok h (by omega), bd, if_neg (show ¬ (kd n c (b + (1 + (n - b - 1))) = 1) by unfold kd; rw [if_neg (by omega)]; omega), if_pos rfl]
      exact ok2_ir ⟨1 + (n - b - 1), by omega, by omega, by rw [show b + (1 + (n - b - 1)) = b + 1 + (n - b - 1) by omega], rfl, e3⟩
  obtain ⟨u, v, h1, h2, m, m1, m2, rfl, rfl, m3⟩ := lock
  exact ⟨m, m1, m2, h1, h2, m3⟩
theorem runF {n : Nat} {c : Nat → Nat} {T_co M_te : Nat → Int32} (h : TX n c T_co M_te) {b : Nat} (hb : b < n) (hk : kd n c b = 3) : ∃ m, 1 ≤ m ∧ b + m ≤ n ∧ it (m_X8_lexemeEnd_B38 (nI 3) T_co (nI n)) fu (nI (b + 1)) = some (nI (b + m)) ∧ it (m_X12_nextLexeme_B125 M_te (nI n) (nI b)) fu 1 = some (nI m) ∧ ∀ i, i < m → kd n c (b + i) = 3 := by
  have hn := h.1
  have lock : Ok2 (it (m_X8_lexemeEnd_B38 (nI 3) T_co (nI n)) fu (nI (b + 1))) (it (m_X12_nextLexeme_B125 M_te (nI n) (nI b)) fu 1) (fun u v => ∃ m, 1 ≤ m ∧ b + m ≤ n ∧ u = nI (b + m) ∧ v = nI m ∧ ∀ i, i < m → kd n c (b + i) = 3) := by
    refine ok2_for (fun t st tt => st = nI (b + 1 + t) ∧ tt = nI (1 + t) ∧ ∀ i, i < 1 + t → kd n c (b + i) = 3) (n - b - 1) ⟨rfl, rfl, fun i hi => by rw [show i = 0 by omega]; exact hk⟩ ?_ ?_ (by omega)
    · rintro t st tt ht ⟨rfl, rfl, e3⟩
      unfold m_X8_lexemeEnd_B38 m_X12_nextLexeme_B125
      rw [if_neg (by rw [nI_le_iff (by omega) (by omega)]; omega), kind_ok h (by omega), bd, nI_add, fig_ok h (by omega), bd, show b + (1 + t) = b + 1 + t by omega, nI_s, nI_s]
      have hkl := kd_le n c (b + 1 + t)
      by_cases e : kd n c (b + 1 + t) = 3
      · rw [if_pos (show nI (kd n c (b + 1 + t)) = nI 3 by rw [e]), if_pos e, if_neg one0]
        refine ok2_il ⟨rfl, rfl, fun i hi => ?_⟩
        by_cases ei : i = 1 + t
        · rw [ei, show b + (1 + t) = b + 1 + t by omega]; exact e
        · exact e3 i (by omega)
      · rw [if_neg (show ¬ (nI (kd n c (b + 1 + t)) = nI 3) by rw [nI_eq_iff (by omega) (by omega)]; exact e), if_neg e, if_pos rfl]
        exact ok2_ir ⟨1 + t, by omega, by omega, by rw [show b + (1 + t) = b + 1 + t by omega], rfl, e3⟩
    · rintro st tt ⟨rfl, rfl, e3⟩
      unfold m_X8_lexemeEnd_B38 m_X12_nextLexeme_B125
      rw [if_pos (by rw [nI_le_iff (by omega) (by omega)]; omega), nI_add, fig_ok h (by omega), bd, if_neg (show ¬ (kd n c (b + (1 + (n - b - 1))) = 3) by unfold kd; rw [if_neg (by omega)]; omega), if_pos rfl]
      exact ok2_ir ⟨1 + (n - b - 1), by omega, by omega, by rw [show b + (1 + (n - b - 1)) = b + 1 + (n - b - 1) by omega], rfl, e3⟩
  obtain ⟨u, v, h1, h2, m, m1, m2, rfl, rfl, m3⟩ := lock
  exact ⟨m, m1, m2, h1, h2, m3⟩
/-- a lexeme at b, m letters long, of sort s; or the end of the text -/
def LX (n : Nat) (c : Nat → Nat) (T_co : Nat → Int32) (b m s : Nat) : Prop := (b = n ∧ m = 0 ∧ s = 4) ∨ (b < n ∧ c b ≠ 32 ∧ 1 ≤ m ∧ b + m ≤ n ∧ m_X8_lexemeEnd T_co (nI n) (nI b) = some (nI (b + m)) ∧ s ≤ 4 ∧ (s = 1 ↔ kd n c b = 1) ∧ (s = 3 ↔ kd n c b = 3) ∧ (s = 2 ↔ kd n c b = 2 ∧ m = 2) ∧ (s = 2 → kd n c (b + 1) = 1) ∧ (s = 3 → ∀ i, i < m → kd n c (b + i) = 3))
theorem lex_at {n : Nat} {c : Nat → Nat} {T_co M_te : Nat → Int32} (h : TX n c T_co M_te) {b : Nat} (hb : b < n) (h32 : c b ≠ 32) (ma so : Int32) : ∃ m s, m_X12_nextLexeme_J56 1 M_te (nI n) (nI b) ma so = some (nI b, nI m, nI s) ∧ LX n c T_co b m s := by
  have hn := h.1
  have hkl := kd_le n c b
  have hc := h.2 b hb
  have up : m_X12_in (Int32.toInt64 (if b < n then nI (c b) else -1)) 65 90 = some (if kd n c b = 2 then 1 else 0) := by
    rw [show (65 : Int64) = lN 65 from rfl, show (90 : Int64) = lN 90 from rfl, inL h 65 90 (by omega) (by omega), if_iff kd_2]
  unfold m_X12_nextLexeme_J56 m_X12_nextLexeme_J198
  rw [low_ok h (by omega), bd, fig_ok h (by omega), bd, letter_ok h (by omega), bd, up, bd, show nI b + 1 = nI (b + 1) from nI_s b, low_ok h (by omega), bd]
  have le : ∀ k, kd n c b = k → m_X8_lexemeEnd T_co (nI n) (nI b) = (if nI k = 2 then (if nI (kd n c (b + 1)) = 1 then some (nI (b + 1) + 1) else some (nI (b + 1))) else if nI k = 0 then some (nI (b + 1)) else (it (m_X8_lexemeEnd_B38 (nI k) T_co (nI n)) fu (nI (b + 1))).bind fun e4 => some e4) := by
    intro k hk
    unfold m_X8_lexemeEnd m_X8_lexemeEnd_J31
    rw [kind_ok h (by omega), bd, nI_s, kind_ok h (by omega), bd, hk]
  rcases (show kd n c b = 0 ∨ kd n c b = 1 ∨ kd n c b = 2 ∨ kd n c b = 3 by omega) with e | e | e | e
  · rw [if_neg (show ¬ (kd n c b = 1) by omega), if_neg (show ¬ (kd n c b = 3) by omega), if_neg (show ¬ (kd n c b = 2) by omega), if_pos rfl, if_pos rfl, if_pos rfl]
    refine ⟨1, 4, rfl, Or.inr ⟨hb, h32, by omega, by omega, ?_, by omega, by omega, by omega, by omega, by omega, by omega⟩⟩
    rw [le 0 e]; rfl
  · rw [if_pos e, if_neg one0]
    obtain ⟨m, m1, m2, m3, m4, m5⟩ := runL h hb e
    rw [m4, bd]
    refine ⟨m, 1, rfl, Or.inr ⟨hb, h32, m1, m2, ?_, by omega, by omega, by omega, by omega, by omega, by omega⟩⟩
    rw [le 1 e, m3]; rfl
  · rw [if_neg (show ¬ (kd n c b = 1) by omega), if_neg (show ¬ (kd n c b = 3) by omega), if_pos e, if_pos rfl, if_pos rfl, if_neg one0]
    have hk1 := kd_le n c (b + 1)
    by_cases e1 : kd n c (b + 1) = 1
    · have hb1 := (kd_1.mp e1).1
      rw [if_pos e1, if_neg one0]
      refine ⟨2, 2, rfl, Or.inr ⟨hb, h32, by omega, by omega, ?_, by omega, by omega, by omega, by omega, fun _ => e1, by omega⟩⟩
      rw [le 2 e, e1, if_pos (by decide), if_pos (by decide), nI_s]
    · rw [if_neg e1, if_pos rfl]
      refine ⟨1, 4, rfl, Or.inr ⟨hb, h32, by omega, by omega, ?_, by omega, by omega, by omega, by omega, by omega, by omega⟩⟩
      rw [le 2 e, if_pos (by decide), if_neg (show ¬ (nI (kd n c (b + 1)) = 1) by rw [show (1 : Int32) = nI 1 from rfl, nI_eq_iff (by omega) (by omega)]; exact e1)]
  · rw [if_neg (show ¬ (kd n c b = 1) by omega), if_pos e, if_pos rfl, if_neg one0]
    obtain ⟨m, m1, m2, m3, m4, m5⟩ := runF h hb e
    rw [m4, bd]
    refine ⟨m, 3, rfl, Or.inr ⟨hb, h32, m1, m2, ?_, by omega, by omega, by omega, by omega, by omega, fun _ => m5⟩⟩
    rw [le 3 e, m3]; rfl
theorem next_ok {n : Nat} {c : Nat → Nat} {T_co M_te : Nat → Int32} (h : TX n c T_co M_te) {p : Nat} (hp : p ≤ n) {be ma : Int32} (hbm : be + ma = nI p) (so : Int32) : ∃ b m s, m_X12_nextLexeme M_te (nI n) be ma so = some (nI b, nI m, nI s) ∧ p ≤ b ∧ b ≤ n ∧ (∀ i, p ≤ i → i < b → c i = 32) ∧ LX n c T_co b m s := by
  have hn := h.1
  have sk : OkS (it (m_X12_nextLexeme_B13 M_te (nI n)) fu (nI p)) (fun r => ∃ b, r = nI b ∧ p ≤ b ∧ b ≤ n ∧ (∀ i, p ≤ i → i < b → c i = 32) ∧ (b < n → c b ≠ 32)) := by
    refine ok_for (fun t st => st = nI (p + t) ∧ ∀ i, p ≤ i → i < p + t → c i = 32) (n - p) ⟨rfl, fun i h1 h2 => absurd h1 (by omega)⟩ ?_ ?_ (by omega)
    · rintro t st ht ⟨rfl, e2⟩
      have hc := (h.2 (p + t) (by omega)).1
      unfold m_X12_nextLexeme_B13
      rw [letter_ok h (by omega), bd, if_pos (show p + t < n by omega), nI_s]
      by_cases e : c (p + t) = 32
      · rw [if_pos (by rw [e]; rfl)]
        refine ok_l ⟨rfl, fun i h1 h2 => ?_⟩
        by_cases ei : i = p + t
        · rw [ei]; exact e
        · exact e2 i h1 (by omega)
      · rw [if_neg (by rw [show (32 : Int32) = nI 32 from rfl, nI_eq_iff (by omega) (by omega)]; exact e)]
        exact ok_r ⟨p + t, rfl, by omega, by omega, e2, fun _ => e⟩
    · rintro st ⟨rfl, e2⟩
      unfold m_X12_nextLexeme_B13
      rw [letter_ok h (by omega), bd, if_neg (show ¬ (p + (n - p) < n) by omega), if_neg (by decide)]
      exact ok_r ⟨p + (n - p), rfl, by omega, by omega, e2, fun h => absurd h (by omega)⟩
  obtain ⟨r, s1, b, rfl, b1, b2, b3, b4⟩ := sk
  unfold m_X12_nextLexeme
  rw [hbm, s1, bd]
  by_cases e : b < n
  · rw [if_neg (by rw [nI_le_iff (by omega) (by omega)]; omega)]
    obtain ⟨m, s, l1, l2⟩ := lex_at h e (b4 e) ma so
    exact ⟨b, m, s, l1, b1, b2, b3, l2⟩
  · have hbn : b = n := by omega
    subst hbn
    rw [if_pos (by rw [nI_le_iff (by omega) (by omega)]; omega)]
    have k0 : kd b c b = 0 := by unfold kd; rw [if_neg (by omega)]
    have up : m_X12_in (Int32.toInt64 (if b < b then nI (c b) else -1)) 65 90 = some (if kd b c b = 2 then 1 else 0) := by
      rw [show (65 : Int64) = lN 65 from rfl, show (90 : Int64) = lN 90 from rfl, inL h 65 90 (by omega) (by omega), if_iff kd_2]
    unfold m_X12_nextLexeme_J56 m_X12_nextLexeme_J198
    rw [low_ok h (by omega), bd, fig_ok h (by omega), bd, letter_ok h (by omega), bd, up, bd, k0, if_neg (show ¬ ((0 : Nat) = 1) by decide), if_neg (show ¬ ((0 : Nat) = 3) by decide), if_neg (show ¬ ((0 : Nat) = 2) by decide), if_pos rfl, if_pos rfl, if_pos rfl]
    exact ⟨b, 0, 4, rfl, b1, b2, b3, Or.inl ⟨rfl, rfl, rfl⟩⟩
