/-! ===== the class reads letter by letter: from lexeme to lexeme ===== -/
def Cv {σ ρ : Type} (f : σ → Option (σ ⊕ ρ)) (n b : Nat) (s : σ) (r : ρ) : Prop := ∀ fuel, n + 1 ≤ fuel + b → it f fuel s = some r
theorem Cv_step {σ ρ : Type} {f : σ → Option (σ ⊕ ρ)} {n b : Nat} {s s' : σ} {r : ρ} (hb : b ≤ n) (h : f s = some (.inl s')) (h' : Cv f n (b + 1) s' r) : Cv f n b s r := by
  intro fuel hf
  obtain ⟨k, rfl⟩ : ∃ k, fuel = k + 1 := ⟨fuel - 1, by omega⟩
  rw [it_succ, h]
  exact h' k (by omega)
theorem Cv_end {σ ρ : Type} {f : σ → Option (σ ⊕ ρ)} {n b : Nat} {s : σ} {r : ρ} (hb : b ≤ n) (h : f s = some (.inr r)) : Cv f n b s r := by
  intro fuel hf
  obtain ⟨k, rfl⟩ : ∃ k, fuel = k + 1 := ⟨fuel - 1, by omega⟩
  rw [it_succ, h]
  rfl
abbrev VT : Type := Int32 × (Nat → Int32) × (Nat → Int32) × (Nat → Int32) × (Nat → Int32) × (Nat → Int32)
theorem skipC {n : Nat} {c : Nat → Nat} {T_co M_te : Nat → Int32} (h : TX n c T_co M_te) {l : Nat} (hl : l < 1000) {st : Int32} {V : VT} {r : (Int32 × Int32 × VT) ⊕ (Int32 × VT)} : ∀ d p, p + d ≤ n → (∀ i, p ≤ i → i < p + d → i < l ∨ c i = 32) → Cv (m_X10_read_B17 T_co (nI n)) n (p + d) (nI l, nI (p + d), st, V) r → Cv (m_X10_read_B17 T_co (nI n)) n p (nI l, nI p, st, V) r := by
  have hn := h.1
  intro d
  induction d with
  | zero => intro p _ _ hc; exact hc
  | succ d ih =>
    intro p hp hi hc
    have hrec := ih (p + 1) (by omega) (fun i h1 h2 => hi i (by omega) (by omega)) (by rw [show p + 1 + d = p + (d + 1) by omega]; exact hc)
    refine Cv_step (by omega) ?_ hrec
    unfold m_X10_read_B17 m_X10_read_J72
    dsimp only
    rw [if_neg (by rw [nI_le_iff (by omega) (by omega)]; omega)]
    rcases hi p (by omega) (by omega) with g | g
    · rw [if_pos (by rw [nI_lt_iff (by omega) (by omega)]; exact g), nI_s]
    · by_cases g2 : p < l
      · rw [if_pos (by rw [nI_lt_iff (by omega) (by omega)]; exact g2), nI_s]
      · rw [if_neg (by rw [nI_lt_iff (by omega) (by omega)]; exact g2), ck_nI (by omega) (by omega), tn_nI (by omega), (h.2 p (by omega)).2.1, g, if_pos (show nI 32 = 32 from rfl), nI_s]
theorem lexC {n : Nat} {c : Nat → Nat} {T_co M_te : Nat → Int32} (h : TX n c T_co M_te) {l b m s b' : Nat} (hl : l ≤ b) (hb : b < n) (hx : LX n c T_co b m s) {st st' : Int32} {V V' : VT} (htk : m_X10_takes T_co (nI n) st V.1 V.2.1 V.2.2.1 V.2.2.2.1 V.2.2.2.2.1 V.2.2.2.2.2 (nI b) (nI m) = some (1, st', V')) (h1 : b + m ≤ b') (h2 : b' ≤ n) (h3 : ∀ i, b + m ≤ i → i < b' → c i = 32) {r : (Int32 × Int32 × VT) ⊕ (Int32 × VT)} (hr : Cv (m_X10_read_B17 T_co (nI n)) n b' (nI (b + m), nI b', st', V') r) : Cv (m_X10_read_B17 T_co (nI n)) n b (nI l, nI b, st, V) r := by
  have hn := h.1
  rcases hx with ⟨e, _⟩ | ⟨_, x1, x2, x3, x4, _⟩
  · omega
  · have hsk := skipC h (l := b + m) (by omega) (b' - (b + 1)) (b + 1) (by omega) (fun i g1 g2 => by
      by_cases e : i < b + m
      · exact Or.inl e
      · exact Or.inr (h3 i (by omega) (by omega))) (by rw [show b + 1 + (b' - (b + 1)) = b' by omega]; exact hr)
    refine Cv_step (by omega) ?_ hsk
    have hc := h.2 b hb
    unfold m_X10_read_B17 m_X10_read_J72
    dsimp only
    rw [if_neg (by rw [nI_le_iff (by omega) (by omega)]; omega), if_neg (by rw [nI_lt_iff (by omega) (by omega)]; omega), ck_nI (by omega) (by omega), tn_nI (by omega), hc.2.1, if_neg (by rw [show (32 : Int32) = nI 32 from rfl, nI_eq_iff (by omega) (by omega)]; exact x1), x4, bd, nI_sub (by omega) (by omega), Nat.add_sub_cancel_left, htk, bd, if_neg one0, nI_s]
theorem lexF {n : Nat} {c : Nat → Nat} {T_co M_te : Nat → Int32} (h : TX n c T_co M_te) {l b m s : Nat} (hl : l ≤ b) (hb : b < n) (hx : LX n c T_co b m s) {st : Int32} {V : VT} {z : Int32 × VT} (htk : m_X10_takes T_co (nI n) st V.1 V.2.1 V.2.2.1 V.2.2.2.1 V.2.2.2.2.1 V.2.2.2.2.2 (nI b) (nI m) = some (0, z)) : Cv (m_X10_read_B17 T_co (nI n)) n b (nI l, nI b, st, V) (.inl (nI b, z)) := by
  have hn := h.1
  rcases hx with ⟨e, _⟩ | ⟨_, x1, x2, x3, x4, _⟩
  · omega
  · refine Cv_end (by omega) ?_
    have hc := h.2 b hb
    unfold m_X10_read_B17 m_X10_read_J72
    dsimp only
    rw [if_neg (by rw [nI_le_iff (by omega) (by omega)]; omega), if_neg (by rw [nI_lt_iff (by omega) (by omega)]; omega), ck_nI (by omega) (by omega), tn_nI (by omega), hc.2.1, if_neg (by rw [show (32 : Int32) = nI 32 from rfl, nI_eq_iff (by omega) (by omega)]; exact x1), x4, bd, nI_sub (by omega) (by omega), Nat.add_sub_cancel_left, htk, bd, if_pos rfl]
theorem endC {n : Nat} {T_co : Nat → Int32} (hn : n ≤ 150) {le st : Int32} {V : VT} : Cv (m_X10_read_B17 T_co (nI n)) n n (le, nI n, st, V) (.inr (st, V)) := by
  refine Cv_end (by omega) ?_
  unfold m_X10_read_B17
  dsimp only
  rw [if_pos (by rw [nI_le_iff (by omega) (by omega)]; omega)]
/-- the class finds an error at e -/
def ErrC (n : Nat) (R : (Int32 × Int32 × VT) ⊕ (Int32 × VT)) (e : Nat) : Prop := (∃ z, R = .inl z ∧ z.1 = nI e) ∨ (∃ z, R = .inr z ∧ e = n ∧ ∃ t, 1 ≤ t ∧ t ≤ 4 ∧ z.1 = nI t)
/-- if it takes no lexeme here, the error is here -/
theorem errC {n : Nat} {c : Nat → Nat} {T_co M_te : Nat → Int32} (h : TX n c T_co M_te) {l b m s t : Nat} (hl : l ≤ b) (hx : LX n c T_co b m s) (ht : 1 ≤ t ∧ t ≤ 4) {V : VT} (htk : b < n → ∃ z, m_X10_takes T_co (nI n) (nI t) V.1 V.2.1 V.2.2.1 V.2.2.2.1 V.2.2.2.2.1 V.2.2.2.2.2 (nI b) (nI m) = some (0, z)) : ∃ R, ErrC n R b ∧ Cv (m_X10_read_B17 T_co (nI n)) n b (nI l, nI b, nI t, V) R := by
  by_cases e : b < n
  · obtain ⟨z, hz⟩ := htk e
    exact ⟨_, Or.inl ⟨_, rfl, rfl⟩, lexF h hl e hx hz⟩
  · have : b = n := by
      rcases hx with ⟨g, _⟩ | ⟨g, _⟩
      · exact g
      · omega
    subst this
    exact ⟨_, Or.inr ⟨_, rfl, rfl, t, ht.1, ht.2, rfl⟩, endC h.1⟩
/-! ===== what the class takes ===== -/
theorem ww2 {n : Nat} {c : Nat → Nat} {T_co M_te : Nat → Int32} (h : TX n c T_co M_te) {b m s : Nat} (hb : b < n) (hx : LX n c T_co b m s) : (m_X8_isWorkWord T_co (nI n) (nI b) (nI m) = some 1 ∧ m_X12_isWordWork M_te (nI b) (nI m) (nI s) = some 1) ∨ (m_X8_isWorkWord T_co (nI n) (nI b) (nI m) = some 0 ∧ m_X12_isWordWork M_te (nI b) (nI m) (nI s) = some 0) := by
  have hn := h.1
  rcases hx with ⟨e, _⟩ | ⟨_, x1, x2, x3, x4, x5, x6, x7, x8, x9, x10⟩
  · omega
  unfold m_X8_isWorkWord m_X12_isWordWork m_X8_isWorkWord_J69 m_X8_isWorkWord_J70 m_X12_isWordWork_J82 m_X12_isWordWork_J83
  rw [ckb_0, ckb_1]
  by_cases e4 : m = 4
  · subst e4
    have c0 := h.2 b hb
    have c1 := h.2 (b + 1) (by omega)
    have c2 := h.2 (b + 2) (by omega)
    have c3 := h.2 (b + 3) (by omega)
    rw [show nI b + 1 = nI (b + 1) from nI_add b 1, show nI b + 2 = nI (b + 2) from nI_add b 2, show nI b + 3 = nI (b + 3) from nI_add b 3]
    simp (disch := omega) only [ck_nI, tn_nI, c0.2.1, c0.2.2, c1.2.1, c1.2.2, c2.2.1, c2.2.2, c3.2.1, c3.2.2]
    rw [if_pos (show nI 4 = 4 from rfl), if_pos (show nI 4 = 4 from rfl), nI_add, if_neg (show ¬ (nI n < nI (b + 4)) by rw [nI_lt_iff (by omega) (by omega)]; omega)]
    by_cases g0 : nI (c b) = 119
    · have g0' : c b = 119 := by rw [show (119 : Int32) = nI 119 from rfl, nI_eq_iff (by omega) (by omega)] at g0; exact g0
      have s1 : s = 1 := x6.mpr (kd_1.mpr ⟨hb, by omega, by omega⟩)
      rw [if_pos (show nI s = 1 by rw [s1]; rfl), if_pos g0]
      by_cases g1 : nI (c (b + 1)) = 111
      · rw [if_pos g1]
        by_cases g2 : nI (c (b + 2)) = 114
        · rw [if_pos g2]
          by_cases g3 : nI (c (b + 3)) = 107
          · rw [if_pos g3]; exact Or.inl ⟨rfl, rfl⟩
          · rw [if_neg g3]; exact Or.inr ⟨rfl, rfl⟩
        · rw [if_neg g2]; exact Or.inr ⟨rfl, rfl⟩
      · rw [if_neg g1]; exact Or.inr ⟨rfl, rfl⟩
    · rw [if_neg g0]
      exact Or.inr ⟨rfl, by split <;> rfl⟩
  · have e4' : ¬ (nI m = 4) := by rw [show (4 : Int32) = nI 4 from rfl, nI_eq_iff (by omega) (by omega)]; exact e4
    rw [if_neg e4', if_neg e4']
    exact Or.inr ⟨rfl, by split <;> rfl⟩
theorem aut_ok {n : Nat} {c : Nat → Nat} {T_co M_te : Nat → Int32} (h : TX n c T_co M_te) {b m s : Nat} (hb : b < n) (hx : LX n c T_co b m s) : m_X8_isAuthor T_co (nI n) (nI b) (nI m) = some (if s = 2 then 1 else 0) := by
  have hn := h.1
  rcases hx with ⟨e, _⟩ | ⟨_, x1, x2, x3, x4, x5, x6, x7, x8, x9, x10⟩
  · omega
  have hk := kd_le n c b
  unfold m_X8_isAuthor m_X8_isAuthor_J18 m_X8_isAuthor_J19
  rw [kind_ok h (by omega), bd, ckb_0, ckb_1]
  by_cases e : s = 2
  · rw [if_pos e, if_pos (show nI m = 2 by rw [(x8.mp e).2]; rfl), if_pos (show nI (kd n c b) = 2 by rw [(x8.mp e).1]; rfl)]
  · rw [if_neg e]
    by_cases e2 : m = 2
    · rw [if_pos (show nI m = 2 by rw [e2]; rfl), if_neg (show ¬ (nI (kd n c b) = 2) by rw [show (2 : Int32) = nI 2 from rfl, nI_eq_iff (by omega) (by omega)]; exact fun g => e (x8.mpr ⟨g, e2⟩))]
    · rw [if_neg (show ¬ (nI m = 2) by rw [show (2 : Int32) = nI 2 from rfl, nI_eq_iff (by omega) (by omega)]; exact e2)]
theorem yea_ok {n : Nat} {c : Nat → Nat} {T_co M_te : Nat → Int32} (h : TX n c T_co M_te) {b m s : Nat} (hb : b < n) (hx : LX n c T_co b m s) : m_X8_isYear T_co (nI n) (nI b) (nI m) = some (if s = 3 ∧ m = 2 then 1 else 0) := by
  have hn := h.1
  rcases hx with ⟨e, _⟩ | ⟨_, x1, x2, x3, x4, x5, x6, x7, x8, x9, x10⟩
  · omega
  have hk := kd_le n c b
  unfold m_X8_isYear m_X8_isYear_J18 m_X8_isYear_J19
  rw [kind_ok h (by omega), bd, ckb_0, ckb_1]
  by_cases e2 : m = 2
  · rw [if_pos (show nI m = 2 by rw [e2]; rfl)]
    by_cases e3 : s = 3
    · rw [if_pos (show nI (kd n c b) = 3 by rw [x7.mp e3]; rfl), if_pos ⟨e3, e2⟩]
    · rw [if_neg (show ¬ (nI (kd n c b) = 3) by rw [show (3 : Int32) = nI 3 from rfl, nI_eq_iff (by omega) (by omega)]; exact fun g => e3 (x7.mpr g)), if_neg (fun g => e3 g.1)]
  · rw [if_neg (show ¬ (nI m = 2) by rw [show (2 : Int32) = nI 2 from rfl, nI_eq_iff (by omega) (by omega)]; exact e2), if_neg (fun g => e2 g.2)]
theorem tit_ok {n : Nat} {c : Nat → Nat} {T_co M_te : Nat → Int32} (h : TX n c T_co M_te) {b m s : Nat} (hb : b < n) (hx : LX n c T_co b m s) : m_X8_isTitle T_co (nI n) (nI b) (nI m) = some (if s = 1 ∧ m = 1 then 1 else 0) := by
  have hn := h.1
  rcases hx with ⟨e, _⟩ | ⟨_, x1, x2, x3, x4, x5, x6, x7, x8, x9, x10⟩
  · omega
  have hk := kd_le n c b
  unfold m_X8_isTitle m_X8_isTitle_J18 m_X8_isTitle_J19
  rw [kind_ok h (by omega), bd, ckb_0, ckb_1]
  by_cases e2 : m = 1
  · rw [if_pos (show nI m = 1 by rw [e2]; rfl)]
    by_cases e3 : s = 1
    · rw [if_pos (show nI (kd n c b) = 1 by rw [x6.mp e3]; rfl), if_pos ⟨e3, e2⟩]
    · rw [if_neg (show ¬ (nI (kd n c b) = 1) by rw [show (1 : Int32) = nI 1 from rfl, nI_eq_iff (by omega) (by omega)]; exact fun g => e3 (x6.mpr g)), if_neg (fun g => e3 g.1)]
  · rw [if_neg (show ¬ (nI m = 1) by rw [show (1 : Int32) = nI 1 from rfl, nI_eq_iff (by omega) (by omega)]; exact e2), if_neg (fun g => e2 g.2)]
