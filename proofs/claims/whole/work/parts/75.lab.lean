/-! ===== the names part of a label, as a number ===== -/
theorem toL {f : Nat} (hf : f < 2147483648) : Int32.toInt64 (nI f) = lN f := by
  apply Int64.toInt_inj.mp
  rw [Int32.toInt_toInt64, nI_toI hf, lN_toInt hf]
theorem sh5 {m f : Nat} (hm : m < 1125899906842624) (hf : f < 32) : (lN m <<< (Int32.toInt64 5 &&& 63)) ||| Int32.toInt64 (nI f) = lN (m * 32 + f) := by
  rw [toL (by omega)]
  apply Int64.toBitVec_inj.mp
  rw [Int64.toBitVec_or, Int64.toBitVec_shiftLeft, show ((Int32.toInt64 5 &&& 63).toBitVec.smod 64) = 5#64 from by decide]
  apply BitVec.eq_of_toNat_eq
  rw [BitVec.toNat_or, BitVec.shiftLeft_eq', BitVec.toNat_shiftLeft]
  unfold lN
  rw [Int64.toBitVec_ofNat', Int64.toBitVec_ofNat', Int64.toBitVec_ofNat', BitVec.toNat_ofNat, BitVec.toNat_ofNat, BitVec.toNat_ofNat, BitVec.toNat_ofNat, show 5 % 2 ^ 64 = 5 from rfl, Nat.mod_eq_of_lt (a := m) (by omega), Nat.mod_eq_of_lt (a := f) (by omega), Nat.mod_eq_of_lt (a := m * 32 + f) (by omega), Nat.shiftLeft_eq, Nat.mod_eq_of_lt (a := m * 2 ^ 5) (by omega), ← Nat.shiftLeft_eq, ← Nat.shiftLeft_add_eq_or_of_lt (by omega), Nat.shiftLeft_eq]
theorem lNq {m n : Nat} (hm : m < 9223372036854775808) (hn : n < 9223372036854775808) : (lN m = lN n) = (m = n) := by
  apply propext
  constructor
  · intro h
    have h1 := congrArg (fun z => z.toBitVec.toNat) h
    replace h1 : (lN m).toBitVec.toNat = (lN n).toBitVec.toNat := h1
    unfold lN at h1
    rw [Int64.toBitVec_ofNat', Int64.toBitVec_ofNat', BitVec.toNat_ofNat, BitVec.toNat_ofNat] at h1
    omega
  · intro h; rw [h]
def kk (h : Nat) (c : Nat → Nat) : Nat → Nat
  | 0 => h
  | n + 1 => kk h c n * 1024 + c n
theorem kk_s (h : Nat) (c : Nat → Nat) (n : Nat) : kk h c (n + 1) = kk h c n * 1024 + c n := rfl
theorem kk_inj {h h' : Nat} {c c' : Nat → Nat} (hh : h ≤ 1) (hh' : h' ≤ 1) : ∀ n m, (∀ k, k < n → 32 ≤ c k ∧ c k < 1024) → (∀ k, k < m → 32 ≤ c' k ∧ c' k < 1024) → kk h c n = kk h' c' m → n = m ∧ h = h' ∧ ∀ k, k < n → c k = c' k := by
  intro n
  induction n with
  | zero =>
    intro m h1 h2 e
    cases m with
    | zero => exact ⟨rfl, e, fun k hk => absurd hk (by omega)⟩
    | succ m => rw [kk_s] at e; have := h2 m (by omega); rw [show kk h c 0 = h from rfl] at e; omega
  | succ n ih =>
    intro m h1 h2 e
    have a1 := h1 n (by omega)
    cases m with
    | zero => rw [kk_s] at e; rw [show kk h' c' 0 = h' from rfl] at e; omega
    | succ m =>
      rw [kk_s, kk_s] at e
      have a2 := h2 m (by omega)
      obtain ⟨b1, b2, b3⟩ := ih m (fun k hk => h1 k (by omega)) (fun k hk => h2 k (by omega)) (by omega)
      refine ⟨by omega, b2, fun k hk => ?_⟩
      subst b1
      by_cases e' : k = n
      · subst e'; omega
      · exact b3 k (by omega)
theorem kk_cg {h : Nat} {c c' : Nat → Nat} : ∀ n, (∀ k, k < n → c k = c' k) → kk h c n = kk h c' n := by
  intro n
  induction n with
  | zero => intro _; rfl
  | succ n ih => intro e; rw [kk_s, kk_s, ih (fun k hk => e k (by omega)), e n (by omega)]
theorem kk_lt {h : Nat} {c : Nat → Nat} (hh : h ≤ 1) (h1 : ∀ k, k < 4 → c k < 1024) : ∀ n, n ≤ 4 → kk h c n < 2 * 1024 ^ n := by
  intro n
  induction n with
  | zero => intro _; rw [show kk h c 0 = h from rfl]; omega
  | succ n ih =>
    intro hn
    have := ih (by omega)
    have := h1 n (by omega)
    rw [kk_s, Nat.pow_succ]
    omega
def chv (a : Nat → Nat) (b w k : Nat) : Nat := (a (2 + 7 * w + k) / 26 + 1) * 32 + (if b = 0 then 0 else a (2 + 7 * w + k) % 26 + 1)
def nkv (a : Nat → Nat) (m b w : Nat) : Nat := kk (if m < a (1 + 7 * w) then 1 else 0) (chv a b w) m
theorem chv_b {a : Nat → Nat} {b w k : Nat} (h : a (2 + 7 * w + k) < 676) : 32 ≤ chv a b w k ∧ chv a b w k < 1024 := by
  unfold chv
  split <;> omega
theorem nk_lt {a : Nat → Nat} (ho : OkW a) {w m b : Nat} (hw : w < a 0) (hm : m ≤ a (1 + 7 * w)) : ∀ h i, h ≤ 1 → i ≤ m → kk h (chv a b w) i < 2199023255553 := by
  obtain ⟨p1, p2, p3, p4⟩ := ho.2 w hw
  intro h i hh hi
  have step : ∀ n, n ≤ m → kk h (chv a b w) n < 2 * 1024 ^ n := by
    intro n
    induction n with
    | zero => intro _; rw [show kk h (chv a b w) 0 = h from rfl]; omega
    | succ n ih =>
      intro hn
      have h1 := ih (by omega)
      have h2 := chv_b (a := a) (b := b) (w := w) (p2 n (by omega))
      rw [kk_s, Nat.pow_succ]
      omega
  have := step i hi
  rcases (show i = 0 ∨ i = 1 ∨ i = 2 ∨ i = 3 ∨ i = 4 by omega) with rfl | rfl | rfl | rfl | rfl <;> omega
theorem show_ok {W_n : Int32} {W_ac W_fa W_in W_yr W_ti : Nat → Int32} {a : Nat → Nat} (ho : OkW a) (r1 : RW W_n W_ac W_fa W_in W_yr W_ti a) (L_sh L_wi : Nat → Int32) (L_nk : Nat → Int64) {w m b : Nat} (hw : w < a 0) (hm : m ≤ a (1 + 7 * w)) (hb : b ≤ 1) : m_X3_show W_ac W_fa W_in L_sh L_wi L_nk (nI w) (nI m) (nI b) = some (upd L_sh w (nI m), upd L_wi w (nI b), vp_updL L_nk w (lN (nkv a m b w))) := by
  have h8 := ho.1
  obtain ⟨v1, v2, v3, v4⟩ := r1.2 w hw
  obtain ⟨p1, p2, p3, p4⟩ := ho.2 w hw
  have loop : ∀ h, h ≤ 1 → it (m_X3_show_B32 (nI w) (nI m) (nI b) W_fa W_in) fu (lN h, 0) = some (lN (kk h (chv a b w) m)) := by
    intro h hh
    rw [show (lN h, (0 : Int32)) = (fun i => (lN (kk h (chv a b w) i), nI i)) 0 from rfl]
    refine it_run (fun i => (lN (kk h (chv a b w) i), nI i)) m _ (fun i hi => ?_) ?_ (by omega)
    · have a1 := v2 i (by omega)
      have a3 := p2 i (by omega)
      have kb := nk_lt ho hw hm (b := b) h i hh (by omega)
      rw [Nat.mul_comm 4 w] at a1
      unfold m_X3_show_B32 m_X3_show_J86
      dsimp only
      rw [if_neg (by rw [nI_le_iff (by omega) (by omega)]; omega), show (nI w * 4 + nI i) = nI (w * 4 + i) by rw [show (4 : Int32) = nI 4 from rfl, nI_mul, nI_add], ck_nI (by omega) (by omega), ck_nI (by omega) (by omega), tn_nI (by omega), a1.1, a1.2, show nI (65 + a (2 + 7 * w + i) / 26) - 65 + 1 = nI (a (2 + 7 * w + i) / 26 + 1) by rw [show (65 : Int32) = nI 65 from rfl, nI_sub (by omega) (by omega), nI_s]; congr 1; omega, show nI (97 + a (2 + 7 * w + i) % 26) - 97 + 1 = nI (a (2 + 7 * w + i) % 26 + 1) by rw [show (97 : Int32) = nI 97 from rfl, nI_sub (by omega) (by omega), nI_s]; congr 1; omega, sh5 (by omega) (by omega), show (0 : Int32) = nI 0 from rfl, sh5 (by omega) (by omega), sh5 (by omega) (by omega), nI_s, kk_s]
      unfold chv
      by_cases e : b = 0
      · rw [if_pos (by rw [e]), if_pos e]
        congr 4
        omega
      · rw [if_neg (by rw [nI_eq_iff (by omega) (by omega)]; exact e), if_neg e]
        congr 4
        omega
    · unfold m_X3_show_B32
      dsimp only
      rw [if_pos (by rw [nI_le_iff (by omega) (by omega)]; omega)]
  unfold m_X3_show m_X3_hidesAuthors m_X3_hidesAuthors_J23 m_X3_show_J27
  have hbb : ∀ {α : Type} {k : Option α}, ckb (nI b) k = k := by
    intro α k
    rcases (show b = 0 ∨ b = 1 by omega) with rfl | rfl
    · exact ckb_0
    · exact ckb_1
  rw [hbb]
  simp (disch := omega) only [ck_nI, tn_nI, upd_eq, v1, nI_le_iff]
  unfold nkv
  by_cases e : a (1 + 7 * w) ≤ m
  · rw [if_pos e, ckb_0, bd, if_pos rfl, show (0 : Int64) = lN 0 from rfl, loop 0 (by omega), bd, if_neg (by omega)]
  · rw [if_neg e, ckb_1, bd, if_neg (by decide), show (1 : Int64) = lN 1 from rfl, loop 1 (by omega), bd, if_pos (by omega)]
theorem nkv_iff {a : Nat → Nat} (ho : OkW a) {v w m n b d : Nat} (hv : v < a 0) (hw : w < a 0) (hm : 1 ≤ m ∧ m ≤ a (1 + 7 * v)) (hn : n ≤ a (1 + 7 * w)) (hb : b ≤ 1) (hd : d ≤ 1) : nkv a m b v = nkv a n d w ↔ m = n ∧ b = d ∧ (m = a (1 + 7 * v) ↔ n = a (1 + 7 * w)) ∧ ∀ k, k < m → (if b = 0 then a (2 + 7 * v + k) / 26 = a (2 + 7 * w + k) / 26 else a (2 + 7 * v + k) = a (2 + 7 * w + k)) := by
  obtain ⟨p1, p2, p3, p4⟩ := ho.2 v hv
  obtain ⟨q1, q2, q3, q4⟩ := ho.2 w hw
  constructor
  · intro e
    unfold nkv at e
    obtain ⟨e1, e2, e3⟩ := kk_inj (by split <;> omega) (by split <;> omega) m n (fun k hk => chv_b (p2 k (by omega))) (fun k hk => chv_b (q2 k (by omega))) e
    have e0 := e3 0 (by omega)
    have hbd : b = d := by
      unfold chv at e0
      split at e0 <;> split at e0 <;> omega
    refine ⟨e1, hbd, by split at e2 <;> split at e2 <;> omega, fun k hk => ?_⟩
    have ek := e3 k hk
    unfold chv at ek
    rw [← hbd] at ek
    split
    · next h => rw [if_pos h, if_pos h] at ek; omega
    · next h => rw [if_neg h, if_neg h] at ek; omega
  · rintro ⟨rfl, rfl, e3, e4⟩
    unfold nkv
    rw [show (if m < a (1 + 7 * v) then 1 else 0) = (if m < a (1 + 7 * w) then 1 else 0) by split <;> split <;> omega]
    apply kk_cg
    intro k hk
    have := e4 k hk
    unfold chv
    split
    · next h => rw [if_pos h] at this; omega
    · next h => rw [if_neg h] at this; rw [this]
theorem namesM_ok {s : Nat → Int32} {a : Nat → Nat} (ho : OkW a) (r4 : RM s a) {M_sh M_in : Nat → Int32} {sh ini : Nat → Nat} (h1 : ∀ w, w < a 0 → M_sh w = nI (sh w) ∧ M_in w = nI (ini w)) (h2 : ∀ w, w < a 0 → (1 ≤ sh w ∧ sh w ≤ a (1 + 7 * w)) ∧ ini w ≤ 1) {v w : Nat} (hv : v < a 0) (hw : w < a 0) : m_X12_haveOneNames s M_sh M_in (nI v) (nI w) = some (if nkv a (sh v) (ini v) v = nkv a (sh w) (ini w) w then 1 else 0) := by
  have h8 := ho.1
  obtain ⟨p1, p2, p3, p4⟩ := ho.2 v hv
  obtain ⟨q1, q2, q3, q4⟩ := ho.2 w hw
  obtain ⟨x1, x2⟩ := h1 v hv
  obtain ⟨y1, y2⟩ := h1 w hw
  obtain ⟨x3, x4⟩ := h2 v hv
  obtain ⟨y3, y4⟩ := h2 w hw
  have zero : m_X12_haveOneNames_J77 (nI v) (nI w) s M_sh M_in = some 0 := by
    unfold m_X12_haveOneNames_J77 m_X12_haveOneNames_J78
    rw [show it (m_X12_haveOneNames_B83 (nI v) (nI w) s M_sh M_in) fu (0, 0) = some 0 from ?_, bd, ckb_0]
    show it (m_X12_haveOneNames_B83 (nI v) (nI w) s M_sh M_in) (1999 + 1) (0, 0) = _
    rw [it_succ]
    unfold m_X12_haveOneNames_B83
    rw [ck_nI (by omega) (by omega)]
    split <;> rfl
  have hi := nkv_iff ho (v := v) (w := w) (m := sh v) (n := sh w) (b := ini v) (d := ini w) hv hw x3 y3.2 x4 y4
  have one : sh v = sh w → ini v = ini w → (sh v = a (1 + 7 * v) ↔ sh w = a (1 + 7 * w)) → m_X12_haveOneNames_J78 (nI v) (nI w) 1 s M_sh M_in = some (if nkv a (sh v) (ini v) v = nkv a (sh w) (ini w) w then 1 else 0) := by
    intro c1 c2 c3
    have : OkS (it (m_X12_haveOneNames_B83 (nI v) (nI w) s M_sh M_in) fu (1, 0)) (fun r => (r = 1 ∧ ∀ k, k < sh v → (if ini v = 0 then a (2 + 7 * v + k) / 26 = a (2 + 7 * w + k) / 26 else a (2 + 7 * v + k) = a (2 + 7 * w + k))) ∨ (r = 0 ∧ ¬ ∀ k, k < sh v → (if ini v = 0 then a (2 + 7 * v + k) / 26 = a (2 + 7 * w + k) / 26 else a (2 + 7 * v + k) = a (2 + 7 * w + k)))) := by
      refine ok_for (fun i st => st.2 = nI i ∧ ((st.1 = 1 ∧ ∀ k, k < i → (if ini v = 0 then a (2 + 7 * v + k) / 26 = a (2 + 7 * w + k) / 26 else a (2 + 7 * v + k) = a (2 + 7 * w + k))) ∨ (st.1 = 0 ∧ ¬ ∀ k, k < sh v → (if ini v = 0 then a (2 + 7 * v + k) / 26 = a (2 + 7 * w + k) / 26 else a (2 + 7 * v + k) = a (2 + 7 * w + k))))) (sh v) ⟨rfl, Or.inl ⟨rfl, fun k hk => absurd hk (by omega)⟩⟩ ?_ ?_ (by omega)
      · rintro i ⟨s1, s2⟩ hi' ⟨e1, e2⟩
        dsimp only at e1 e2
        subst e1
        have a3 := p2 i (by omega)
        have a4 := q2 i (by omega)
        unfold m_X12_haveOneNames_B83
        rw [ck_nI (by omega) (by omega), ck_nI (by omega) (by omega), tn_nI (by omega), x1, x2]
        dsimp only
        rw [if_neg (by rw [nI_le_iff (by omega) (by omega)]; omega)]
        rcases e2 with ⟨rfl, e2⟩ | ⟨rfl, e2⟩
        · rw [if_neg (by decide), authorM r4 (by omega) (by omega), bd, authorM r4 (by omega) (by omega), bd, bd, bd, show (26 : Int32) = nI 26 from rfl, nI_div (by omega) (by omega), nI_div (by omega) (by omega)]
          simp (disch := omega) only [lit32, nI_eq_iff]
          unfold m_X12_haveOneNames_J161
          simp only [nI_s]
          by_cases e : ini v = 0
          · rw [if_pos e]
            simp only [if_pos e] at e2 ⊢
            refine ok_if (fun c => ok_l ⟨rfl, Or.inl ⟨rfl, fun k hk => ?_⟩⟩) (fun c => ok_l ⟨rfl, Or.inr ⟨rfl, fun hh => c (hh i hi')⟩⟩)
            by_cases ek : k = i
            · rw [ek]; exact c
            · exact e2 k (by omega)
          · rw [if_neg e]
            simp only [if_neg e] at e2 ⊢
            refine ok_if (fun c => ok_l ⟨rfl, Or.inl ⟨rfl, fun k hk => ?_⟩⟩) (fun c => ok_l ⟨rfl, Or.inr ⟨rfl, fun hh => c (hh i hi')⟩⟩)
            by_cases ek : k = i
            · rw [ek]; exact c
            · exact e2 k (by omega)
        · rw [if_pos rfl]
          exact ok_r (Or.inr ⟨rfl, e2⟩)
      · rintro ⟨s1, s2⟩ ⟨e1, e2⟩
        dsimp only at e1 e2
        subst e1
        unfold m_X12_haveOneNames_B83
        rw [ck_nI (by omega) (by omega), tn_nI (by omega), x1]
        dsimp only
        rw [if_pos (by rw [nI_le_iff (by omega) (by omega)]; omega)]
        exact ok_r e2
    obtain ⟨r, t1, t2⟩ := this
    unfold m_X12_haveOneNames_J78
    rw [t1, bd]
    rcases t2 with ⟨rfl, t2⟩ | ⟨rfl, t2⟩
    · rw [ckb_1, if_pos (hi.mpr ⟨c1, c2, c3, t2⟩)]
    · rw [ckb_0, if_neg (fun hh => t2 (hi.mp hh).2.2.2)]
  unfold m_X12_haveOneNames m_X12_haveOneNames_J19 m_X12_haveOneNames_J70
  rw [zero]
  simp (disch := omega) only [lit32, ck_nI, tn_nI, x1, x2, y1, y2, authorsM r4, bd, nI_eq_iff]
  by_cases c1 : sh v = sh w
  · by_cases c2 : ini v = ini w
    · simp only [if_pos c1, if_pos c2]
      by_cases c3 : sh v = a (1 + 7 * v)
      · by_cases c4 : sh w = a (1 + 7 * w)
        · rw [if_pos c3, if_pos c4, if_pos trivial]
          exact one c1 c2 ⟨fun _ => c4, fun _ => c3⟩
        · rw [if_pos c3, if_neg c4, if_neg (by decide), if_neg (fun hh => c4 ((hi.mp hh).2.2.1.mp c3))]
      · by_cases c4 : sh w = a (1 + 7 * w)
        · rw [if_neg c3, if_pos c4, if_neg (by decide), if_neg (fun hh => c3 ((hi.mp hh).2.2.1.mpr c4))]
        · rw [if_neg c3, if_neg c4, if_pos trivial]
          exact one c1 c2 ⟨fun h => absurd h c3, fun h => absurd h c4⟩
    · simp only [if_pos c1, if_neg c2, ite_self]
      rw [if_neg (fun hh => c2 (hi.mp hh).2.1)]
  · simp only [if_neg c1, ite_self]
    rw [if_neg (fun hh => c1 (hi.mp hh).1)]
