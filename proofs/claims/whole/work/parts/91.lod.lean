/-! ===== a work, read by both ===== -/
def GW (r : Nat → Nat) (ac fa ini yr ti : Nat → Int32) (w : Nat) : Prop := (1 ≤ r (1 + 7 * w) ∧ r (1 + 7 * w) ≤ 4) ∧ ac w = nI (r (1 + 7 * w)) ∧ (∀ j, j < r (1 + 7 * w) → r (2 + 7 * w + j) < 676 ∧ fa (4 * w + j) = nI (65 + r (2 + 7 * w + j) / 26) ∧ ini (4 * w + j) = nI (97 + r (2 + 7 * w + j) % 26)) ∧ (r (6 + 7 * w) ≤ 99 ∧ yr w = nI (r (6 + 7 * w))) ∧ r (7 + 7 * w) ≤ 25 ∧ ti w = nI (97 + r (7 + 7 * w))
theorem GW_fr {r r' : Nat → Nat} {ac fa ini yr ti ac' fa' ini' yr' ti' : Nat → Int32} {v : Nat} (h : GW r ac fa ini yr ti v) (h1 : ∀ j, 1 + 7 * v ≤ j → j < 8 + 7 * v → r' j = r j) (h2 : ac' v = ac v) (h3 : ∀ j, j < 4 → fa' (4 * v + j) = fa (4 * v + j) ∧ ini' (4 * v + j) = ini (4 * v + j)) (h4 : yr' v = yr v) (h5 : ti' v = ti v) : GW r' ac' fa' ini' yr' ti' v := by
  obtain ⟨g1, g2, g3, g4, g5⟩ := h
  unfold GW
  rw [h1 (1 + 7 * v) (by omega) (by omega), h1 (6 + 7 * v) (by omega) (by omega), h1 (7 + 7 * v) (by omega) (by omega), h2, h4, h5]
  refine ⟨g1, g2, fun j hj => ?_, g4, g5⟩
  rw [h1 (2 + 7 * v + j) (by omega) (by omega), (h3 j (by omega)).1, (h3 j (by omega)).2]
  exact g3 j hj
/-- the works that are read, and of the next one k authors -/
def PW (re : Nat → Int32) (r : Nat → Nat) (ac fa ini yr ti : Nat → Int32) (w k : Nat) : Prop := (∀ j, j < 57 → re j = nI (r j)) ∧ r 0 = w ∧ (∀ v, v < w → GW r ac fa ini yr ti v) ∧ r (1 + 7 * w) = k ∧ ac w = nI k ∧ ∀ j, j < k → r (2 + 7 * w + j) < 676 ∧ fa (4 * w + j) = nI (65 + r (2 + 7 * w + j) / 26) ∧ ini (4 * w + j) = nI (97 + r (2 + 7 * w + j) % 26)
theorem codeV {x y p q m : Nat} (hx : q ≤ x ∧ x ≤ 255) (hy : p ≤ y ∧ y ≤ 255) (hm : m ≤ 26) (hq : q ≤ 255) (hp : p ≤ 255) : ((nI m * (nI x - nI q)) + nI y) - nI p = nI (m * (x - q) + (y - p)) := by
  have : m * (x - q) ≤ 26 * 255 := Nat.mul_le_mul hm (by omega)
  rw [nI_sub hx.1 (by omega), nI_mul, nI_add, nI_sub (by omega) (by omega)]
  congr 1
  omega
theorem tkA {n : Nat} {c : Nat → Nat} {T_co M_te : Nat → Int32} (h : TX n c T_co M_te) {b m s w k : Nat} (hb : b < n) (hx : LX n c T_co b m s) (hw : w < 8) (hk : k ≤ 4) (R : Int32) {ac fa ini : Nat → Int32} (hac : ac w = nI k) : m_X10_takesAuthor T_co (nI n) R (nI w) ac fa ini (nI b) (nI m) = if s = 2 ∧ k < 4 then some (1, 2, upd ac w (nI (k + 1)), upd fa (4 * w + k) (nI (c b)), upd ini (4 * w + k) (nI (c (b + 1)))) else some (0, R, ac, fa, ini) := by
  have hn := h.1
  unfold m_X10_takesAuthor m_X10_takesAuthor_J33
  rw [ck_nI (by omega) (by omega), aut_ok h hb hx, bd, tn_nI (by omega), hac]
  by_cases e : s = 2
  · have hb1 : b + 1 < n := by
      rcases hx with ⟨g, _⟩ | ⟨_, x1, x2, x3, x4, x5, x6, x7, x8, x9, x10⟩
      · omega
      · exact (kd_1.mp (x9 e)).1
    rw [if_pos e, if_neg one0]
    by_cases e4 : k < 4
    · rw [if_pos (show nI k < 4 by rw [show (4 : Int32) = nI 4 from rfl, nI_lt_iff (by omega) (by omega)]; exact e4), if_pos ⟨e, e4⟩, show nI w * 4 + nI k = nI (4 * w + k) by rw [show (4 : Int32) = nI 4 from rfl, nI_mul, nI_add, Nat.mul_comm], show nI b + 1 = nI (b + 1) from nI_s b, show nI k + 1 = nI (k + 1) from nI_s k]
      simp (disch := omega) only [ck_nI, tn_nI, (h.2 b hb).2.1, (h.2 (b + 1) hb1).2.1]
    · rw [if_neg (show ¬ (nI k < 4) by rw [show (4 : Int32) = nI 4 from rfl, nI_lt_iff (by omega) (by omega)]; exact e4), if_neg (fun g => e4 g.2)]
  · rw [if_neg e, if_pos rfl, if_neg (fun g => e g.1)]
theorem auL {n : Nat} {c : Nat → Nat} {T_co M_te : Nat → Int32} (h : TX n c T_co M_te) {w b0 m0 s0 l0 : Nat} (hw : w < 8) (hl0 : l0 ≤ b0) (hx0 : LX n c T_co b0 m0 s0) {re0 : Nat → Int32} {r0 : Nat → Nat} {ac0 fa0 ini0 yr ti : Nat → Int32} (hP : PW re0 r0 ac0 fa0 ini0 yr ti w 0) :
    OkS (it (m_X12_readsWork_B23 (nI (1 + 7 * w)) M_te (nI n)) fu (re0, nI b0, nI m0, nI s0)) (fun out => ∃ k b m s l re r ac fa ini, out = (re, nI b, nI m, nI s) ∧ k ≤ 4 ∧ b0 ≤ b ∧ l ≤ b ∧ LX n c T_co b m s ∧ PW re r ac fa ini yr ti w k ∧ ¬ (s = 2 ∧ k < 4) ∧ ∀ R, Cv (m_X10_read_B17 T_co (nI n)) n b (nI l, nI b, nI (if k = 0 then 1 else 2), nI w, ac, fa, ini, yr, ti) R → Cv (m_X10_read_B17 T_co (nI n)) n b0 (nI l0, nI b0, nI 1, nI w, ac0, fa0, ini0, yr, ti) R) := by
  have hn := h.1
  refine ok_for (fun k st => ∃ b m s l re r ac fa ini, st = (re, nI b, nI m, nI s) ∧ b0 ≤ b ∧ l ≤ b ∧ LX n c T_co b m s ∧ PW re r ac fa ini yr ti w k ∧ ∀ R, Cv (m_X10_read_B17 T_co (nI n)) n b (nI l, nI b, nI (if k = 0 then 1 else 2), nI w, ac, fa, ini, yr, ti) R → Cv (m_X10_read_B17 T_co (nI n)) n b0 (nI l0, nI b0, nI 1, nI w, ac0, fa0, ini0, yr, ti) R) 4 ⟨b0, m0, s0, l0, re0, r0, ac0, fa0, ini0, rfl, Nat.le_refl _, hl0, hx0, hP, fun R hR => hR⟩ ?_ ?_ (by omega)
  · rintro k st hk ⟨b, m, s, l, re, r, ac, fa, ini, rfl, i1, i2, hx, ⟨p1, p2, p3, p4, p5, p6⟩, hlink⟩
    have stay : ¬ (s = 2 ∧ k < 4) → OkS (some (Sum.inr (re, nI b, nI m, nI s)) : Option (((Nat → Int32) × Int32 × Int32 × Int32) ⊕ ((Nat → Int32) × Int32 × Int32 × Int32))) (Sum.elim (fun st => ∃ b m s l re r ac fa ini, st = (re, nI b, nI m, nI s) ∧ b0 ≤ b ∧ l ≤ b ∧ LX n c T_co b m s ∧ PW re r ac fa ini yr ti w (k + 1) ∧ ∀ R, Cv (m_X10_read_B17 T_co (nI n)) n b (nI l, nI b, nI (if k + 1 = 0 then 1 else 2), nI w, ac, fa, ini, yr, ti) R → Cv (m_X10_read_B17 T_co (nI n)) n b0 (nI l0, nI b0, nI 1, nI w, ac0, fa0, ini0, yr, ti) R) (fun out => ∃ k b m s l re r ac fa ini, out = (re, nI b, nI m, nI s) ∧ k ≤ 4 ∧ b0 ≤ b ∧ l ≤ b ∧ LX n c T_co b m s ∧ PW re r ac fa ini yr ti w k ∧ ¬ (s = 2 ∧ k < 4) ∧ ∀ R, Cv (m_X10_read_B17 T_co (nI n)) n b (nI l, nI b, nI (if k = 0 then 1 else 2), nI w, ac, fa, ini, yr, ti) R → Cv (m_X10_read_B17 T_co (nI n)) n b0 (nI l0, nI b0, nI 1, nI w, ac0, fa0, ini0, yr, ti) R)) := fun hs => ok_r ⟨k, b, m, s, l, re, r, ac, fa, ini, rfl, by omega, i1, i2, hx, ⟨p1, p2, p3, p4, p5, p6⟩, hs, hlink⟩
    have hms : m ≤ 150 ∧ s ≤ 4 := by
      rcases hx with ⟨_, g1, g2⟩ | ⟨_, x1, x2, x3, x4, x5, _⟩
      · omega
      · omega
    unfold m_X12_readsWork_B23
    dsimp only
    by_cases m0 : m = 0
    · rw [if_pos (show nI m ≤ 0 by rw [zle (by omega)]; exact m0)]
      refine stay (fun g => ?_)
      rcases hx with ⟨_, _, g2⟩ | ⟨_, x1, x2, _⟩
      · omega
      · omega
    · rw [if_neg (show ¬ (nI m ≤ 0) by rw [zle (by omega)]; exact m0)]
      by_cases s2 : s = 2
      · have hb : b < n := by
          rcases hx with ⟨_, g1, g2⟩ | ⟨g, _⟩
          · omega
          · exact g
        obtain ⟨x1, x2, x3, x4, x5, x6, x7, x8, x9, x10⟩ := hx.resolve_left (fun g => m0 g.2.1) |>.2
        have hm2 := (x8.mp s2).2
        have ku := kd_2.mp (x8.mp s2).1
        have kl := kd_1.mp (x9 s2)
        have c0 := h.2 b hb
        have c1 := h.2 (b + 1) kl.1
        have rex : re (1 + 7 * w) = nI k := by rw [p1 _ (by omega), p4]
        obtain ⟨b', m', s', n1, n2, n3, n4, n5⟩ := next_ok h (p := b + m) (by omega) (be := nI b) (ma := nI m) (nI_add b m) (nI s)
        rw [if_pos (show nI s = 2 by rw [s2]; rfl), ck_nI (by omega) (by omega), tn_nI (n := 1 + 7 * w) (by omega), if_neg (show ¬ ((4 : Int32) ≤ re (1 + 7 * w)) by rw [rex, show (4 : Int32) = nI 4 from rfl, nI_le_iff (by omega) (by omega)]; omega), rex, show nI (1 + 7 * w) + 1 + nI k = nI (2 + 7 * w + k) by rw [nI_s, nI_add]; congr 1; omega, show nI b + 1 = nI (b + 1) from nI_s b]
        simp (disch := omega) only [ck_nI, tn_nI]
        rw [n1, bd, c0.2.2, c1.2.2, show (26 : Int32) = nI 26 from rfl, show (65 : Int32) = nI 65 from rfl, show (97 : Int32) = nI 97 from rfl, codeV (by omega) (by omega) (by omega) (by omega) (by omega), upd_ne (f := re) (k := 2 + 7 * w + k) (j := 1 + 7 * w) _ (by omega), rex, show nI k + 1 = nI (k + 1) from nI_s k]
        refine ok_l ⟨b', m', s', b + m, _, upN (upN r (2 + 7 * w + k) (26 * (c b - 65) + (c (b + 1) - 97))) (1 + 7 * w) (k + 1), upd ac w (nI (k + 1)), upd fa (4 * w + k) (nI (c b)), upd ini (4 * w + k) (nI (c (b + 1))), rfl, by omega, by omega, n5, ⟨fun j hj => ?_, ?_, fun v hv => ?_, upN_eq _ _ _, upd_eq _ _ _, fun j hj => ?_⟩, fun R hR => hlink R (lexC h i2 hb hx (V := (nI w, ac, fa, ini, yr, ti)) (V' := (nI w, upd ac w (nI (k + 1)), upd fa (4 * w + k) (nI (c b)), upd ini (4 * w + k) (nI (c (b + 1))), yr, ti)) (st' := 2) ?_ n2 n3 n4 hR)⟩
        · by_cases e1 : j = 1 + 7 * w
          · rw [e1, upd_eq, upN_eq]
          · rw [upd_ne _ _ e1, upN_ne _ _ e1]
            by_cases e2 : j = 2 + 7 * w + k
            · rw [e2, upd_eq, upN_eq]
            · rw [upd_ne _ _ e2, upN_ne _ _ e2]; exact p1 j hj
        · rw [upN_ne _ _ (by omega), upN_ne _ _ (by omega)]; exact p2
        · refine GW_fr (p3 v hv) (fun j j1 j2 => ?_) (upd_ne _ _ (by omega)) (fun j hj => ⟨upd_ne _ _ (by omega), upd_ne _ _ (by omega)⟩) rfl rfl
          rw [upN_ne _ _ (by omega), upN_ne _ _ (by omega)]
        · rw [upN_ne _ _ (by omega)]
          by_cases e : j = k
          · subst e
            rw [upN_eq, upd_eq, upd_eq]
            refine ⟨by omega, by congr 1; omega, by congr 1; omega⟩
          · rw [upN_ne _ _ (by omega), upd_ne _ _ (by omega), upd_ne _ _ (by omega)]
            exact p6 j (by omega)
        · dsimp only
          unfold m_X10_takes m_X10_takes_J68 m_X10_takes_J73
          have ta := fun R => tkA h hb hx hw (by omega) R (fa := fa) (ini := ini) p5
          rw [ta, if_pos (show s = 2 ∧ k < 4 from ⟨s2, hk⟩)]
          by_cases k0 : k = 0
          · rw [if_pos k0, if_neg (show ¬ (nI 1 = 0) by decide), if_pos (show nI 1 = 1 from rfl), bd]
            exact ckb_1
          · rw [if_neg k0, if_neg (show ¬ (nI 2 = 0) by decide), if_neg (show ¬ (nI 2 = 1) by decide), if_pos (show nI 2 = 2 from rfl), bd]
            dsimp only
            rw [if_neg one0]
            exact ckb_1
      · rw [if_neg (show ¬ (nI s = 2) by rw [show (2 : Int32) = nI 2 from rfl, nI_eq_iff (by omega) (by omega)]; exact s2)]
        exact stay (fun g => s2 g.1)
  · rintro st ⟨b, m, s, l, re, r, ac, fa, ini, rfl, i1, i2, hx, ⟨p1, p2, p3, p4, p5, p6⟩, hlink⟩
    have rex : re (1 + 7 * w) = nI 4 := by rw [p1 _ (by omega), p4]
    have fin : OkS (some (Sum.inr (re, nI b, nI m, nI s)) : Option (((Nat → Int32) × Int32 × Int32 × Int32) ⊕ ((Nat → Int32) × Int32 × Int32 × Int32))) (Sum.elim (fun _ => False) (fun out => ∃ k b m s l re r ac fa ini, out = (re, nI b, nI m, nI s) ∧ k ≤ 4 ∧ b0 ≤ b ∧ l ≤ b ∧ LX n c T_co b m s ∧ PW re r ac fa ini yr ti w k ∧ ¬ (s = 2 ∧ k < 4) ∧ ∀ R, Cv (m_X10_read_B17 T_co (nI n)) n b (nI l, nI b, nI (if k = 0 then 1 else 2), nI w, ac, fa, ini, yr, ti) R → Cv (m_X10_read_B17 T_co (nI n)) n b0 (nI l0, nI b0, nI 1, nI w, ac0, fa0, ini0, yr, ti) R)) := ok_r ⟨4, b, m, s, l, re, r, ac, fa, ini, rfl, by omega, i1, i2, hx, ⟨p1, p2, p3, p4, p5, p6⟩, by omega, hlink⟩
    unfold m_X12_readsWork_B23
    dsimp only
    rw [ck_nI (by omega) (by omega), tn_nI (n := 1 + 7 * w) (by omega), if_pos (show (4 : Int32) ≤ re (1 + 7 * w) by rw [rex]; decide)]
    split
    · exact fin
    · split
      · exact fin
      · exact fin
