/-! ===== a work behind its word; all works; loadWorks ===== -/
theorem tkN {n : Nat} {c : Nat → Nat} {T_co M_te : Nat → Int32} (h : TX n c T_co M_te) {b m s w k : Nat} (hb : b < n) (hx : LX n c T_co b m s) (hw : w < 8) (hk : k ≤ 4) {ac fa ini yr ti : Nat → Int32} (hac : ac w = nI k) (hs : ¬ (s = 2 ∧ k < 4)) : (∃ z, m_X10_takes T_co (nI n) (nI 1) (nI w) ac fa ini yr ti (nI b) (nI m) = some (0, z)) ∧ (¬ (s = 3 ∧ m = 2) → ∃ z, m_X10_takes T_co (nI n) (nI 2) (nI w) ac fa ini yr ti (nI b) (nI m) = some (0, z)) ∧ (s = 3 ∧ m = 2 → m_X10_takes T_co (nI n) (nI 2) (nI w) ac fa ini yr ti (nI b) (nI m) = some (1, 3, nI w, ac, fa, ini, upd yr w (nI (10 * (c b - 48) + (c (b + 1) - 48))), ti)) := by
  have hn := h.1
  have ta := fun R => tkA h hb hx hw hk R (fa := fa) (ini := ini) hac
  unfold m_X10_takes m_X10_takes_J68 m_X10_takes_J73 m_X10_takesYear
  refine ⟨?_, fun g => ?_, fun g => ?_⟩
  · rw [if_neg (show ¬ (nI 1 = 0) by decide), if_pos (show nI 1 = 1 from rfl), ta, if_neg hs, bd]
    exact ⟨_, ckb_0⟩
  · rw [if_neg (show ¬ (nI 2 = 0) by decide), if_neg (show ¬ (nI 2 = 1) by decide), if_pos (show nI 2 = 2 from rfl), ta, if_neg hs, bd]
    dsimp only
    rw [if_pos rfl, yea_ok h hb hx, bd, if_neg g, if_pos rfl, bd]
    dsimp only
    rw [if_pos rfl]
    exact ⟨_, ckb_0⟩
  · have hx' := hx
    rcases hx' with ⟨e, _⟩ | ⟨_, x1, x2, x3, x4, x5, x6, x7, x8, x9, x10⟩
    · omega
    have d0 := kd_3.mp (x7.mp g.1)
    have d1 := kd_3.mp (x10 g.1 1 (by omega))
    rw [if_neg (show ¬ (nI 2 = 0) by decide), if_neg (show ¬ (nI 2 = 1) by decide), if_pos (show nI 2 = 2 from rfl), ta, if_neg hs, bd]
    dsimp only
    have c0 := h.2 b hb
    have c1 := h.2 (b + 1) d1.1
    rw [if_pos rfl, yea_ok h hb hx, bd, if_pos g, if_neg one0, show nI b + 1 = nI (b + 1) from nI_s b, ck_nI (by omega) (by omega), ck_nI (by omega) (by omega), ck_nI (by omega) (by omega), bd]
    dsimp only
    rw [if_neg one0, tn_nI (n := b) (by omega), tn_nI (n := b + 1) (by omega), tn_nI (n := w) (by omega), c0.2.1, c1.2.1, show (10 : Int32) = nI 10 from rfl, show (48 : Int32) = nI 48 from rfl, codeV (by omega) (by omega) (by omega) (by omega) (by omega)]
    exact ckb_1
theorem tkT {n : Nat} {c : Nat → Nat} {T_co M_te : Nat → Int32} (h : TX n c T_co M_te) {b m s w : Nat} (hb : b < n) (hx : LX n c T_co b m s) (hw : w < 8) {ac fa ini yr ti : Nat → Int32} : (¬ (s = 1 ∧ m = 1) → ∃ z, m_X10_takes T_co (nI n) (nI 3) (nI w) ac fa ini yr ti (nI b) (nI m) = some (0, z)) ∧ (s = 1 ∧ m = 1 → m_X10_takes T_co (nI n) (nI 3) (nI w) ac fa ini yr ti (nI b) (nI m) = some (1, 4, nI w, ac, fa, ini, yr, upd ti w (nI (c b)))) := by
  have hn := h.1
  have c0 := h.2 b hb
  unfold m_X10_takes m_X10_takesTitle
  rw [if_neg (show ¬ (nI 3 = 0) by decide), if_neg (show ¬ (nI 3 = 1) by decide), if_neg (show ¬ (nI 3 = 2) by decide), if_pos (show nI 3 = 3 from rfl), tit_ok h hb hx, bd, ck_nI (by omega) (by omega), ck_nI (by omega) (by omega), tn_nI (n := b) (by omega), tn_nI (n := w) (by omega), c0.2.1]
  refine ⟨fun g => ?_, fun g => ?_⟩
  · rw [if_neg g, if_pos rfl, bd]
    exact ⟨_, ckb_0⟩
  · rw [if_pos g, if_neg one0, bd]
    exact ckb_1
theorem tkS {n : Nat} {c : Nat → Nat} {T_co M_te : Nat → Int32} (h : TX n c T_co M_te) {b w : Nat} (hb : b < n) {ac fa ini yr ti : Nat → Int32} (m : Int32) : (c b ≠ 59 → ∃ z, m_X10_takes T_co (nI n) (nI 4) (nI w) ac fa ini yr ti (nI b) m = some (0, z)) ∧ (c b = 59 → m_X10_takes T_co (nI n) (nI 4) (nI w) ac fa ini yr ti (nI b) m = some (1, nI 0, nI (w + 1), ac, fa, ini, yr, ti)) := by
  have hn := h.1
  have c0 := h.2 b hb
  unfold m_X10_takes m_X10_takesSemicolon
  rw [if_neg (show ¬ (nI 4 = 0) by decide), if_neg (show ¬ (nI 4 = 1) by decide), if_neg (show ¬ (nI 4 = 2) by decide), if_neg (show ¬ (nI 4 = 3) by decide), ck_nI (by omega) (by omega), tn_nI (n := b) (by omega), c0.2.1]
  refine ⟨fun g => ?_, fun g => ?_⟩
  · rw [if_neg (show ¬ (nI (c b) = 59) by rw [show (59 : Int32) = nI 59 from rfl, nI_eq_iff (by omega) (by omega)]; exact g), bd]
    exact ⟨_, ckb_0⟩
  · rw [if_pos (show nI (c b) = 59 by rw [g]; rfl), bd, nI_s]
    exact ckb_1
theorem LX_b {n : Nat} {c : Nat → Nat} {T_co : Nat → Int32} {b m s : Nat} (hx : LX n c T_co b m s) : b ≤ n ∧ b + m ≤ n ∧ s ≤ 4 ∧ (m = 0 ↔ b = n) := by
  rcases hx with ⟨e, e1, e2⟩ | ⟨e, x1, x2, x3, x4, x5, _⟩ <;> omega
theorem reads2 {n : Nat} {c : Nat → Nat} {T_co M_te : Nat → Int32} (h : TX n c T_co M_te) {w b m : Nat} (hw : w < 8) (hbm : b + m ≤ n) {re : Nat → Int32} {r : Nat → Nat} {ac fa ini yr ti : Nat → Int32} (hre : ∀ j, j < 57 → re j = nI (r j)) (h0 : r 0 = w) (hG : ∀ v, v < w → GW r ac fa ini yr ti v) (s : Nat) :
    ∃ out b1, m_X12_readsWork M_te (nI n) re (nI b) (nI m) (nI s) = some out ∧ b + m ≤ b1 ∧ b1 ≤ n ∧ (∀ i, b + m ≤ i → i < b1 → c i = 32) ∧ ((out.1 = 0 ∧ ∃ e R, e ≤ n ∧ out.2.2.1 = nI e ∧ ErrC n R e ∧ Cv (m_X10_read_B17 T_co (nI n)) n b1 (nI (b + m), nI b1, nI 1, nI w, upd ac w (nI 0), fa, ini, yr, ti) R) ∨ (∃ b3 m3 s3 re' r' ac' fa' ini' yr' ti', out = (1, re', nI b3, nI m3, nI s3) ∧ b1 ≤ b3 ∧ b3 + m3 ≤ n ∧ (∀ j, j < 57 → re' j = nI (r' j)) ∧ r' 0 = w + 1 ∧ (∀ v, v < w + 1 → GW r' ac' fa' ini' yr' ti' v) ∧ ∀ b4, b3 + m3 ≤ b4 → b4 ≤ n → (∀ i, b3 + m3 ≤ i → i < b4 → c i = 32) → ∀ R, Cv (m_X10_read_B17 T_co (nI n)) n b4 (nI (b3 + m3), nI b4, nI 0, nI (w + 1), ac', fa', ini', yr', ti') R → Cv (m_X10_read_B17 T_co (nI n)) n b1 (nI (b + m), nI b1, nI 1, nI w, upd ac w (nI 0), fa, ini, yr, ti) R)) := by
  have hn := h.1
  obtain ⟨b1, m1, s1, n1, n2, n3, n4, n5⟩ := next_ok h (p := b + m) hbm (be := nI b) (ma := nI m) (nI_add b m) (nI s)
  have hP : PW (upd re (1 + 7 * w) 0) (upN r (1 + 7 * w) 0) (upd ac w (nI 0)) fa ini yr ti w 0 := by
    refine ⟨fun j hj => ?_, ?_, fun v hv => ?_, upN_eq _ _ _, upd_eq _ _ _, fun j hj => absurd hj (by omega)⟩
    · by_cases e : j = 1 + 7 * w
      · rw [e, upd_eq, upN_eq]; rfl
      · rw [upd_ne _ _ e, upN_ne _ _ e]; exact hre j hj
    · rw [upN_ne _ _ (by omega)]; exact h0
    · exact GW_fr (hG v hv) (fun j j1 j2 => upN_ne _ _ (by omega)) (upd_ne _ _ (by omega)) (fun j hj => ⟨rfl, rfl⟩) rfl rfl
  obtain ⟨out1, a1, k, b2, m2, s2, l, re1, r1, ac1, fa1, ini1, rfl, hk, a2, a3, hx2, ⟨p1, p2, p3, p4, p5, p6⟩, hns, hlink⟩ := auL h hw n2 n5 hP
  have hre0 : re 0 = nI w := by rw [hre 0 (by omega), h0]
  have rex : re1 (1 + 7 * w) = nI k := by rw [p1 _ (by omega), p4]
  have re10 : re1 0 = nI w := by rw [p1 0 (by omega), p2]
  have hB2 := LX_b hx2
  unfold m_X12_readsWork m_X12_readsWork_J135 m_X12_readsWork_J195 m_X12_readsWork_J257 m_X12_readsWork_J258
  rw [ck_lit (by decide) (by decide), show Int32.toNatClampNeg 0 = 0 from rfl, hre0, show (1 : Int32) + 7 * nI w = nI (1 + 7 * w) by rw [show (1 : Int32) = nI 1 from rfl, show (7 : Int32) = nI 7 from rfl, nI_mul, nI_add], ck_nI (by omega) (by omega), tn_nI (n := 1 + 7 * w) (by omega), n1, bd]
  dsimp only
  rw [a1, bd, ck_nI (by omega) (by omega)]
  dsimp only
  by_cases k0 : k = 0
  · rw [if_pos (show re1 (1 + 7 * w) = 0 by rw [rex, k0]; rfl)]
    obtain ⟨R, r1', r2'⟩ := errC h (t := 1) a3 hx2 (by omega) (V := (nI w, ac1, fa1, ini1, yr, ti)) (fun g => (tkN h g hx2 hw hk p5 hns).1)
    refine ⟨_, b1, rfl, n2, n3, n4, Or.inl ⟨rfl, b2, R, by omega, rfl, r1', hlink R ?_⟩⟩
    rw [if_pos k0]
    exact r2'
  · have link2 : ∀ R, Cv (m_X10_read_B17 T_co (nI n)) n b2 (nI l, nI b2, nI 2, nI w, ac1, fa1, ini1, yr, ti) R → Cv (m_X10_read_B17 T_co (nI n)) n b1 (nI (b + m), nI b1, nI 1, nI w, upd ac w (nI 0), fa, ini, yr, ti) R := by
      intro R hR
      refine hlink R ?_
      rw [if_neg k0]
      exact hR
    rw [if_neg (show ¬ (re1 (1 + 7 * w) = 0) by rw [rex, zeq (by omega)]; exact k0)]
    have fail2 : ¬ (s2 = 3 ∧ m2 = 2) → ∃ R, ErrC n R b2 ∧ Cv (m_X10_read_B17 T_co (nI n)) n b1 (nI (b + m), nI b1, nI 1, nI w, upd ac w (nI 0), fa, ini, yr, ti) R := by
      intro g
      obtain ⟨R, r1', r2'⟩ := errC h (t := 2) a3 hx2 (by omega) (V := (nI w, ac1, fa1, ini1, yr, ti)) (fun g2 => (tkN h g2 hx2 hw hk p5 hns).2.1 g)
      exact ⟨R, r1', link2 R r2'⟩
    by_cases g3 : s2 = 3
    · rw [if_pos (show nI s2 = 3 by rw [g3]; rfl)]
      by_cases g2 : m2 = 2
      · rw [if_pos (show nI m2 = 2 by rw [g2]; rfl)]
        have hb2 : b2 < n := by omega
        have tk2 := (tkN h hb2 hx2 hw hk (fa := fa1) (ini := ini1) (yr := yr) (ti := ti) p5 hns).2.2 ⟨g3, g2⟩
        obtain ⟨x1, x2, x3, x4, x5, x6, x7, x8, x9, x10⟩ := (hx2.resolve_left (fun g => by omega)).2
        have d0 := kd_3.mp (x7.mp g3)
        have d1 := kd_3.mp (x10 g3 1 (by omega))
        have c0 := h.2 b2 hb2
        have c1 := h.2 (b2 + 1) d1.1
        obtain ⟨b3, m3, s3, y1, y2, y3, y4, y5⟩ := next_ok h (p := b2 + m2) (by omega) (be := nI b2) (ma := nI m2) (nI_add b2 m2) (nI s2)
        have hB3 := LX_b y5
        have link3 : ∀ R, Cv (m_X10_read_B17 T_co (nI n)) n b3 (nI (b2 + m2), nI b3, nI 3, nI w, ac1, fa1, ini1, upd yr w (nI (10 * (c b2 - 48) + (c (b2 + 1) - 48))), ti) R → Cv (m_X10_read_B17 T_co (nI n)) n b1 (nI (b + m), nI b1, nI 1, nI w, upd ac w (nI 0), fa, ini, yr, ti) R := fun R hR => link2 R (lexC h a3 hb2 hx2 (V := (nI w, ac1, fa1, ini1, yr, ti)) (st := nI 2) (st' := nI 3) (V' := (nI w, ac1, fa1, ini1, upd yr w (nI (10 * (c b2 - 48) + (c (b2 + 1) - 48))), ti)) tk2 y2 y3 y4 hR)
        rw [show nI b2 + 1 = nI (b2 + 1) from nI_s b2, show nI (1 + 7 * w) + 5 = nI (6 + 7 * w) by rw [show (5 : Int32) = nI 5 from rfl, nI_add]; congr 1; omega, show nI (1 + 7 * w) + 6 = nI (7 + 7 * w) by rw [show (6 : Int32) = nI 6 from rfl, nI_add]; congr 1; omega, ck_nI (i := b2) (by omega) (by omega), ck_nI (i := b2 + 1) (by omega) (by omega), ck_nI (i := 6 + 7 * w) (by omega) (by omega), tn_nI (n := b2) (by omega), tn_nI (n := b2 + 1) (by omega), tn_nI (n := 6 + 7 * w) (by omega), tn_nI (n := 7 + 7 * w) (by omega), c0.2.2, c1.2.2, show (10 : Int32) = nI 10 from rfl, show (48 : Int32) = nI 48 from rfl, codeV (by omega) (by omega) (by omega) (by omega) (by omega), y1, bd]
        dsimp only
        have fail3 : ¬ (s3 = 1 ∧ m3 = 1) → ∃ R, ErrC n R b3 ∧ Cv (m_X10_read_B17 T_co (nI n)) n b1 (nI (b + m), nI b1, nI 1, nI w, upd ac w (nI 0), fa, ini, yr, ti) R := by
          intro g
          obtain ⟨R, r1', r2'⟩ := errC h (t := 3) y2 y5 (by omega) (V := (nI w, ac1, fa1, ini1, upd yr w (nI (10 * (c b2 - 48) + (c (b2 + 1) - 48))), ti)) (fun g2 => (tkT h g2 y5 hw).1 g)
          exact ⟨R, r1', link3 R r2'⟩
        by_cases t1 : s3 = 1
        · rw [if_pos (show nI s3 = 1 by rw [t1]; rfl)]
          by_cases t2 : m3 = 1
          · rw [if_pos (show nI m3 = 1 by rw [t2]; rfl)]
            have hb3 : b3 < n := by omega
            have tk3 := (tkT h hb3 y5 hw (ac := ac1) (fa := fa1) (ini := ini1) (yr := upd yr w (nI (10 * (c b2 - 48) + (c (b2 + 1) - 48)))) (ti := ti)).2 ⟨t1, t2⟩
            obtain ⟨z1, z2, z3, z4, z5, z6, z7, z8, z9, z10⟩ := (y5.resolve_left (fun g => by omega)).2
            have e0 := kd_1.mp (z6.mp t1)
            have c2 := h.2 b3 hb3
            obtain ⟨b4, m4, s4, u1, u2, u3, u4, u5⟩ := next_ok h (p := b3 + m3) (by omega) (be := nI b3) (ma := nI m3) (nI_add b3 m3) (nI s3)
            have hB4 := LX_b u5
            have link4 : ∀ R, Cv (m_X10_read_B17 T_co (nI n)) n b4 (nI (b3 + m3), nI b4, nI 4, nI w, ac1, fa1, ini1, upd yr w (nI (10 * (c b2 - 48) + (c (b2 + 1) - 48))), upd ti w (nI (c b3))) R → Cv (m_X10_read_B17 T_co (nI n)) n b1 (nI (b + m), nI b1, nI 1, nI w, upd ac w (nI 0), fa, ini, yr, ti) R := fun R hR => link3 R (lexC h y2 hb3 y5 (V := (nI w, ac1, fa1, ini1, upd yr w (nI (10 * (c b2 - 48) + (c (b2 + 1) - 48))), ti)) (st := nI 3) (st' := nI 4) (V' := (nI w, ac1, fa1, ini1, upd yr w (nI (10 * (c b2 - 48) + (c (b2 + 1) - 48))), upd ti w (nI (c b3)))) tk3 u2 u3 u4 hR)
            rw [ck_nI (i := b3) (by omega) (by omega), ck_nI (i := 7 + 7 * w) (by omega) (by omega), tn_nI (n := b3) (by omega), c2.2.2, show (97 : Int32) = nI 97 from rfl, nI_sub (by omega) (by omega), u1, bd, ck_lit (by decide) (by decide), ck_lit (by decide) (by decide), upd_ne (k := 7 + 7 * w) (j := 0) _ _ (by omega), upd_ne (k := 6 + 7 * w) (j := 0) _ _ (by omega), re10, show nI w + 1 = nI (w + 1) from nI_s w]
            dsimp only
            have fail4 : (b4 < n → c b4 ≠ 59) → ∃ R, ErrC n R b4 ∧ Cv (m_X10_read_B17 T_co (nI n)) n b1 (nI (b + m), nI b1, nI 1, nI w, upd ac w (nI 0), fa, ini, yr, ti) R := by
              intro g
              obtain ⟨R, r1', r2'⟩ := errC h (t := 4) u2 u5 (by omega) (V := (nI w, ac1, fa1, ini1, upd yr w (nI (10 * (c b2 - 48) + (c (b2 + 1) - 48))), upd ti w (nI (c b3)))) (fun g2 => (tkS h g2 (nI m4)).1 (g g2))
              exact ⟨R, r1', link4 R r2'⟩
            by_cases v0 : m4 = 0
            · rw [if_pos (show nI m4 ≤ 0 by rw [zle (by omega)]; exact v0), ckb_0]
              obtain ⟨R, r1', r2'⟩ := fail4 (fun g => absurd g (by omega))
              exact ⟨_, b1, rfl, n2, n3, n4, Or.inl ⟨rfl, b4, R, by omega, rfl, r1', r2'⟩⟩
            · have hb4 : b4 < n := by omega
              have c4 := h.2 b4 hb4
              rw [if_neg (show ¬ (nI m4 ≤ 0) by rw [zle (by omega)]; exact v0), ck_nI (i := b4) (by omega) (by omega), tn_nI (n := b4) (by omega), c4.2.2]
              by_cases v1 : c b4 = 59
              · rw [if_pos (show nI (c b4) = 59 by rw [v1]; rfl), ckb_1]
                have tk4 := (tkS h hb4 (w := w) (ac := ac1) (fa := fa1) (ini := ini1) (yr := upd yr w (nI (10 * (c b2 - 48) + (c (b2 + 1) - 48)))) (ti := upd ti w (nI (c b3))) (nI m4)).2 v1
                refine ⟨_, b1, rfl, n2, n3, n4, Or.inr ⟨b4, m4, s4, _, upN (upN (upN r1 (6 + 7 * w) (10 * (c b2 - 48) + (c (b2 + 1) - 48))) (7 + 7 * w) (c b3 - 97)) 0 (w + 1), ac1, fa1, ini1, upd yr w (nI (10 * (c b2 - 48) + (c (b2 + 1) - 48))), upd ti w (nI (c b3)), rfl, by omega, by omega, fun j hj => ?_, upN_eq _ _ _, fun v hv => ?_, fun b5 w1 w2 w3 R hR => link4 R (lexC h u2 hb4 u5 (V := (nI w, ac1, fa1, ini1, upd yr w (nI (10 * (c b2 - 48) + (c (b2 + 1) - 48))), upd ti w (nI (c b3)))) (st := nI 4) (st' := nI 0) (V' := (nI (w + 1), ac1, fa1, ini1, upd yr w (nI (10 * (c b2 - 48) + (c (b2 + 1) - 48))), upd ti w (nI (c b3)))) tk4 w1 w2 w3 hR)⟩⟩
                · by_cases j0 : j = 0
                  · rw [j0, upd_eq, upN_eq]
                  · rw [upd_ne _ _ j0, upN_ne _ _ j0]
                    by_cases j7 : j = 7 + 7 * w
                    · rw [j7, upd_eq, upN_eq]
                    · rw [upd_ne _ _ j7, upN_ne _ _ j7]
                      by_cases j6 : j = 6 + 7 * w
                      · rw [j6, upd_eq, upN_eq]
                      · rw [upd_ne _ _ j6, upN_ne _ _ j6]; exact p1 j hj
                · by_cases ev : v = w
                  · subst ev
                    unfold GW
                    rw [upN_ne _ _ (show 1 + 7 * v ≠ 0 by omega), upN_ne _ _ (show 1 + 7 * v ≠ 7 + 7 * v by omega), upN_ne _ _ (show 1 + 7 * v ≠ 6 + 7 * v by omega), upN_ne _ _ (show 6 + 7 * v ≠ 0 by omega), upN_ne _ _ (show 6 + 7 * v ≠ 7 + 7 * v by omega), upN_eq, upN_ne _ _ (show 7 + 7 * v ≠ 0 by omega), upN_eq, p4, upd_eq, upd_eq]
                    refine ⟨by omega, p5, fun j hj => ?_, ⟨by omega, rfl⟩, by omega, by congr 1; omega⟩
                    rw [upN_ne _ _ (show 2 + 7 * v + j ≠ 0 by omega), upN_ne _ _ (show 2 + 7 * v + j ≠ 7 + 7 * v by omega), upN_ne _ _ (show 2 + 7 * v + j ≠ 6 + 7 * v by omega)]
                    exact p6 j hj
                  · refine GW_fr (p3 v (by omega)) (fun j j1 j2 => ?_) rfl (fun j hj => ⟨rfl, rfl⟩) (upd_ne _ _ ev) (upd_ne _ _ ev)
                    rw [upN_ne _ _ (by omega), upN_ne _ _ (by omega), upN_ne _ _ (by omega)]
              · rw [if_neg (show ¬ (nI (c b4) = 59) by rw [show (59 : Int32) = nI 59 from rfl, nI_eq_iff (by omega) (by omega)]; exact v1), ckb_0]
                obtain ⟨R, r1', r2'⟩ := fail4 (fun _ => v1)
                exact ⟨_, b1, rfl, n2, n3, n4, Or.inl ⟨rfl, b4, R, by omega, rfl, r1', r2'⟩⟩
          · rw [if_neg (show ¬ (nI m3 = 1) by rw [show (1 : Int32) = nI 1 from rfl, nI_eq_iff (by omega) (by omega)]; exact t2)]
            obtain ⟨R, r1', r2'⟩ := fail3 (fun g => t2 g.2)
            exact ⟨_, b1, rfl, n2, n3, n4, Or.inl ⟨rfl, b3, R, by omega, rfl, r1', r2'⟩⟩
        · rw [if_neg (show ¬ (nI s3 = 1) by rw [show (1 : Int32) = nI 1 from rfl, nI_eq_iff (by omega) (by omega)]; exact t1)]
          obtain ⟨R, r1', r2'⟩ := fail3 (fun g => t1 g.1)
          exact ⟨_, b1, rfl, n2, n3, n4, Or.inl ⟨rfl, b3, R, by omega, rfl, r1', r2'⟩⟩
      · rw [if_neg (show ¬ (nI m2 = 2) by rw [show (2 : Int32) = nI 2 from rfl, nI_eq_iff (by omega) (by omega)]; exact g2)]
        obtain ⟨R, r1', r2'⟩ := fail2 (fun g => g2 g.2)
        exact ⟨_, b1, rfl, n2, n3, n4, Or.inl ⟨rfl, b2, R, by omega, rfl, r1', r2'⟩⟩
    · rw [if_neg (show ¬ (nI s2 = 3) by rw [show (3 : Int32) = nI 3 from rfl, nI_eq_iff (by omega) (by omega)]; exact g3)]
      obtain ⟨R, r1', r2'⟩ := fail2 (fun g => g3 g.1)
      exact ⟨_, b1, rfl, n2, n3, n4, Or.inl ⟨rfl, b2, R, by omega, rfl, r1', r2'⟩⟩
