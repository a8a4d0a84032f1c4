/-! ===== all works of a text ===== -/
theorem main2 {n : Nat} {c : Nat → Nat} {T_co M_te : Nat → Int32} (h : TX n c T_co M_te) : ∀ d b, n ≤ b + d → b ≤ n → ∀ {m s l w : Nat} {re : Nat → Int32} {r : Nat → Nat} {ac fa ini yr ti : Nat → Int32}, LX n c T_co b m s → l ≤ b → w ≤ 8 → (∀ j, j < 57 → re j = nI (r j)) → r 0 = w → (∀ v, v < w → GW r ac fa ini yr ti v) →
    ∃ R R', Cv (m_X10_read_B17 T_co (nI n)) n b (nI l, nI b, nI 0, nI w, ac, fa, ini, yr, ti) R ∧ Cv (m_X12_loadWorks_B21 M_te (nI n)) n b (re, nI b, nI m, nI s) R' ∧ ((∃ e z', e ≤ n ∧ ErrC n R e ∧ R' = .inl z' ∧ z'.2.1 = nI e) ∨ (∃ w' re' r' ac' fa' ini' yr' ti' q, w' ≤ 8 ∧ R = .inr (nI 0, nI w', ac', fa', ini', yr', ti') ∧ R' = .inr (re', q) ∧ (∀ j, j < 57 → re' j = nI (r' j)) ∧ r' 0 = w' ∧ ∀ v, v < w' → GW r' ac' fa' ini' yr' ti' v)) := by
  have hn := h.1
  intro d
  induction d with
  | zero =>
    intro b hb hb' m s l w re r ac fa ini yr ti hx hl hw hre h0 hG
    have hB := LX_b hx
    have : b = n := by omega
    subst this
    have hm : m = 0 := by omega
    refine ⟨_, .inr (re, nI b, nI m, nI s), endC hn, Cv_end (by omega) ?_, Or.inr ⟨w, re, r, ac, fa, ini, yr, ti, _, hw, rfl, rfl, hre, h0, hG⟩⟩
    unfold m_X12_loadWorks_B21
    rw [if_pos (show nI m ≤ 0 by rw [zle (by omega)]; exact hm)]
  | succ d ih =>
    intro b hb hb' m s l w re r ac fa ini yr ti hx hl hw hre h0 hG
    have hB := LX_b hx
    by_cases hm : m = 0
    · have : b = n := by omega
      subst this
      refine ⟨_, .inr (re, nI b, nI m, nI s), endC hn, Cv_end (by omega) ?_, Or.inr ⟨w, re, r, ac, fa, ini, yr, ti, _, hw, rfl, rfl, hre, h0, hG⟩⟩
      unfold m_X12_loadWorks_B21
      rw [if_pos (show nI m ≤ 0 by rw [zle (by omega)]; exact hm)]
    · have hbn : b < n := by omega
      have hm' : ¬ (nI m ≤ 0) := by rw [zle (by omega)]; exact hm
      have hre0 : re 0 = nI w := by rw [hre 0 (by omega), h0]
      have bad : ∀ z, m_X10_takes T_co (nI n) (nI 0) (nI w) ac fa ini yr ti (nI b) (nI m) = some (0, z) → m_X12_loadWorks_B21 M_te (nI n) (re, nI b, nI m, nI s) = some (.inr (.inl (re, nI b, nI m, nI s))) → ∃ R R', Cv (m_X10_read_B17 T_co (nI n)) n b (nI l, nI b, nI 0, nI w, ac, fa, ini, yr, ti) R ∧ Cv (m_X12_loadWorks_B21 M_te (nI n)) n b (re, nI b, nI m, nI s) R' ∧ ((∃ e z', e ≤ n ∧ ErrC n R e ∧ R' = .inl z' ∧ z'.2.1 = nI e) ∨ (∃ w' re' r' ac' fa' ini' yr' ti' q, w' ≤ 8 ∧ R = .inr (nI 0, nI w', ac', fa', ini', yr', ti') ∧ R' = .inr (re', q) ∧ (∀ j, j < 57 → re' j = nI (r' j)) ∧ r' 0 = w' ∧ ∀ v, v < w' → GW r' ac' fa' ini' yr' ti' v)) := fun z t1 t2 => ⟨_, _, lexF h hl hbn hx (V := (nI w, ac, fa, ini, yr, ti)) t1, Cv_end hb' t2, Or.inl ⟨b, _, hb', Or.inl ⟨_, rfl, rfl⟩, rfl, rfl⟩⟩
      rcases ww2 h hbn hx with ⟨f1, f2⟩ | ⟨f1, f2⟩
      · by_cases h8 : w = 8
        · refine bad (nI 0, nI w, ac, fa, ini, yr, ti) ?_ ?_
          · unfold m_X10_takes m_X10_takesWorkWord m_X10_takesWorkWord_J24
            rw [if_pos (show nI 0 = 0 from rfl), f1, bd, if_neg one0, if_neg (show ¬ (nI w < 8) by rw [h8]; decide), bd]
            exact ckb_0
          · unfold m_X12_loadWorks_B21
            dsimp only
            rw [if_neg hm', f2, bd, if_neg one0, ck_lit (by decide) (by decide), show Int32.toNatClampNeg 0 = 0 from rfl, if_pos (show re 0 = 8 by rw [hre0, h8]; rfl)]
        · obtain ⟨out, b1, g1, g2, g3, g4, g5⟩ := reads2 h (w := w) (b := b) (m := m) (by omega) (by omega) hre h0 hG s
          have tk : m_X10_takes T_co (nI n) (nI 0) (nI w) ac fa ini yr ti (nI b) (nI m) = some (1, nI 1, nI w, upd ac w (nI 0), fa, ini, yr, ti) := by
            unfold m_X10_takes m_X10_takesWorkWord m_X10_takesWorkWord_J24
            rw [if_pos (show nI 0 = 0 from rfl), f1, bd, if_neg one0, if_pos (show nI w < 8 by rw [show (8 : Int32) = nI 8 from rfl, nI_lt_iff (by omega) (by omega)]; omega), ck_nI (by omega) (by omega), tn_nI (by omega), bd]
            exact ckb_1
          have link : ∀ R, Cv (m_X10_read_B17 T_co (nI n)) n b1 (nI (b + m), nI b1, nI 1, nI w, upd ac w (nI 0), fa, ini, yr, ti) R → Cv (m_X10_read_B17 T_co (nI n)) n b (nI l, nI b, nI 0, nI w, ac, fa, ini, yr, ti) R := fun R hR => lexC h hl hbn hx (V := (nI w, ac, fa, ini, yr, ti)) (st := nI 0) (st' := nI 1) (V' := (nI w, upd ac w (nI 0), fa, ini, yr, ti)) tk g2 g3 g4 hR
          have body : m_X12_loadWorks_B21 M_te (nI n) (re, nI b, nI m, nI s) = (if out.1 = 0 then some (.inr (.inl (out.2.1, out.2.2.1, out.2.2.2.1, out.2.2.2.2))) else (m_X12_nextLexeme M_te (nI n) out.2.2.1 out.2.2.2.1 out.2.2.2.2).bind fun e18 => some (.inl (out.2.1, e18.1, e18.2.1, e18.2.2))) := by
            unfold m_X12_loadWorks_B21
            dsimp only
            rw [if_neg hm', f2, bd, if_neg one0, ck_lit (by decide) (by decide), show Int32.toNatClampNeg 0 = 0 from rfl, if_neg (show ¬ (re 0 = 8) by rw [hre0, show (8 : Int32) = nI 8 from rfl, nI_eq_iff (by omega) (by omega)]; exact h8), g1, bd]
          rcases g5 with ⟨o1, e, R, e1, e2, e3, e4⟩ | ⟨b3, m3, s3, re', r', ac', fa', ini', yr', ti', rfl, q1, q2, q3, q4, q5, q6⟩
          · rw [if_pos o1] at body
            exact ⟨R, _, link R e4, Cv_end hb' body, Or.inl ⟨e, _, e1, e3, rfl, e2⟩⟩
          · dsimp only at body
            rw [if_neg one0] at body
            obtain ⟨b4, m4, s4, n1, n2, n3, n4, n5⟩ := next_ok h (p := b3 + m3) q2 (be := nI b3) (ma := nI m3) (nI_add b3 m3) (nI s3)
            rw [n1, bd] at body
            have hB4 := LX_b n5
            obtain ⟨R, R', k1, k2, k3⟩ := ih b4 (by omega) n3 n5 n2 (by omega) q3 q4 q5
            refine ⟨R, R', link R (q6 b4 n2 n3 n4 R k1), ?_, k3⟩
            refine Cv_step hb' body ?_
            intro fuel hf
            exact k2 fuel (by omega)
      · refine bad (nI 0, nI w, ac, fa, ini, yr, ti) ?_ ?_
        · unfold m_X10_takes m_X10_takesWorkWord m_X10_takesWorkWord_J24
          rw [if_pos (show nI 0 = 0 from rfl), f1, bd, if_pos rfl, bd]
          exact ckb_0
        · unfold m_X12_loadWorks_B21
          dsimp only
          rw [if_neg hm', f2, bd, if_pos rfl]
theorem any_nI (x : Int32) : ∃ k, x = nI k := ⟨x.toBitVec.toNat, Int32.toBitVec_inj.mp (by
  unfold nI
  rw [Int32.toBitVec_ofNat']
  apply BitVec.eq_of_toNat_eq
  rw [BitVec.toNat_ofNat, Nat.mod_eq_of_lt x.toBitVec.isLt])⟩
theorem step2 : Step_2 Rel0 := by
  intro T_co T_n R_st V_n V_ac V_fa V_in V_yr V_ti W_n W_ac W_fa W_in W_yr W_ti S_st S_mi S_fi S_sp S_cl S_nu S_co S_ke S_di C_n C_sz C_cd Y_n Y_nx M_s M_ke M_km M_te M_n M_re M_be M_ma M_so Q_rv hR
  have hR' := hR
  obtain ⟨ht, ⟨a, ho, r1, r2, r3, r4⟩, h5⟩ := hR
  obtain ⟨n, hn, rfl, rfl, hT⟩ := ht
  have hex : ∀ i, ∃ c : Nat, i < n → (c ≤ 255 ∧ T_co i = nI c ∧ M_te i = nI c) := by
    intro i
    by_cases e : i < n
    · obtain ⟨c, hc⟩ := hT i e
      exact ⟨c, fun _ => hc⟩
    · exact ⟨0, fun g => absurd g e⟩
  obtain ⟨c, hc⟩ := Classical.axiomOfChoice hex
  have hTX : TX n c T_co M_te := ⟨hn, hc⟩
  obtain ⟨rr, hrr⟩ := Classical.axiomOfChoice (fun j => any_nI (upd M_re 0 0 j))
  obtain ⟨b, m, s, n1, n2, n3, n4, n5⟩ := next_ok hTX (p := 0) (by omega) (be := 0) (ma := 0) rfl M_so
  obtain ⟨R, R', k1, k2, k3⟩ := main2 hTX n b (by omega) n3 (l := 0) (w := 0) (re := upd M_re 0 0) (r := upN rr 0 0) (ac := V_ac) (fa := V_fa) (ini := V_in) (yr := V_yr) (ti := V_ti) n5 (by omega) (by omega) (fun j hj => by
    by_cases e : j = 0
    · rw [e, upd_eq, upN_eq]; rfl
    · rw [upN_ne _ _ e]; exact hrr j) (upN_eq _ _ _) (fun v hv => absurd hv (by omega))
  have c1 : it (m_X10_read_B17 T_co (nI n)) fu (0, 0, 0, 0, V_ac, V_fa, V_in, V_yr, V_ti) = some R := by
    have := skipC hTX (l := 0) (by omega) (st := nI 0) (V := (nI 0, V_ac, V_fa, V_in, V_yr, V_ti)) (r := R) b 0 (by omega) (fun i g1 g2 => Or.inr (n4 i (by omega) (by omega))) (by rw [Nat.zero_add]; exact k1)
    exact this fu (by show n + 1 ≤ 2000 + 0; omega)
  have c2 : it (m_X12_loadWorks_B21 M_te (nI n)) fu (upd M_re 0 0, nI b, nI m, nI s) = some R' := k2 fu (by show n + 1 ≤ 2000 + b; omega)
  unfold m_X11_loadWorks m_X12_loadWorks m_X10_read m_X10_read_J96
  rw [c1, bd, ck_lit (by decide) (by decide), n1, bd, show Int32.toNatClampNeg 0 = 0 from rfl]
  dsimp only
  rw [c2, bd]
  rcases k3 with ⟨e, z', e1, e2, rfl, e3⟩ | ⟨w', re', r', ac', fa', ini', yr', ti', q, w1, rfl, rfl, w2, w3, w4⟩
  · simp only [Sum.elim_inl]
    rcases e2 with ⟨z, rfl, ez⟩ | ⟨z, rfl, rfl, t, t1, t2, t3⟩
    · simp only [Sum.elim_inl]
      rw [bd]
      dsimp only
      rw [ez, if_neg (nI_m1 (by omega))]
      exact ⟨_, _, rfl, rfl, by dsimp only; rw [e3], hR'⟩
    · simp only [Sum.elim_inr]
      rw [t3, if_neg (show ¬ (nI t = 0) by rw [zeq (by omega)]; omega), bd]
      dsimp only
      rw [if_neg (nI_m1 (by omega))]
      exact ⟨_, _, rfl, rfl, by dsimp only; rw [e3], hR'⟩
  · simp only [Sum.elim_inr]
    rw [if_pos (show nI 0 = 0 from rfl), bd]
    dsimp only
    rw [if_pos rfl]
    obtain ⟨o1, o2, s1, s2, s3⟩ := save_ok ho r1 r2 r3 r4 h5
    obtain ⟨o3, x1, x2, x3⟩ := copyFromW_ok W_n W_ac W_fa W_in W_yr W_ti ac' fa' ini' yr' ti' w1
    have cp : OkS (it (m_X12_loadWorks_B74 re') fu (0, M_s)) (fun o => ∀ j, j < 131 → o j = if j < 57 then re' j else M_s j) := by
      refine ok_for (fun i st => st.1 = nI i ∧ ∀ j, j < 131 → st.2 j = if j < i then re' j else M_s j) 57 ⟨rfl, fun j hj => by rw [if_neg (by omega)]⟩ ?_ ?_ (by omega)
      · rintro i ⟨t1, t2⟩ hi ⟨e1, e2⟩
        dsimp only at e1 e2
        subst e1
        unfold m_X12_loadWorks_B74
        simp (disch := omega) only [lit32, ck_nI, tn_nI, nI_le_iff, nI_add]
        rw [if_neg (by omega)]
        refine ok_l ⟨rfl, fun j hj => ?_⟩
        dsimp only
        by_cases e : j = i
        · rw [e, upd_eq, if_pos (by omega)]
        · rw [upd_ne _ _ e, e2 j hj]
          by_cases g : j < i
          · rw [if_pos g, if_pos (by omega)]
          · rw [if_neg g, if_neg (by omega)]
      · rintro ⟨t1, t2⟩ ⟨e1, e2⟩
        dsimp only at e1 e2
        subst e1
        unfold m_X12_loadWorks_B74
        simp (disch := omega) only [lit32, nI_le_iff]
        rw [if_pos (by omega)]
        exact ok_r e2
    obtain ⟨o4, y1, y2⟩ := cp
    rw [s1, bd, x1, bd, s2, bd, y1, bd, ck_lit (by decide) (by decide), ck_lit (by decide) (by decide), show Int32.toNatClampNeg 70 = 70 from rfl]
    have ha : ∀ j, j < 131 → upd o4 70 0 j = nI ((fun j => if j < 57 then r' j else if j = 70 then 0 else a j) j) := by
      intro j hj
      dsimp only
      by_cases e7 : j = 70
      · rw [e7, upd_eq, if_neg (by omega), if_pos rfl]; rfl
      · rw [upd_ne _ _ e7, y2 j hj]
        by_cases e5 : j < 57
        · rw [if_pos e5, if_pos e5]; exact w2 j e5
        · rw [if_neg e5, if_neg e5, if_neg e7]; exact r4 j hj
    have lo : ∀ j, j < 57 → (fun j => if j < 57 then r' j else if j = 70 then 0 else a j) j = r' j := fun j hj => if_pos hj
    have mid : ∀ j, 57 ≤ j → j < 70 → (fun j => if j < 57 then r' j else if j = 70 then 0 else a j) j = a j := fun j g1 g2 => by
      dsimp only
      rw [if_neg (by omega), if_neg (by omega)]
    have okW : OkW r' := ⟨by rw [w3]; exact w1, fun w hw => by
      obtain ⟨g1, g2, g3, g4, g5, g6⟩ := w4 w (by omega)
      exact ⟨g1, fun k hk => (g3 k hk).1, g4.1, g5⟩⟩
    have rw' : RW (nI w') ac' fa' ini' yr' ti' r' := ⟨by rw [w3], fun w hw => by
      obtain ⟨g1, g2, g3, g4, g5, g6⟩ := w4 w (by omega)
      exact ⟨g2, fun k hk => (g3 k hk).2, g4.2, g6⟩⟩
    have okA : Ok (fun j => if j < 57 then r' j else if j = 70 then 0 else a j) := ⟨OkW_cg lo okW, OkE_cg mid ho.2.1, ⟨by dsimp only; rw [if_neg (by omega), if_pos rfl]; omega, fun c hc => absurd (show c < 0 from hc) (by omega)⟩⟩
    have rwA : RW (nI w') ac' fa' ini' yr' ti' (fun j => if j < 57 then r' j else if j = 70 then 0 else a j) := RW_cg lo okW rw'
    refine ⟨_, _, rfl, rfl, ?_, ⟨⟨0, by omega, rfl, rfl, fun i hi => absurd hi (by omega)⟩, ⟨_, okA, ?_, RS_cg mid r2, ⟨?_, fun c hc => absurd (show c < 0 from hc) (by omega)⟩, ha⟩, s3⟩⟩
    · dsimp only
      rw [x2, upd_ne _ _ (by omega), y2 0 (by omega), if_pos (by omega), w2 0 (by omega), w3]
    · dsimp only
      rw [x2]
      refine RW_same okA rwA (fun w hw => x3 w ?_)
      have : w < r' 0 := hw
      omega
    · dsimp only
      rw [if_neg (by omega), if_pos rfl]
      rfl
