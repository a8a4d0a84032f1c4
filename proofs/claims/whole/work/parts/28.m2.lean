def m_X12_putYear (M_s : Nat → Int32) (M_ou : Nat → Int32) (M_om : Int32) (x1 : Int32) : Option ((Nat → Int32) × Int32) := (m_X12_year M_s x1).bind fun e1 => (m_X12_put M_ou M_om (48 + (e1 / 10))).bind fun e2 => (m_X12_year M_s x1).bind fun e3 => (m_X12_put e2.1 e2.2 (48 + (e3 - e3 / 10 * 10))).bind fun e4 => some (e4.1, e4.2)
def m_X12_putSuffix_J21 (M_ou : Nat → Int32) (M_om : Int32) : Option ((Nat → Int32) × Int32) := some (M_ou, M_om)
def m_X12_putSuffix (M_su : Nat → Int32) (M_ou : Nat → Int32) (M_om : Int32) (x1 : Int32) : Option ((Nat → Int32) × Int32) := ck x1 8 (if (M_su (Int32.toNatClampNeg x1)) = (-9) then (m_X12_putSuffix_J21 M_ou M_om) else (ck x1 8 ((m_X12_put M_ou M_om (M_su (Int32.toNatClampNeg x1))).bind fun e4 => m_X12_putSuffix_J21 e4.1 e4.2)))
def m_X12_entryCharacter_J22 (M_bo : Nat → Int32) (M_bn : Nat → Int32) (M_sh : Nat → Int32) (M_in : Nat → Int32) (M_su : Nat → Int32) (M_gr : Nat → Int32) (M_tr : Nat → Int32) (M_ou : Nat → Int32) (M_om : Int32) : Option (Int32 × (Nat → Int32) × (Nat → Int32) × (Nat → Int32) × (Nat → Int32) × (Nat → Int32) × (Nat → Int32) × (Nat → Int32) × (Nat → Int32) × Int32) := some ((-1), M_bo, M_bn, M_sh, M_in, M_su, M_gr, M_tr, M_ou, M_om)
def m_X12_entryCharacter_J160 (y0 : Int32) (M_bo : Nat → Int32) (M_bn : Nat → Int32) (M_sh : Nat → Int32) (M_in : Nat → Int32) (M_su : Nat → Int32) (M_gr : Nat → Int32) (M_tr : Nat → Int32) (M_ou : Nat → Int32) (M_om : Int32) : Option (Int32 × (Nat → Int32) × (Nat → Int32) × (Nat → Int32) × (Nat → Int32) × (Nat → Int32) × (Nat → Int32) × (Nat → Int32) × (Nat → Int32) × Int32) := some (y0, M_bo, M_bn, M_sh, M_in, M_su, M_gr, M_tr, M_ou, M_om)
def m_X12_entryCharacter_J117 (x2 : Int32) (x3 : Int32) (M_s : Nat → Int32) (M_bo : Nat → Int32) (M_bn : Nat → Int32) (M_sh : Nat → Int32) (M_in : Nat → Int32) (M_su : Nat → Int32) (M_gr : Nat → Int32) (M_tr : Nat → Int32) (M_ou : Nat → Int32) (M_om : Int32) : Option (Int32 × (Nat → Int32) × (Nat → Int32) × (Nat → Int32) × (Nat → Int32) × (Nat → Int32) × (Nat → Int32) × (Nat → Int32) × (Nat → Int32) × Int32) := (m_X12_put M_ou M_om 41).bind fun e1 => (m_X12_title M_s x3).bind fun e2 => (m_X12_put e1.1 e1.2 (97 + e2)).bind fun e3 => (m_X12_put e3.1 e3.2 46).bind fun e4 => if e4.2 ≤ x2 then (m_X12_entryCharacter_J160 (-9) M_bo M_bn M_sh M_in M_su M_gr M_tr e4.1 e4.2) else (ck x2 300 (m_X12_entryCharacter_J160 (e4.1 (Int32.toNatClampNeg x2)) M_bo M_bn M_sh M_in M_su M_gr M_tr e4.1 e4.2))
def m_X12_entryCharacter_J80 (x2 : Int32) (x3 : Int32) (M_s : Nat → Int32) (M_bo : Nat → Int32) (M_bn : Nat → Int32) (M_sh : Nat → Int32) (M_in : Nat → Int32) (M_su : Nat → Int32) (M_gr : Nat → Int32) (M_tr : Nat → Int32) (M_ou : Nat → Int32) (M_om : Int32) : Option (Int32 × (Nat → Int32) × (Nat → Int32) × (Nat → Int32) × (Nat → Int32) × (Nat → Int32) × (Nat → Int32) × (Nat → Int32) × (Nat → Int32) × Int32) := (m_X12_authors M_s x3).bind fun e7 => (m_X12_putAuthors M_s M_ou M_om x3 e7 1).bind fun e8 => (m_X12_put e8.1 e8.2 40).bind fun e9 => (m_X12_putYear M_s e9.1 e9.2 x3).bind fun e10 => ck 57 131 (if (M_s (Int32.toNatClampNeg 57)) = 0 then ((m_X12_putSuffix M_su e10.1 e10.2 x3).bind fun e13 => m_X12_entryCharacter_J117 x2 x3 M_s M_bo M_bn M_sh M_in M_su M_gr M_tr e13.1 e13.2) else (m_X12_entryCharacter_J117 x2 x3 M_s M_bo M_bn M_sh M_in M_su M_gr M_tr e10.1 e10.2))
def m_X12_entryCharacter (M_s : Nat → Int32) (M_bo : Nat → Int32) (M_bn : Nat → Int32) (M_sh : Nat → Int32) (M_in : Nat → Int32) (M_su : Nat → Int32) (M_gr : Nat → Int32) (M_tr : Nat → Int32) (M_ou : Nat → Int32) (M_om : Int32) (x1 : Int32) (x2 : Int32) : Option (Int32 × (Nat → Int32) × (Nat → Int32) × (Nat → Int32) × (Nat → Int32) × (Nat → Int32) × (Nat → Int32) × (Nat → Int32) × (Nat → Int32) × Int32) := ck 0 131 ((m_X12_in (Int32.toInt64 x1) 0 (Int32.toInt64 ((M_s (Int32.toNatClampNeg 0)) - 1))).bind fun e15 => if e15 = 0 then (m_X12_entryCharacter_J22 M_bo M_bn M_sh M_in M_su M_gr M_tr M_ou M_om) else (if 0 ≤ x2 then ((m_X12_layLabels M_s M_bo M_bn M_sh M_in M_su M_gr M_tr).bind fun e18 => (m_X12_listed M_s e18.1 e18.2.1 x1).bind fun e19 => ck 57 131 (if (M_s (Int32.toNatClampNeg 57)) = 1 then ((m_X12_put M_ou 0 91).bind fun e22 => (m_X12_placeIn_bn e18.2.1 e19).bind fun e23 => (m_X12_put e22.1 e22.2 ((48 + e23) + 1)).bind fun e24 => (m_X12_put e24.1 e24.2 93).bind fun e25 => m_X12_entryCharacter_J80 x2 e19 M_s e18.1 e18.2.1 e18.2.2.1 e18.2.2.2.1 e18.2.2.2.2.1 e18.2.2.2.2.2.1 e18.2.2.2.2.2.2 e25.1 e25.2) else (m_X12_entryCharacter_J80 x2 e19 M_s e18.1 e18.2.1 e18.2.2.1 e18.2.2.2.1 e18.2.2.2.2.1 e18.2.2.2.2.2.1 e18.2.2.2.2.2.2 M_ou 0))) else (m_X12_entryCharacter_J22 M_bo M_bn M_sh M_in M_su M_gr M_tr M_ou M_om)))
def m_X12_workOf (M_bn : Nat → Int32) (x1 : Int32) : Option (Int32) := ck (x1 - 1) 8 (some (M_bn (Int32.toNatClampNeg (x1 - 1))))
def m_X12_expandNumbers_J215 (x1 : Int32) (x2 : Int32) (x4 : Int32) (x7 : Int32) : Option ((Int32 × Int32 × Int32 × Int32) ⊕ (Int32 ⊕ (Int32 × Int32))) := if 0 ≤ x7 then (some (Sum.inl (x1, x2, x7, (x4 + 1)))) else (some (Sum.inr (Sum.inl x4)))
def m_X12_expandNumbers_J213 (x1 : Int32) (x2 : Int32) (x4 : Int32) (y0 : Int32) : Option ((Int32 × Int32 × Int32 × Int32) ⊕ (Int32 ⊕ (Int32 × Int32))) := m_X12_expandNumbers_J215 x1 x2 x4 y0
def m_X12_expandNumbers_J201 (x1 : Int32) (x2 : Int32) (x4 : Int32) (x5 : Int32) : Option ((Int32 × Int32 × Int32 × Int32) ⊕ (Int32 ⊕ (Int32 × Int32))) := if x5 = 44 then (m_X12_expandNumbers_J213 x1 x2 x4 1) else (m_X12_expandNumbers_J213 x1 x2 x4 5)
def m_X12_expandNumbers_J187 (x1 : Int32) (x2 : Int32) (x4 : Int32) (x5 : Int32) (x7 : Int32) : Option ((Int32 × Int32 × Int32 × Int32) ⊕ (Int32 ⊕ (Int32 × Int32))) := if x5 = 44 then (m_X12_expandNumbers_J201 x1 x2 x4 x5) else (if x5 = 93 then (m_X12_expandNumbers_J201 x1 x2 x4 x5) else (m_X12_expandNumbers_J215 x1 x2 x4 x7))
def m_X12_expandNumbers_J177 (x1 : Int32) (x2 : Int32) (x3 : Int32) (x4 : Int32) (x5 : Int32) (x7 : Int32) : Option ((Int32 × Int32 × Int32 × Int32) ⊕ (Int32 ⊕ (Int32 × Int32))) := if x3 = 2 then (m_X12_expandNumbers_J187 x1 x2 x4 x5 x7) else (if x3 = 4 then (m_X12_expandNumbers_J187 x1 x2 x4 x5 x7) else (m_X12_expandNumbers_J215 x1 x2 x4 x7))
def m_X12_expandNumbers_J159 (x1 : Int32) (x2 : Int32) (x3 : Int32) (x4 : Int32) (x5 : Int32) (x7 : Int32) : Option ((Int32 × Int32 × Int32 × Int32) ⊕ (Int32 ⊕ (Int32 × Int32))) := if x3 = 2 then (if x5 = 45 then (m_X12_expandNumbers_J215 x1 x2 x4 3) else (m_X12_expandNumbers_J177 x1 x2 x3 x4 x5 x7)) else (m_X12_expandNumbers_J177 x1 x2 x3 x4 x5 x7)
def m_X12_expandNumbers_B129 (x5 : Int32) (M_bn : Nat → Int32) (st : Int32 × Int32) : Option ((Int32 × Int32) ⊕ Int32) := if (x5 - 48) < st.2 then (some (Sum.inr st.1)) else ((m_X12_workOf M_bn st.2).bind fun e17 => some (Sum.inl ((st.1 ||| (1 <<< (e17 &&& 31))), (st.2 + 1))))
def m_X12_expandNumbers_J104 (x1 : Int32) (x2 : Int32) (x3 : Int32) (x4 : Int32) (x5 : Int32) (x6 : Int32) (x7 : Int32) (M_bn : Nat → Int32) : Option ((Int32 × Int32 × Int32 × Int32) ⊕ (Int32 ⊕ (Int32 × Int32))) := if x3 = 3 then (if x6 = 0 then (m_X12_expandNumbers_J159 x1 x2 x3 x4 x5 x7) else (if (x5 - 48) ≤ x2 then (m_X12_expandNumbers_J159 x1 x2 x3 x4 x5 x7) else ((it (m_X12_expandNumbers_B129 x5 M_bn) fu (x1, x2)).bind fun e15 => m_X12_expandNumbers_J215 e15 x2 x4 4))) else (m_X12_expandNumbers_J159 x1 x2 x3 x4 x5 x7)
def m_X12_expandNumbers_J72 (x1 : Int32) (x2 : Int32) (x3 : Int32) (x4 : Int32) (x5 : Int32) (x6 : Int32) (x7 : Int32) (M_bn : Nat → Int32) : Option ((Int32 × Int32 × Int32 × Int32) ⊕ (Int32 ⊕ (Int32 × Int32))) := if x3 = 1 then (if x6 = 0 then (m_X12_expandNumbers_J104 x1 x2 x3 x4 x5 x6 x7 M_bn) else ((m_X12_workOf M_bn (x5 - 48)).bind fun e20 => m_X12_expandNumbers_J215 (x1 ||| (1 <<< (e20 &&& 31))) (x5 - 48) x4 2)) else (m_X12_expandNumbers_J104 x1 x2 x3 x4 x5 x6 x7 M_bn)
def m_X12_expandNumbers_B13 (M_s : Nat → Int32) (M_te : Nat → Int32) (M_n : Int32) (M_bn : Nat → Int32) (st : Int32 × Int32 × Int32 × Int32) : Option ((Int32 × Int32 × Int32 × Int32) ⊕ (Int32 ⊕ (Int32 × Int32))) := if M_n ≤ st.2.2.2 then (some (Sum.inr (Sum.inr ((st.1, st.2.2.1))))) else (ck st.2.2.2 150 (ck 0 131 ((m_X12_in (Int32.toInt64 (M_te (Int32.toNatClampNeg st.2.2.2))) 49 (Int32.toInt64 (48 + (M_s (Int32.toNatClampNeg 0))))).bind fun e24 => if st.2.2.1 = 0 then (if (M_te (Int32.toNatClampNeg st.2.2.2)) = 91 then (m_X12_expandNumbers_J215 st.1 st.2.1 st.2.2.2 1) else (m_X12_expandNumbers_J72 st.1 st.2.1 st.2.2.1 st.2.2.2 (M_te (Int32.toNatClampNeg st.2.2.2)) e24 (-1) M_bn)) else (m_X12_expandNumbers_J72 st.1 st.2.1 st.2.2.1 st.2.2.2 (M_te (Int32.toNatClampNeg st.2.2.2)) e24 (-1) M_bn))))
def m_X12_expandNumbers (M_s : Nat → Int32) (M_te : Nat → Int32) (M_n : Int32) (M_bo : Nat → Int32) (M_bn : Nat → Int32) : Option (Int32 × Int32 × (Nat → Int32) × (Nat → Int32)) := (m_X12_layNumbers M_s M_bo M_bn).bind fun e1 => (it (m_X12_expandNumbers_B13 M_s M_te M_n e1.2) fu (0, 0, 0, 0)).bind (Sum.elim (fun v2_0 => some (((-10) - v2_0), M_n, e1.1, e1.2)) (fun v2_1 => if v2_1.2 = 5 then (some (v2_1.1, 0, e1.1, e1.2)) else (some (((-10) - M_n), M_n, e1.1, e1.2))))
def m_X12_letterAt_J18 (y0 : Int32) : Option (Int32) := some y0
def m_X12_letterAt (M_te : Nat → Int32) (M_n : Int32) (x1 : Int32) : Option (Int32) := if M_n ≤ x1 then (m_X12_letterAt_J18 (-1)) else (ck x1 150 (m_X12_letterAt_J18 (M_te (Int32.toNatClampNeg x1))))
def m_X12_isFigure (M_te : Nat → Int32) (M_n : Int32) (x1 : Int32) : Option (Int32) := (m_X12_letterAt M_te M_n x1).bind fun e1 => (m_X12_in (Int32.toInt64 e1) 48 57).bind fun e2 => ckb e2 (some e2)
def m_X12_isLow (M_te : Nat → Int32) (M_n : Int32) (x1 : Int32) : Option (Int32) := (m_X12_letterAt M_te M_n x1).bind fun e1 => (m_X12_in (Int32.toInt64 e1) 97 122).bind fun e2 => ckb e2 (some e2)
def m_X12_isWordWork_J83 (y0 : Int32) : Option (Int32) := ckb y0 (some y0)
def m_X12_isWordWork_J82 : Option (Int32) := m_X12_isWordWork_J83 0
def m_X12_isWordWork (M_te : Nat → Int32) (M_be : Int32) (M_ma : Int32) (M_so : Int32) : Option (Int32) := if M_so = 1 then (if M_ma = 4 then (ck M_be 150 (if (M_te (Int32.toNatClampNeg M_be)) = 119 then (ck (M_be + 1) 150 (if (M_te (Int32.toNatClampNeg (M_be + 1))) = 111 then (ck (M_be + 2) 150 (if (M_te (Int32.toNatClampNeg (M_be + 2))) = 114 then (ck (M_be + 3) 150 (if (M_te (Int32.toNatClampNeg (M_be + 3))) = 107 then (m_X12_isWordWork_J83 1) else (m_X12_isWordWork_J82))) else (m_X12_isWordWork_J82))) else (m_X12_isWordWork_J82))) else (m_X12_isWordWork_J82))) else (m_X12_isWordWork_J82)) else (m_X12_isWordWork_J82)
def m_X12_placeIn_bo_B2 (x2 : Int32) (M_bo : Nat → Int32) (st : Int32) : Option (Int32 ⊕ Int32) := ck st 8 (if (M_bo (Int32.toNatClampNeg st)) = x2 then (some (Sum.inr st)) else (some (Sum.inl (st + 1))))
def m_X12_placeIn_bo (M_bo : Nat → Int32) (x2 : Int32) : Option (Int32) := (it (m_X12_placeIn_bo_B2 x2 M_bo) fu 0).bind fun e1 => some e1
def m_X12_rankOf_J32 (y0 : Int32) : Option (Int32) := some y0
def m_X12_rankOf (M_s : Nat → Int32) (M_bo : Nat → Int32) (M_bn : Nat → Int32) (x1 : Int32) : Option (Int32) := ck 57 131 (if (M_s (Int32.toNatClampNeg 57)) = 1 then ((m_X12_placeIn_bn M_bn x1).bind fun e4 => m_X12_rankOf_J32 e4) else ((m_X12_placeIn_bo M_bo x1).bind fun e3 => m_X12_rankOf_J32 e3))
def m_X12_layRow_B13 (x1 : Int32) (x2 : Int32) (M_s : Nat → Int32) (M_bo : Nat → Int32) (M_bn : Nat → Int32) (st : Int32 × (Nat → Int32)) : Option ((Int32 × (Nat → Int32)) ⊕ ((Int32 × (Nat → Int32)))) := ck 63 131 (if (M_s (Int32.toNatClampNeg 63)) = 1 then (if st.1 ≤ 0 then (some (Sum.inr (st.1, st.2))) else (ck (st.1 - 1) 5 ((m_X12_rankOf M_s M_bo M_bn (st.2 (Int32.toNatClampNeg (st.1 - 1)))).bind fun e11 => (m_X12_cited M_s x1 x2).bind fun e12 => (m_X12_rankOf M_s M_bo M_bn e12).bind fun e13 => if e11 ≤ e13 then (some (Sum.inr (st.1, st.2))) else (ck (st.1 - 1) 5 (ck st.1 5 (some (Sum.inl ((st.1 + (-1)), (upd st.2 (Int32.toNatClampNeg st.1) (st.2 (Int32.toNatClampNeg (st.1 - 1)))))))))))) else (some (Sum.inr (st.1, st.2))))
def m_X12_layRow_B2 (x1 : Int32) (M_s : Nat → Int32) (M_bo : Nat → Int32) (M_bn : Nat → Int32) (st : Int32 × (Nat → Int32)) : Option ((Int32 × (Nat → Int32)) ⊕ (((Nat → Int32)))) := (m_X12_cites M_s x1).bind fun e2 => if e2 ≤ st.1 then (some (Sum.inr st.2)) else ((it (m_X12_layRow_B13 x1 st.1 M_s M_bo M_bn) fu (st.1, st.2)).bind fun e4 => (m_X12_cited M_s x1 st.1).bind fun e5 => ck e4.1 5 (some (Sum.inl ((st.1 + 1), (upd e4.2 (Int32.toNatClampNeg e4.1) e5)))))
def m_X12_layRow (M_s : Nat → Int32) (M_bo : Nat → Int32) (M_bn : Nat → Int32) (M_ro : Nat → Int32) (x1 : Int32) : Option ((Nat → Int32)) := (it (m_X12_layRow_B2 x1 M_s M_bo M_bn) fu (0, M_ro)).bind fun e1 => some e1
def m_X12_nextLexeme_J198 (M_be : Int32) (M_ma : Int32) (M_so : Int32) : Option (Int32 × Int32 × Int32) := some (M_be, M_ma, M_so)
def m_X12_nextLexeme_B125 (M_te : Nat → Int32) (M_n : Int32) (M_be : Int32) (st : Int32) : Option (Int32 ⊕ Int32) := (m_X12_isFigure M_te M_n (M_be + st)).bind fun e11 => if e11 = 0 then (some (Sum.inr st)) else (some (Sum.inl (st + 1)))
def m_X12_nextLexeme_B80 (M_te : Nat → Int32) (M_n : Int32) (M_be : Int32) (st : Int32) : Option (Int32 ⊕ Int32) := (m_X12_isLow M_te M_n (M_be + st)).bind fun e14 => if e14 = 0 then (some (Sum.inr st)) else (some (Sum.inl (st + 1)))
def m_X12_nextLexeme_J56 (y0 : Int32) (M_te : Nat → Int32) (M_n : Int32) (M_be : Int32) (M_ma : Int32) (M_so : Int32) : Option (Int32 × Int32 × Int32) := (m_X12_isLow M_te M_n M_be).bind fun e1 => if e1 = 0 then ((m_X12_isFigure M_te M_n M_be).bind fun e3 => if e3 = 0 then ((m_X12_letterAt M_te M_n M_be).bind fun e5 => (m_X12_in (Int32.toInt64 e5) 65 90).bind fun e6 => if e6 = 0 then (m_X12_nextLexeme_J198 M_be y0 4) else ((m_X12_isLow M_te M_n (M_be + 1)).bind fun e8 => if e8 = 0 then (m_X12_nextLexeme_J198 M_be y0 4) else (m_X12_nextLexeme_J198 M_be 2 2))) else ((it (m_X12_nextLexeme_B125 M_te M_n M_be) fu y0).bind fun e10 => m_X12_nextLexeme_J198 M_be e10 3)) else ((it (m_X12_nextLexeme_B80 M_te M_n M_be) fu y0).bind fun e13 => m_X12_nextLexeme_J198 M_be e13 1)
def m_X12_nextLexeme_B13 (M_te : Nat → Int32) (M_n : Int32) (st : Int32) : Option (Int32 ⊕ Int32) := (m_X12_letterAt M_te M_n st).bind fun e18 => if e18 = 32 then (some (Sum.inl (st + 1))) else (some (Sum.inr st))
def m_X12_nextLexeme (M_te : Nat → Int32) (M_n : Int32) (M_be : Int32) (M_ma : Int32) (M_so : Int32) : Option (Int32 × Int32 × Int32) := (it (m_X12_nextLexeme_B13 M_te M_n) fu (M_be + M_ma)).bind fun e16 => if M_n ≤ e16 then (m_X12_nextLexeme_J56 0 M_te M_n e16 M_ma M_so) else (m_X12_nextLexeme_J56 1 M_te M_n e16 M_ma M_so)
def m_X12_readsWork_J135 (M_re : Nat → Int32) (M_be : Int32) (M_ma : Int32) (M_so : Int32) : Option (Int32 × (Nat → Int32) × Int32 × Int32 × Int32) := some (0, M_re, M_be, M_ma, M_so)
def m_X12_readsWork_J195 (M_re : Nat → Int32) (M_be : Int32) (M_ma : Int32) (M_so : Int32) : Option (Int32 × (Nat → Int32) × Int32 × Int32 × Int32) := some (0, M_re, M_be, M_ma, M_so)
def m_X12_readsWork_J258 (y0 : Int32) (M_re : Nat → Int32) (M_be : Int32) (M_ma : Int32) (M_so : Int32) : Option (Int32 × (Nat → Int32) × Int32 × Int32 × Int32) := ckb y0 (some (y0, M_re, M_be, M_ma, M_so))
def m_X12_readsWork_J257 (M_re : Nat → Int32) (M_be : Int32) (M_ma : Int32) (M_so : Int32) : Option (Int32 × (Nat → Int32) × Int32 × Int32 × Int32) := m_X12_readsWork_J258 0 M_re M_be M_ma M_so
def m_X12_readsWork_B23 (x1 : Int32) (M_te : Nat → Int32) (M_n : Int32) (st : (Nat → Int32) × Int32 × Int32 × Int32) : Option (((Nat → Int32) × Int32 × Int32 × Int32) ⊕ (((Nat → Int32) × Int32 × Int32 × Int32))) := if st.2.2.1 ≤ 0 then (some (Sum.inr (st.1, st.2.1, st.2.2.1, st.2.2.2))) else (if st.2.2.2 = 2 then (ck x1 57 (if 4 ≤ (st.1 (Int32.toNatClampNeg x1)) then (some (Sum.inr (st.1, st.2.1, st.2.2.1, st.2.2.2))) else (ck x1 57 (ck st.2.1 150 (ck (st.2.1 + 1) 150 (ck ((x1 + 1) + (st.1 (Int32.toNatClampNeg x1))) 57 (ck x1 57 (ck x1 57 ((m_X12_nextLexeme M_te M_n st.2.1 st.2.2.1 st.2.2.2).bind fun e34 => some (Sum.inl ((upd (upd st.1 (Int32.toNatClampNeg ((x1 + 1) + (st.1 (Int32.toNatClampNeg x1)))) (((26 * ((M_te (Int32.toNatClampNeg st.2.1)) - 65)) + (M_te (Int32.toNatClampNeg (st.2.1 + 1)))) - 97)) (Int32.toNatClampNeg x1) (((upd st.1 (Int32.toNatClampNeg ((x1 + 1) + (st.1 (Int32.toNatClampNeg x1)))) (((26 * ((M_te (Int32.toNatClampNeg st.2.1)) - 65)) + (M_te (Int32.toNatClampNeg (st.2.1 + 1)))) - 97)) (Int32.toNatClampNeg x1)) + 1)), e34.1, e34.2.1, e34.2.2))))))))))) else (some (Sum.inr (st.1, st.2.1, st.2.2.1, st.2.2.2))))
def m_X12_readsWork (M_te : Nat → Int32) (M_n : Int32) (M_re : Nat → Int32) (M_be : Int32) (M_ma : Int32) (M_so : Int32) : Option (Int32 × (Nat → Int32) × Int32 × Int32 × Int32) := ck 0 57 (ck (1 + (7 * (M_re (Int32.toNatClampNeg 0)))) 57 ((m_X12_nextLexeme M_te M_n M_be M_ma M_so).bind fun e4 => (it (m_X12_readsWork_B23 (1 + (7 * (M_re (Int32.toNatClampNeg 0)))) M_te M_n) fu ((upd M_re (Int32.toNatClampNeg (1 + (7 * (M_re (Int32.toNatClampNeg 0))))) 0), e4.1, e4.2.1, e4.2.2)).bind fun e5 => ck (1 + (7 * (M_re (Int32.toNatClampNeg 0)))) 57 (if (e5.1 (Int32.toNatClampNeg (1 + (7 * (M_re (Int32.toNatClampNeg 0)))))) = 0 then (m_X12_readsWork_J135 e5.1 e5.2.1 e5.2.2.1 e5.2.2.2) else (if e5.2.2.2 = 3 then (if e5.2.2.1 = 2 then (ck e5.2.1 150 (ck (e5.2.1 + 1) 150 (ck ((1 + (7 * (M_re (Int32.toNatClampNeg 0)))) + 5) 57 ((m_X12_nextLexeme M_te M_n e5.2.1 e5.2.2.1 e5.2.2.2).bind fun e13 => if e13.2.2 = 1 then (if e13.2.1 = 1 then (ck e13.1 150 (ck ((1 + (7 * (M_re (Int32.toNatClampNeg 0)))) + 6) 57 ((m_X12_nextLexeme M_te M_n e13.1 e13.2.1 e13.2.2).bind fun e18 => ck 0 57 (ck 0 57 (if e18.2.1 ≤ 0 then (m_X12_readsWork_J257 (upd (upd (upd e5.1 (Int32.toNatClampNeg ((1 + (7 * (M_re (Int32.toNatClampNeg 0)))) + 5)) (((10 * ((M_te (Int32.toNatClampNeg e5.2.1)) - 48)) + (M_te (Int32.toNatClampNeg (e5.2.1 + 1)))) - 48)) (Int32.toNatClampNeg ((1 + (7 * (M_re (Int32.toNatClampNeg 0)))) + 6)) ((M_te (Int32.toNatClampNeg e13.1)) - 97)) (Int32.toNatClampNeg 0) (((upd (upd e5.1 (Int32.toNatClampNeg ((1 + (7 * (M_re (Int32.toNatClampNeg 0)))) + 5)) (((10 * ((M_te (Int32.toNatClampNeg e5.2.1)) - 48)) + (M_te (Int32.toNatClampNeg (e5.2.1 + 1)))) - 48)) (Int32.toNatClampNeg ((1 + (7 * (M_re (Int32.toNatClampNeg 0)))) + 6)) ((M_te (Int32.toNatClampNeg e13.1)) - 97)) (Int32.toNatClampNeg 0)) + 1)) e18.1 e18.2.1 e18.2.2) else (ck e18.1 150 (if (M_te (Int32.toNatClampNeg e18.1)) = 59 then (m_X12_readsWork_J258 1 (upd (upd (upd e5.1 (Int32.toNatClampNeg ((1 + (7 * (M_re (Int32.toNatClampNeg 0)))) + 5)) (((10 * ((M_te (Int32.toNatClampNeg e5.2.1)) - 48)) + (M_te (Int32.toNatClampNeg (e5.2.1 + 1)))) - 48)) (Int32.toNatClampNeg ((1 + (7 * (M_re (Int32.toNatClampNeg 0)))) + 6)) ((M_te (Int32.toNatClampNeg e13.1)) - 97)) (Int32.toNatClampNeg 0) (((upd (upd e5.1 (Int32.toNatClampNeg ((1 + (7 * (M_re (Int32.toNatClampNeg 0)))) + 5)) (((10 * ((M_te (Int32.toNatClampNeg e5.2.1)) - 48)) + (M_te (Int32.toNatClampNeg (e5.2.1 + 1)))) - 48)) (Int32.toNatClampNeg ((1 + (7 * (M_re (Int32.toNatClampNeg 0)))) + 6)) ((M_te (Int32.toNatClampNeg e13.1)) - 97)) (Int32.toNatClampNeg 0)) + 1)) e18.1 e18.2.1 e18.2.2) else (m_X12_readsWork_J257 (upd (upd (upd e5.1 (Int32.toNatClampNeg ((1 + (7 * (M_re (Int32.toNatClampNeg 0)))) + 5)) (((10 * ((M_te (Int32.toNatClampNeg e5.2.1)) - 48)) + (M_te (Int32.toNatClampNeg (e5.2.1 + 1)))) - 48)) (Int32.toNatClampNeg ((1 + (7 * (M_re (Int32.toNatClampNeg 0)))) + 6)) ((M_te (Int32.toNatClampNeg e13.1)) - 97)) (Int32.toNatClampNeg 0) (((upd (upd e5.1 (Int32.toNatClampNeg ((1 + (7 * (M_re (Int32.toNatClampNeg 0)))) + 5)) (((10 * ((M_te (Int32.toNatClampNeg e5.2.1)) - 48)) + (M_te (Int32.toNatClampNeg (e5.2.1 + 1)))) - 48)) (Int32.toNatClampNeg ((1 + (7 * (M_re (Int32.toNatClampNeg 0)))) + 6)) ((M_te (Int32.toNatClampNeg e13.1)) - 97)) (Int32.toNatClampNeg 0)) + 1)) e18.1 e18.2.1 e18.2.2)))))))) else (m_X12_readsWork_J195 (upd e5.1 (Int32.toNatClampNeg ((1 + (7 * (M_re (Int32.toNatClampNeg 0)))) + 5)) (((10 * ((M_te (Int32.toNatClampNeg e5.2.1)) - 48)) + (M_te (Int32.toNatClampNeg (e5.2.1 + 1)))) - 48)) e13.1 e13.2.1 e13.2.2)) else (m_X12_readsWork_J195 (upd e5.1 (Int32.toNatClampNeg ((1 + (7 * (M_re (Int32.toNatClampNeg 0)))) + 5)) (((10 * ((M_te (Int32.toNatClampNeg e5.2.1)) - 48)) + (M_te (Int32.toNatClampNeg (e5.2.1 + 1)))) - 48)) e13.1 e13.2.1 e13.2.2))))) else (m_X12_readsWork_J135 e5.1 e5.2.1 e5.2.2.1 e5.2.2.2)) else (m_X12_readsWork_J135 e5.1 e5.2.1 e5.2.2.1 e5.2.2.2)))))
def m_X12_loadWorks_B74 (M_re : Nat → Int32) (st : Int32 × (Nat → Int32)) : Option ((Int32 × (Nat → Int32)) ⊕ (((Nat → Int32)))) := if 57 ≤ st.1 then (some (Sum.inr st.2)) else (ck st.1 57 (ck st.1 131 (some (Sum.inl ((st.1 + 1), (upd st.2 (Int32.toNatClampNeg st.1) (M_re (Int32.toNatClampNeg st.1))))))))
def m_X12_loadWorks_B21 (M_te : Nat → Int32) (M_n : Int32) (st : (Nat → Int32) × Int32 × Int32 × Int32) : Option (((Nat → Int32) × Int32 × Int32 × Int32) ⊕ (((Nat → Int32) × Int32 × Int32 × Int32) ⊕ ((Nat → Int32) × Int32 × Int32 × Int32))) := if st.2.2.1 ≤ 0 then (some (Sum.inr (Sum.inr ((st.1, st.2.1, st.2.2.1, st.2.2.2))))) else ((m_X12_isWordWork M_te st.2.1 st.2.2.1 st.2.2.2).bind fun e12 => if e12 = 0 then (some (Sum.inr (Sum.inl (st.1, st.2.1, st.2.2.1, st.2.2.2)))) else (ck 0 57 (if (st.1 (Int32.toNatClampNeg 0)) = 8 then (some (Sum.inr (Sum.inl (st.1, st.2.1, st.2.2.1, st.2.2.2)))) else ((m_X12_readsWork M_te M_n st.1 st.2.1 st.2.2.1 st.2.2.2).bind fun e16 => if e16.1 = 0 then (some (Sum.inr (Sum.inl (e16.2.1, e16.2.2.1, e16.2.2.2.1, e16.2.2.2.2)))) else ((m_X12_nextLexeme M_te M_n e16.2.2.1 e16.2.2.2.1 e16.2.2.2.2).bind fun e18 => some (Sum.inl (e16.2.1, e18.1, e18.2.1, e18.2.2)))))))
def m_X12_loadWorks (M_s : Nat → Int32) (M_ke : Nat → Int32) (M_km : Int32) (M_te : Nat → Int32) (M_n : Int32) (M_re : Nat → Int32) (M_be : Int32) (M_ma : Int32) (M_so : Int32) : Option (Int32 × (Nat → Int32) × (Nat → Int32) × Int32 × Int32 × (Nat → Int32) × Int32 × Int32 × Int32) := ck 0 57 ((m_X12_nextLexeme M_te M_n 0 0 M_so).bind fun e2 => (it (m_X12_loadWorks_B21 M_te M_n) fu ((upd M_re (Int32.toNatClampNeg 0) 0), e2.1, e2.2.1, e2.2.2)).bind (Sum.elim (fun v3_0 => some (((-10) - v3_0.2.1), M_s, M_ke, M_km, M_n, v3_0.1, v3_0.2.1, v3_0.2.2.1, v3_0.2.2.2)) (fun v3_1 => (m_X12_keeps M_s M_ke M_km).bind fun e4 => (it (m_X12_loadWorks_B74 v3_1.1) fu (0, M_s)).bind fun e5 => ck 70 131 (ck 0 131 (some (((upd e5 (Int32.toNatClampNeg 70) 0) (Int32.toNatClampNeg 0)), (upd e5 (Int32.toNatClampNeg 70) 0), e4.1, e4.2, 0, v3_1.1, v3_1.2.1, v3_1.2.2.1, v3_1.2.2.2))))))
def m_X12_numberIn (M_bn : Nat → Int32) (M_ro : Nat → Int32) (x1 : Int32) : Option (Int32) := ck x1 5 ((m_X12_placeIn_bn M_bn (M_ro (Int32.toNatClampNeg x1))).bind fun e2 => some (e2 + 1))
def m_X12_numberOf (M_s : Nat → Int32) (M_bo : Nat → Int32) (M_bn : Nat → Int32) (x1 : Int32) : Option (Int32 × (Nat → Int32) × (Nat → Int32)) := (m_X12_isWork M_s x1).bind fun e1 => if e1 = 0 then (some ((-1), M_bo, M_bn)) else ((m_X12_layNumbers M_s M_bo M_bn).bind fun e3 => (m_X12_placeIn_bn e3.2 x1).bind fun e4 => some ((e4 + 1), e3.1, e3.2))
def m_X12_putNames_J37 (M_ou : Nat → Int32) (M_om : Int32) : Option ((Nat → Int32) × Int32) := some (M_ou, M_om)
def m_X12_putNames (M_s : Nat → Int32) (M_sh : Nat → Int32) (M_in : Nat → Int32) (M_ou : Nat → Int32) (M_om : Int32) (x1 : Int32) : Option ((Nat → Int32) × Int32) := ck x1 8 (ck x1 8 ((m_X12_putAuthors M_s M_ou M_om x1 (M_sh (Int32.toNatClampNeg x1)) (M_in (Int32.toNatClampNeg x1))).bind fun e3 => ck x1 8 ((m_X12_authors M_s x1).bind fun e5 => if e5 ≤ (M_sh (Int32.toNatClampNeg x1)) then (m_X12_putNames_J37 e3.1 e3.2) else ((m_X12_put e3.1 e3.2 43).bind fun e7 => m_X12_putNames_J37 e7.1 e7.2))))
def m_X12_putAuthorYear_J143 (x1 : Int32) (x2 : Int32) (x3 : Int32) (M_su : Nat → Int32) (M_ou : Nat → Int32) (M_om : Int32) : Option ((Int32 × (Nat → Int32) × Int32) ⊕ (((Nat → Int32) × Int32))) := (m_X12_putSuffix M_su M_ou M_om x3).bind fun e4 => some (Sum.inl ((x2 + 1), e4.1, e4.2))
def m_X12_putAuthorYear_J138 (x1 : Int32) (x2 : Int32) (x3 : Int32) (M_s : Nat → Int32) (M_su : Nat → Int32) (M_ou : Nat → Int32) (M_om : Int32) : Option ((Int32 × (Nat → Int32) × Int32) ⊕ (((Nat → Int32) × Int32))) := (m_X12_putYear M_s M_ou M_om x3).bind fun e5 => m_X12_putAuthorYear_J143 x1 x2 x3 M_su e5.1 e5.2
def m_X12_putAuthorYear_J91 (x1 : Int32) (x2 : Int32) (x3 : Int32) (x4 : Int32) (M_s : Nat → Int32) (M_su : Nat → Int32) (M_ou : Nat → Int32) (M_om : Int32) (M_ro : Nat → Int32) : Option ((Int32 × (Nat → Int32) × Int32) ⊕ (((Nat → Int32) × Int32))) := if x4 = 0 then (m_X12_putAuthorYear_J138 x1 x2 x3 M_s M_su M_ou M_om) else (ck 61 131 (if (M_s (Int32.toNatClampNeg 61)) < 2 then (m_X12_putAuthorYear_J138 x1 x2 x3 M_s M_su M_ou M_om) else (ck x3 8 (if (M_su (Int32.toNatClampNeg x3)) = (-9) then (m_X12_putAuthorYear_J138 x1 x2 x3 M_s M_su M_ou M_om) else ((m_X12_year M_s x3).bind fun e11 => ck (x2 - 1) 5 ((m_X12_year M_s (M_ro (Int32.toNatClampNeg (x2 - 1)))).bind fun e13 => if e11 = e13 then (m_X12_putAuthorYear_J143 x1 x2 x3 M_su M_ou M_om) else (m_X12_putAuthorYear_J138 x1 x2 x3 M_s M_su M_ou M_om)))))))
def m_X12_putAuthorYear_J81 (x1 : Int32) (x2 : Int32) (x3 : Int32) (x4 : Int32) (M_s : Nat → Int32) (M_sh : Nat → Int32) (M_in : Nat → Int32) (M_su : Nat → Int32) (M_ou : Nat → Int32) (M_om : Int32) (M_ro : Nat → Int32) : Option ((Int32 × (Nat → Int32) × Int32) ⊕ (((Nat → Int32) × Int32))) := if x4 = 0 then ((m_X12_putNames M_s M_sh M_in M_ou M_om x3).bind fun e16 => m_X12_putAuthorYear_J91 x1 x2 x3 x4 M_s M_su e16.1 e16.2 M_ro) else (m_X12_putAuthorYear_J91 x1 x2 x3 x4 M_s M_su M_ou M_om M_ro)
def m_X12_putAuthorYear_J78 (x1 : Int32) (x2 : Int32) (x3 : Int32) (x4 : Int32) (y0 : Int32) (M_s : Nat → Int32) (M_sh : Nat → Int32) (M_in : Nat → Int32) (M_su : Nat → Int32) (M_ou : Nat → Int32) (M_om : Int32) (M_ro : Nat → Int32) : Option ((Int32 × (Nat → Int32) × Int32) ⊕ (((Nat → Int32) × Int32))) := (m_X12_put M_ou M_om y0).bind fun e17 => m_X12_putAuthorYear_J81 x1 x2 x3 x4 M_s M_sh M_in M_su e17.1 e17.2 M_ro
def m_X12_putAuthorYear_J59 (x1 : Int32) (x2 : Int32) (x3 : Int32) (y0 : Int32) (M_s : Nat → Int32) (M_sh : Nat → Int32) (M_in : Nat → Int32) (M_su : Nat → Int32) (M_ou : Nat → Int32) (M_om : Int32) (M_ro : Nat → Int32) : Option ((Int32 × (Nat → Int32) × Int32) ⊕ (((Nat → Int32) × Int32))) := if x2 ≤ 0 then (m_X12_putAuthorYear_J81 x1 x2 x3 y0 M_s M_sh M_in M_su M_ou M_om M_ro) else (if y0 = 0 then (m_X12_putAuthorYear_J78 x1 x2 x3 y0 59 M_s M_sh M_in M_su M_ou M_om M_ro) else (m_X12_putAuthorYear_J78 x1 x2 x3 y0 44 M_s M_sh M_in M_su M_ou M_om M_ro))
def m_X12_putAuthorYear_J58 (x1 : Int32) (x2 : Int32) (x3 : Int32) (M_s : Nat → Int32) (M_sh : Nat → Int32) (M_in : Nat → Int32) (M_su : Nat → Int32) (M_ou : Nat → Int32) (M_om : Int32) (M_ro : Nat → Int32) : Option ((Int32 × (Nat → Int32) × Int32) ⊕ (((Nat → Int32) × Int32))) := m_X12_putAuthorYear_J59 x1 x2 x3 0 M_s M_sh M_in M_su M_ou M_om M_ro
def m_X12_putAuthorYear_B8 (x1 : Int32) (M_s : Nat → Int32) (M_sh : Nat → Int32) (M_in : Nat → Int32) (M_su : Nat → Int32) (M_ro : Nat → Int32) (st : Int32 × (Nat → Int32) × Int32) : Option ((Int32 × (Nat → Int32) × Int32) ⊕ (((Nat → Int32) × Int32))) := (m_X12_cites M_s x1).bind fun e20 => if e20 ≤ st.1 then (some (Sum.inr (st.2.1, st.2.2))) else (ck st.1 5 (if st.1 ≤ 0 then (m_X12_putAuthorYear_J58 x1 st.1 (M_ro (Int32.toNatClampNeg st.1)) M_s M_sh M_in M_su st.2.1 st.2.2 M_ro) else (ck 61 131 (if (M_s (Int32.toNatClampNeg 61)) ≤ 0 then (m_X12_putAuthorYear_J58 x1 st.1 (M_ro (Int32.toNatClampNeg st.1)) M_s M_sh M_in M_su st.2.1 st.2.2 M_ro) else (ck (st.1 - 1) 5 ((m_X12_haveOneNames M_s M_sh M_in (M_ro (Int32.toNatClampNeg (st.1 - 1))) (M_ro (Int32.toNatClampNeg st.1))).bind fun e27 => if e27 = 0 then (m_X12_putAuthorYear_J58 x1 st.1 (M_ro (Int32.toNatClampNeg st.1)) M_s M_sh M_in M_su st.2.1 st.2.2 M_ro) else (m_X12_putAuthorYear_J59 x1 st.1 (M_ro (Int32.toNatClampNeg st.1)) 1 M_s M_sh M_in M_su st.2.1 st.2.2 M_ro)))))))
def m_X12_putAuthorYear (M_s : Nat → Int32) (M_sh : Nat → Int32) (M_in : Nat → Int32) (M_su : Nat → Int32) (M_ou : Nat → Int32) (M_om : Int32) (M_ro : Nat → Int32) (x1 : Int32) : Option ((Nat → Int32) × Int32) := (m_X12_put M_ou M_om 40).bind fun e1 => (it (m_X12_putAuthorYear_B8 x1 M_s M_sh M_in M_su M_ro) fu (0, e1.1, e1.2)).bind fun e2 => (m_X12_put e2.1 e2.2 41).bind fun e3 => some (e3.1, e3.2)
def m_X12_putNote_J137 (x1 : Int32) (x2 : Int32) (M_ou : Nat → Int32) (M_om : Int32) : Option ((Int32 × (Nat → Int32) × Int32) ⊕ (((Nat → Int32) × Int32))) := some (Sum.inl ((x2 + 1), M_ou, M_om))
def m_X12_putNote_J78 (x1 : Int32) (x2 : Int32) (x3 : Int32) (x4 : Int32) (M_s : Nat → Int32) (M_sh : Nat → Int32) (M_in : Nat → Int32) (M_ou : Nat → Int32) (M_om : Int32) : Option ((Int32 × (Nat → Int32) × Int32) ⊕ (((Nat → Int32) × Int32))) := if x4 ≤ 0 then ((m_X12_authors M_s x3).bind fun e4 => (m_X12_putAuthors M_s M_ou M_om x3 e4 1).bind fun e5 => (m_X12_title M_s x3).bind fun e6 => (m_X12_put e5.1 e5.2 (97 + e6)).bind fun e7 => (m_X12_putYear M_s e7.1 e7.2 x3).bind fun e8 => m_X12_putNote_J137 x1 x2 e8.1 e8.2) else ((m_X12_putNames M_s M_sh M_in M_ou M_om x3).bind fun e9 => (m_X12_put e9.1 e9.2 110).bind fun e10 => (m_X12_put e10.1 e10.2 (48 + (x4 - x4 / 10 * 10))).bind fun e11 => m_X12_putNote_J137 x1 x2 e11.1 e11.2)
def m_X12_putNote_J38 (x1 : Int32) (x2 : Int32) (x3 : Int32) (x4 : Int32) (M_s : Nat → Int32) (M_sh : Nat → Int32) (M_in : Nat → Int32) (M_ou : Nat → Int32) (M_om : Int32) : Option ((Int32 × (Nat → Int32) × Int32) ⊕ (((Nat → Int32) × Int32))) := if x2 = 0 then (if x1 ≤ 0 then (m_X12_putNote_J78 x1 x2 x3 x4 M_s M_sh M_in M_ou M_om) else ((m_X12_cites M_s (x1 - 1)).bind fun e14 => if e14 = 1 then ((m_X12_cited M_s (x1 - 1) 0).bind fun e16 => if e16 = x3 then ((m_X12_put M_ou M_om 105).bind fun e18 => m_X12_putNote_J137 x1 x2 e18.1 e18.2) else (m_X12_putNote_J78 x1 x2 x3 x4 M_s M_sh M_in M_ou M_om)) else (m_X12_putNote_J78 x1 x2 x3 x4 M_s M_sh M_in M_ou M_om))) else (m_X12_putNote_J78 x1 x2 x3 x4 M_s M_sh M_in M_ou M_om)
def m_X12_putNote_B2 (x1 : Int32) (M_s : Nat → Int32) (M_sh : Nat → Int32) (M_in : Nat → Int32) (M_ro : Nat → Int32) (st : Int32 × (Nat → Int32) × Int32) : Option ((Int32 × (Nat → Int32) × Int32) ⊕ (((Nat → Int32) × Int32))) := (m_X12_cites M_s x1).bind fun e19 => if e19 ≤ st.1 then (some (Sum.inr (st.2.1, st.2.2))) else (ck st.1 5 ((m_X12_earliest M_s (M_ro (Int32.toNatClampNeg st.1)) x1).bind fun e22 => if st.1 ≤ 0 then (m_X12_putNote_J38 x1 st.1 (M_ro (Int32.toNatClampNeg st.1)) (e22 + 1) M_s M_sh M_in st.2.1 st.2.2) else ((m_X12_put st.2.1 st.2.2 59).bind fun e24 => m_X12_putNote_J38 x1 st.1 (M_ro (Int32.toNatClampNeg st.1)) (e22 + 1) M_s M_sh M_in e24.1 e24.2)))
def m_X12_putNote (M_s : Nat → Int32) (M_sh : Nat → Int32) (M_in : Nat → Int32) (M_ou : Nat → Int32) (M_om : Int32) (M_ro : Nat → Int32) (x1 : Int32) : Option ((Nat → Int32) × Int32) := (it (m_X12_putNote_B2 x1 M_s M_sh M_in M_ro) fu (0, M_ou, M_om)).bind fun e1 => (m_X12_put e1.1 e1.2 46).bind fun e2 => some (e2.1, e2.2)
def m_X12_putNumeric_J112 (x1 : Int32) (x2 : Int32) (M_ou : Nat → Int32) (M_om : Int32) : Option ((Int32 × (Nat → Int32) × Int32) ⊕ (((Nat → Int32) × Int32))) := some (Sum.inl ((x2 + 1), M_ou, M_om))
def m_X12_putNumeric_J63 (x1 : Int32) (x2 : Int32) (x3 : Int32) (M_s : Nat → Int32) (M_bn : Nat → Int32) (M_ou : Nat → Int32) (M_om : Int32) (M_ro : Nat → Int32) : Option ((Int32 × (Nat → Int32) × Int32) ⊕ (((Nat → Int32) × Int32))) := (m_X12_numberIn M_bn M_ro x2).bind fun e4 => (m_X12_put M_ou M_om (48 + e4)).bind fun e5 => ck 61 131 (if (M_s (Int32.toNatClampNeg 61)) ≤ 0 then (m_X12_putNumeric_J112 x1 x2 e5.1 e5.2) else (if (x3 - x2) ≤ 1 then (m_X12_putNumeric_J112 x1 x2 e5.1 e5.2) else ((m_X12_put e5.1 e5.2 45).bind fun e9 => (m_X12_numberIn M_bn M_ro x3).bind fun e10 => (m_X12_put e9.1 e9.2 (48 + e10)).bind fun e11 => m_X12_putNumeric_J112 x1 x3 e11.1 e11.2)))
def m_X12_putNumeric_B19 (x1 : Int32) (M_s : Nat → Int32) (M_bn : Nat → Int32) (M_ro : Nat → Int32) (st : Int32) : Option (Int32 ⊕ Int32) := (m_X12_cites M_s x1).bind fun e17 => if e17 ≤ (st + 1) then (some (Sum.inr st)) else ((m_X12_numberIn M_bn M_ro (st + 1)).bind fun e19 => (m_X12_numberIn M_bn M_ro st).bind fun e20 => if e19 = (e20 + 1) then (some (Sum.inl (st + 1))) else (some (Sum.inr st)))
def m_X12_putNumeric_B8 (x1 : Int32) (M_s : Nat → Int32) (M_bn : Nat → Int32) (M_ro : Nat → Int32) (st : Int32 × (Nat → Int32) × Int32) : Option ((Int32 × (Nat → Int32) × Int32) ⊕ (((Nat → Int32) × Int32))) := (m_X12_cites M_s x1).bind fun e12 => if e12 ≤ st.1 then (some (Sum.inr (st.2.1, st.2.2))) else ((it (m_X12_putNumeric_B19 x1 M_s M_bn M_ro) fu st.1).bind fun e14 => if st.1 ≤ 0 then (m_X12_putNumeric_J63 x1 st.1 e14 M_s M_bn st.2.1 st.2.2 M_ro) else ((m_X12_put st.2.1 st.2.2 44).bind fun e16 => m_X12_putNumeric_J63 x1 st.1 e14 M_s M_bn e16.1 e16.2 M_ro))
def m_X12_putNumeric (M_s : Nat → Int32) (M_bn : Nat → Int32) (M_ou : Nat → Int32) (M_om : Int32) (M_ro : Nat → Int32) (x1 : Int32) : Option ((Nat → Int32) × Int32) := (m_X12_put M_ou M_om 91).bind fun e1 => (it (m_X12_putNumeric_B8 x1 M_s M_bn M_ro) fu (0, e1.1, e1.2)).bind fun e2 => (m_X12_put e2.1 e2.2 93).bind fun e3 => some (e3.1, e3.2)
def m_X12_removeCitation_B39 (st : Int32 × (Nat → Int32)) : Option ((Int32 × (Nat → Int32)) ⊕ (((Nat → Int32)))) := ck 70 131 (if (71 + (6 * (st.2 (Int32.toNatClampNeg 70)))) ≤ st.1 then (some (Sum.inr st.2)) else (ck (st.1 + 6) 131 (ck st.1 131 (some (Sum.inl ((st.1 + 1), (upd st.2 (Int32.toNatClampNeg st.1) (st.2 (Int32.toNatClampNeg (st.1 + 6))))))))))
def m_X12_removeCitation (M_s : Nat → Int32) (M_ke : Nat → Int32) (M_km : Int32) (x1 : Int32) : Option (Int32 × (Nat → Int32) × (Nat → Int32) × Int32) := (m_X12_isCitation M_s x1).bind fun e1 => if e1 = 0 then (some ((-1), M_s, M_ke, M_km)) else ((m_X12_keeps M_s M_ke M_km).bind fun e3 => (m_X12_cites M_s x1).bind fun e4 => ck 70 131 (ck 70 131 ((it (m_X12_removeCitation_B39) fu ((71 + (6 * x1)), (upd M_s (Int32.toNatClampNeg 70) ((M_s (Int32.toNatClampNeg 70)) - 1)))).bind fun e7 => some (e4, e7, e3.1, e3.2))))
def m_X12_removeWork_J183 (x1 : Int32) (x3 : Int32) (y0 : Int32) (y1 : Int32) (M_s : Nat → Int32) : Option ((Int32 × Int32 × (Nat → Int32)) ⊕ ((Int32 × (Nat → Int32)))) := some (Sum.inl ((y1 + y0), (x3 + 1), M_s))
def m_X12_removeWork_J152 (x1 : Int32) (x2 : Int32) (x3 : Int32) (x4 : Int32) (x5 : Int32) (x6 : Int32) (M_s : Nat → Int32) : Option ((Int32 × Int32 × (Nat → Int32)) ⊕ ((Int32 × (Nat → Int32)))) := some (Sum.inl (x4, (x6 + 1), M_s))
def m_X12_removeWork_J148 (x1 : Int32) (x2 : Int32) (x3 : Int32) (x4 : Int32) (x5 : Int32) (x6 : Int32) (y0 : Int32) (y1 : Int32) (M_s : Nat → Int32) : Option ((Int32 × Int32 × (Nat → Int32)) ⊕ ((Int32 × (Nat → Int32)))) := ck y1 131 (m_X12_removeWork_J152 x1 x2 x3 (x4 + 1) x5 x6 (upd M_s (Int32.toNatClampNeg y1) y0))
def m_X12_removeWork_B95 (x1 : Int32) (x2 : Int32) (x3 : Int32) (x5 : Int32) (st : Int32 × Int32 × (Nat → Int32)) : Option ((Int32 × Int32 × (Nat → Int32)) ⊕ ((Int32 × (Nat → Int32)))) := if x5 ≤ st.2.1 then (some (Sum.inr (st.1, st.2.2))) else ((m_X12_cited st.2.2 x3 st.2.1).bind fun e17 => if e17 = x1 then (m_X12_removeWork_J152 x1 x2 x3 st.1 x5 st.2.1 st.2.2) else (if e17 ≤ x1 then (m_X12_removeWork_J148 x1 x2 x3 st.1 x5 st.2.1 e17 (((71 + (6 * x2)) + 1) + st.1) st.2.2) else (m_X12_removeWork_J148 x1 x2 x3 st.1 x5 st.2.1 (e17 - 1) (((71 + (6 * x2)) + 1) + st.1) st.2.2)))
def m_X12_removeWork_B71 (x1 : Int32) (st : Int32 × Int32 × (Nat → Int32)) : Option ((Int32 × Int32 × (Nat → Int32)) ⊕ ((Int32 × (Nat → Int32)))) := ck 70 131 (if (st.2.2 (Int32.toNatClampNeg 70)) ≤ st.2.1 then (some (Sum.inr (st.1, st.2.2))) else ((m_X12_cites st.2.2 st.2.1).bind fun e11 => (it (m_X12_removeWork_B95 x1 st.1 st.2.1 e11) fu (0, 0, st.2.2)).bind fun e12 => ck (71 + (6 * st.1)) 131 (if e12.1 ≤ 0 then (m_X12_removeWork_J183 x1 st.2.1 0 st.1 (upd e12.2 (Int32.toNatClampNeg (71 + (6 * st.1))) e12.1)) else (m_X12_removeWork_J183 x1 st.2.1 1 st.1 (upd e12.2 (Int32.toNatClampNeg (71 + (6 * st.1))) e12.1)))))
def m_X12_removeWork_B31 (st : Int32 × (Nat → Int32)) : Option ((Int32 × (Nat → Int32)) ⊕ (((Nat → Int32)))) := ck 0 131 (if (1 + (7 * (st.2 (Int32.toNatClampNeg 0)))) ≤ st.1 then (some (Sum.inr st.2)) else (ck (st.1 + 7) 131 (ck st.1 131 (some (Sum.inl ((st.1 + 1), (upd st.2 (Int32.toNatClampNeg st.1) (st.2 (Int32.toNatClampNeg (st.1 + 7))))))))))
def m_X12_removeWork (M_s : Nat → Int32) (M_ke : Nat → Int32) (M_km : Int32) (x1 : Int32) : Option (Int32 × (Nat → Int32) × (Nat → Int32) × Int32) := (m_X12_isWork M_s x1).bind fun e1 => if e1 = 0 then (some ((-1), M_s, M_ke, M_km)) else ((m_X12_keeps M_s M_ke M_km).bind fun e3 => ck 0 131 (ck 0 131 ((it (m_X12_removeWork_B31) fu ((1 + (7 * x1)), (upd M_s (Int32.toNatClampNeg 0) ((M_s (Int32.toNatClampNeg 0)) - 1)))).bind fun e6 => (it (m_X12_removeWork_B71 x1) fu (0, 0, e6)).bind fun e7 => ck 70 131 (some (e7.1, (upd e7.2 (Int32.toNatClampNeg 70) e7.1), e3.1, e3.2)))))
def m_X12_render_J56 (M_bo : Nat → Int32) (M_bn : Nat → Int32) (M_sh : Nat → Int32) (M_in : Nat → Int32) (M_su : Nat → Int32) (M_gr : Nat → Int32) (M_tr : Nat → Int32) (M_ou : Nat → Int32) (M_om : Int32) (M_ro : Nat → Int32) : Option ((Nat → Int32) × (Nat → Int32) × (Nat → Int32) × (Nat → Int32) × (Nat → Int32) × (Nat → Int32) × (Nat → Int32) × (Nat → Int32) × Int32 × (Nat → Int32)) := some (M_bo, M_bn, M_sh, M_in, M_su, M_gr, M_tr, M_ou, M_om, M_ro)
def m_X12_render (M_s : Nat → Int32) (M_bo : Nat → Int32) (M_bn : Nat → Int32) (M_sh : Nat → Int32) (M_in : Nat → Int32) (M_su : Nat → Int32) (M_gr : Nat → Int32) (M_tr : Nat → Int32) (M_ou : Nat → Int32) (M_om : Int32) (M_ro : Nat → Int32) (x1 : Int32) : Option ((Nat → Int32) × (Nat → Int32) × (Nat → Int32) × (Nat → Int32) × (Nat → Int32) × (Nat → Int32) × (Nat → Int32) × (Nat → Int32) × Int32 × (Nat → Int32)) := (m_X12_layLabels M_s M_bo M_bn M_sh M_in M_su M_gr M_tr).bind fun e1 => (m_X12_layRow M_s e1.1 e1.2.1 M_ro x1).bind fun e2 => ck 57 131 (if (M_s (Int32.toNatClampNeg 57)) = 0 then ((m_X12_putAuthorYear M_s e1.2.2.1 e1.2.2.2.1 e1.2.2.2.2.1 M_ou 0 e2 x1).bind fun e9 => m_X12_render_J56 e1.1 e1.2.1 e1.2.2.1 e1.2.2.2.1 e1.2.2.2.2.1 e1.2.2.2.2.2.1 e1.2.2.2.2.2.2 e9.1 e9.2 e2) else (ck 57 131 (if (M_s (Int32.toNatClampNeg 57)) = 1 then ((m_X12_putNumeric M_s e1.2.1 M_ou 0 e2 x1).bind fun e8 => m_X12_render_J56 e1.1 e1.2.1 e1.2.2.1 e1.2.2.2.1 e1.2.2.2.2.1 e1.2.2.2.2.2.1 e1.2.2.2.2.2.2 e8.1 e8.2 e2) else ((m_X12_putNote M_s e1.2.2.1 e1.2.2.2.1 M_ou 0 e2 x1).bind fun e7 => m_X12_render_J56 e1.1 e1.2.1 e1.2.2.1 e1.2.2.2.1 e1.2.2.2.2.1 e1.2.2.2.2.2.1 e1.2.2.2.2.2.2 e7.1 e7.2 e2))))
def m_X12_renderedCharacter_J12 (M_bo : Nat → Int32) (M_bn : Nat → Int32) (M_sh : Nat → Int32) (M_in : Nat → Int32) (M_su : Nat → Int32) (M_gr : Nat → Int32) (M_tr : Nat → Int32) (M_ou : Nat → Int32) (M_om : Int32) (M_ro : Nat → Int32) : Option (Int32 × (Nat → Int32) × (Nat → Int32) × (Nat → Int32) × (Nat → Int32) × (Nat → Int32) × (Nat → Int32) × (Nat → Int32) × (Nat → Int32) × Int32 × (Nat → Int32)) := some ((-1), M_bo, M_bn, M_sh, M_in, M_su, M_gr, M_tr, M_ou, M_om, M_ro)
def m_X12_renderedCharacter_J38 (y0 : Int32) (M_bo : Nat → Int32) (M_bn : Nat → Int32) (M_sh : Nat → Int32) (M_in : Nat → Int32) (M_su : Nat → Int32) (M_gr : Nat → Int32) (M_tr : Nat → Int32) (M_ou : Nat → Int32) (M_om : Int32) (M_ro : Nat → Int32) : Option (Int32 × (Nat → Int32) × (Nat → Int32) × (Nat → Int32) × (Nat → Int32) × (Nat → Int32) × (Nat → Int32) × (Nat → Int32) × (Nat → Int32) × Int32 × (Nat → Int32)) := some (y0, M_bo, M_bn, M_sh, M_in, M_su, M_gr, M_tr, M_ou, M_om, M_ro)
def m_X12_renderedCharacter (M_s : Nat → Int32) (M_bo : Nat → Int32) (M_bn : Nat → Int32) (M_sh : Nat → Int32) (M_in : Nat → Int32) (M_su : Nat → Int32) (M_gr : Nat → Int32) (M_tr : Nat → Int32) (M_ou : Nat → Int32) (M_om : Int32) (M_ro : Nat → Int32) (x1 : Int32) (x2 : Int32) : Option (Int32 × (Nat → Int32) × (Nat → Int32) × (Nat → Int32) × (Nat → Int32) × (Nat → Int32) × (Nat → Int32) × (Nat → Int32) × (Nat → Int32) × Int32 × (Nat → Int32)) := (m_X12_isCitation M_s x1).bind fun e1 => if e1 = 0 then (m_X12_renderedCharacter_J12 M_bo M_bn M_sh M_in M_su M_gr M_tr M_ou M_om M_ro) else (if 0 ≤ x2 then ((m_X12_render M_s M_bo M_bn M_sh M_in M_su M_gr M_tr M_ou M_om M_ro x1).bind fun e4 => if e4.2.2.2.2.2.2.2.2.1 ≤ x2 then (m_X12_renderedCharacter_J38 (-9) e4.1 e4.2.1 e4.2.2.1 e4.2.2.2.1 e4.2.2.2.2.1 e4.2.2.2.2.2.1 e4.2.2.2.2.2.2.1 e4.2.2.2.2.2.2.2.1 e4.2.2.2.2.2.2.2.2.1 e4.2.2.2.2.2.2.2.2.2) else (ck x2 300 (m_X12_renderedCharacter_J38 (e4.2.2.2.2.2.2.2.1 (Int32.toNatClampNeg x2)) e4.1 e4.2.1 e4.2.2.1 e4.2.2.2.1 e4.2.2.2.2.1 e4.2.2.2.2.2.1 e4.2.2.2.2.2.2.1 e4.2.2.2.2.2.2.2.1 e4.2.2.2.2.2.2.2.2.1 e4.2.2.2.2.2.2.2.2.2))) else (m_X12_renderedCharacter_J12 M_bo M_bn M_sh M_in M_su M_gr M_tr M_ou M_om M_ro))
def m_X12_renderedLength (M_s : Nat → Int32) (M_bo : Nat → Int32) (M_bn : Nat → Int32) (M_sh : Nat → Int32) (M_in : Nat → Int32) (M_su : Nat → Int32) (M_gr : Nat → Int32) (M_tr : Nat → Int32) (M_ou : Nat → Int32) (M_om : Int32) (M_ro : Nat → Int32) (x1 : Int32) : Option (Int32 × (Nat → Int32) × (Nat → Int32) × (Nat → Int32) × (Nat → Int32) × (Nat → Int32) × (Nat → Int32) × (Nat → Int32) × (Nat → Int32) × Int32 × (Nat → Int32)) := (m_X12_isCitation M_s x1).bind fun e1 => if e1 = 0 then (some ((-1), M_bo, M_bn, M_sh, M_in, M_su, M_gr, M_tr, M_ou, M_om, M_ro)) else ((m_X12_render M_s M_bo M_bn M_sh M_in M_su M_gr M_tr M_ou M_om M_ro x1).bind fun e3 => some (e3.2.2.2.2.2.2.2.2.1, e3.1, e3.2.1, e3.2.2.1, e3.2.2.2.1, e3.2.2.2.2.1, e3.2.2.2.2.2.1, e3.2.2.2.2.2.2.1, e3.2.2.2.2.2.2.2.1, e3.2.2.2.2.2.2.2.2.1, e3.2.2.2.2.2.2.2.2.2))
def m_X12_sets (M_s : Nat → Int32) (M_ke : Nat → Int32) (M_km : Int32) (x1 : Int32) (x2 : Int32) : Option (Int32 × (Nat → Int32) × (Nat → Int32) × Int32) := (m_X12_keeps M_s M_ke M_km).bind fun e1 => ck x1 131 (ck x1 131 (some ((M_s (Int32.toNatClampNeg x1)), (upd M_s (Int32.toNatClampNeg x1) x2), e1.1, e1.2)))
def m_X12_setCiteOrder_J21 (y0 : Int32) (M_s : Nat → Int32) (M_ke : Nat → Int32) (M_km : Int32) : Option (Int32 × (Nat → Int32) × (Nat → Int32) × Int32) := some (y0, M_s, M_ke, M_km)
def m_X12_setCiteOrder (M_s : Nat → Int32) (M_ke : Nat → Int32) (M_km : Int32) (x1 : Int32) : Option (Int32 × (Nat → Int32) × (Nat → Int32) × Int32) := (m_X12_in (Int32.toInt64 x1) 0 1).bind fun e1 => if e1 = 0 then (m_X12_setCiteOrder_J21 (-1) M_s M_ke M_km) else ((m_X12_sets M_s M_ke M_km 63 x1).bind fun e3 => m_X12_setCiteOrder_J21 e3.1 e3.2.1 e3.2.2.1 e3.2.2.2)
def m_X12_setCollapseLevel_J23 (y0 : Int32) (M_s : Nat → Int32) (M_ke : Nat → Int32) (M_km : Int32) : Option (Int32 × (Nat → Int32) × (Nat → Int32) × Int32) := some (y0, M_s, M_ke, M_km)
def m_X12_setCollapseLevel (M_s : Nat → Int32) (M_ke : Nat → Int32) (M_km : Int32) (x1 : Int32) : Option (Int32 × (Nat → Int32) × (Nat → Int32) × Int32) := (m_X12_in (Int32.toInt64 x1) 0 2).bind fun e1 => if e1 = 0 then (m_X12_setCollapseLevel_J23 (-1) M_s M_ke M_km) else ((m_X12_sets M_s M_ke M_km 61 x1).bind fun e3 => m_X12_setCollapseLevel_J23 e3.1 e3.2.1 e3.2.2.1 e3.2.2.2)
def m_X12_setDisambiguation_J23 (y0 : Int32) (M_s : Nat → Int32) (M_ke : Nat → Int32) (M_km : Int32) : Option (Int32 × (Nat → Int32) × (Nat → Int32) × Int32) := some (y0, M_s, M_ke, M_km)
def m_X12_setDisambiguation (M_s : Nat → Int32) (M_ke : Nat → Int32) (M_km : Int32) (x1 : Int32) : Option (Int32 × (Nat → Int32) × (Nat → Int32) × Int32) := (m_X12_in (Int32.toInt64 x1) 0 7).bind fun e1 => if e1 = 0 then (m_X12_setDisambiguation_J23 (-1) M_s M_ke M_km) else ((m_X12_sets M_s M_ke M_km 60 x1).bind fun e3 => m_X12_setDisambiguation_J23 e3.1 e3.2.1 e3.2.2.1 e3.2.2.2)
def m_X12_setEtAl_J24 (M_s : Nat → Int32) (M_ke : Nat → Int32) (M_km : Int32) : Option (Int32 × (Nat → Int32) × (Nat → Int32) × Int32) := some ((-1), M_s, M_ke, M_km)
def m_X12_setEtAl (M_s : Nat → Int32) (M_ke : Nat → Int32) (M_km : Int32) (x1 : Int32) (x2 : Int32) : Option (Int32 × (Nat → Int32) × (Nat → Int32) × Int32) := (m_X12_in (Int32.toInt64 x1) 0 5).bind fun e1 => if e1 = 0 then (m_X12_setEtAl_J24 M_s M_ke M_km) else ((m_X12_in (Int32.toInt64 x2) 1 3).bind fun e3 => if e3 = 0 then (m_X12_setEtAl_J24 M_s M_ke M_km) else ((m_X12_sets M_s M_ke M_km 58 x1).bind fun e5 => ck 59 131 (ck 59 131 (some (((10 * e5.1) + (e5.2.1 (Int32.toNatClampNeg 59))), (upd e5.2.1 (Int32.toNatClampNeg 59) x2), e5.2.2.1, e5.2.2.2)))))
def m_X12_setNumbering_J21 (y0 : Int32) (M_s : Nat → Int32) (M_ke : Nat → Int32) (M_km : Int32) : Option (Int32 × (Nat → Int32) × (Nat → Int32) × Int32) := some (y0, M_s, M_ke, M_km)
def m_X12_setNumbering (M_s : Nat → Int32) (M_ke : Nat → Int32) (M_km : Int32) (x1 : Int32) : Option (Int32 × (Nat → Int32) × (Nat → Int32) × Int32) := (m_X12_in (Int32.toInt64 x1) 0 1).bind fun e1 => if e1 = 0 then (m_X12_setNumbering_J21 (-1) M_s M_ke M_km) else ((m_X12_sets M_s M_ke M_km 62 x1).bind fun e3 => m_X12_setNumbering_J21 e3.1 e3.2.1 e3.2.2.1 e3.2.2.2)
def m_X12_setSortSlot_J34 (M_s : Nat → Int32) (M_ke : Nat → Int32) (M_km : Int32) : Option (Int32 × (Nat → Int32) × (Nat → Int32) × Int32) := some ((-1), M_s, M_ke, M_km)
def m_X12_setSortSlot (M_s : Nat → Int32) (M_ke : Nat → Int32) (M_km : Int32) (x1 : Int32) (x2 : Int32) (x3 : Int32) : Option (Int32 × (Nat → Int32) × (Nat → Int32) × Int32) := (m_X12_in (Int32.toInt64 x1) 0 2).bind fun e1 => if e1 = 0 then (m_X12_setSortSlot_J34 M_s M_ke M_km) else ((m_X12_in (Int32.toInt64 x2) 0 3).bind fun e3 => if e3 = 0 then (m_X12_setSortSlot_J34 M_s M_ke M_km) else ((m_X12_in (Int32.toInt64 x3) 0 1).bind fun e5 => if e5 = 0 then (m_X12_setSortSlot_J34 M_s M_ke M_km) else ((m_X12_sets M_s M_ke M_km (64 + (2 * x1)) x2).bind fun e7 => ck ((64 + (2 * x1)) + 1) 131 (ck ((64 + (2 * x1)) + 1) 131 (some (((2 * e7.1) + (e7.2.1 (Int32.toNatClampNeg ((64 + (2 * x1)) + 1)))), (upd e7.2.1 (Int32.toNatClampNeg ((64 + (2 * x1)) + 1)) x3), e7.2.2.1, e7.2.2.2))))))
def m_X12_setStyle_J23 (y0 : Int32) (M_s : Nat → Int32) (M_ke : Nat → Int32) (M_km : Int32) : Option (Int32 × (Nat → Int32) × (Nat → Int32) × Int32) := some (y0, M_s, M_ke, M_km)
def m_X12_setStyle (M_s : Nat → Int32) (M_ke : Nat → Int32) (M_km : Int32) (x1 : Int32) : Option (Int32 × (Nat → Int32) × (Nat → Int32) × Int32) := (m_X12_in (Int32.toInt64 x1) 0 2).bind fun e1 => if e1 = 0 then (m_X12_setStyle_J23 (-1) M_s M_ke M_km) else ((m_X12_sets M_s M_ke M_km 57 x1).bind fun e3 => m_X12_setStyle_J23 e3.1 e3.2.1 e3.2.2.1 e3.2.2.2)
def m_X12_setYear_J20 (M_s : Nat → Int32) (M_ke : Nat → Int32) (M_km : Int32) : Option (Int32 × (Nat → Int32) × (Nat → Int32) × Int32) := some ((-1), M_s, M_ke, M_km)
def m_X12_setYear (M_s : Nat → Int32) (M_ke : Nat → Int32) (M_km : Int32) (x1 : Int32) (x2 : Int32) : Option (Int32 × (Nat → Int32) × (Nat → Int32) × Int32) := (m_X12_isWork M_s x1).bind fun e1 => if e1 = 0 then (m_X12_setYear_J20 M_s M_ke M_km) else ((m_X12_in (Int32.toInt64 x2) 0 99).bind fun e3 => if e3 = 0 then (m_X12_setYear_J20 M_s M_ke M_km) else ((m_X12_sets M_s M_ke M_km ((1 + (7 * x1)) + 5) x2).bind fun e5 => some (e5.1, e5.2.1, e5.2.2.1, e5.2.2.2)))
def m_X12_shownAuthors (M_s : Nat → Int32) (M_bo : Nat → Int32) (M_bn : Nat → Int32) (M_sh : Nat → Int32) (M_in : Nat → Int32) (M_su : Nat → Int32) (M_gr : Nat → Int32) (M_tr : Nat → Int32) (x1 : Int32) : Option (Int32 × (Nat → Int32) × (Nat → Int32) × (Nat → Int32) × (Nat → Int32) × (Nat → Int32) × (Nat → Int32) × (Nat → Int32)) := (m_X12_isWork M_s x1).bind fun e1 => if e1 = 0 then (some ((-1), M_bo, M_bn, M_sh, M_in, M_su, M_gr, M_tr)) else ((m_X12_layLabels M_s M_bo M_bn M_sh M_in M_su M_gr M_tr).bind fun e3 => ck x1 8 (some ((e3.2.2.1 (Int32.toNatClampNeg x1)), e3.1, e3.2.1, e3.2.2.1, e3.2.2.2.1, e3.2.2.2.2.1, e3.2.2.2.2.2.1, e3.2.2.2.2.2.2)))
def m_X12_showsInitials_J28 (y0 : Int32) (M_bo : Nat → Int32) (M_bn : Nat → Int32) (M_sh : Nat → Int32) (M_in : Nat → Int32) (M_su : Nat → Int32) (M_gr : Nat → Int32) (M_tr : Nat → Int32) : Option (Int32 × (Nat → Int32) × (Nat → Int32) × (Nat → Int32) × (Nat → Int32) × (Nat → Int32) × (Nat → Int32) × (Nat → Int32)) := some (y0, M_bo, M_bn, M_sh, M_in, M_su, M_gr, M_tr)
def m_X12_showsInitials (M_s : Nat → Int32) (M_bo : Nat → Int32) (M_bn : Nat → Int32) (M_sh : Nat → Int32) (M_in : Nat → Int32) (M_su : Nat → Int32) (M_gr : Nat → Int32) (M_tr : Nat → Int32) (x1 : Int32) : Option (Int32 × (Nat → Int32) × (Nat → Int32) × (Nat → Int32) × (Nat → Int32) × (Nat → Int32) × (Nat → Int32) × (Nat → Int32)) := (m_X12_isWork M_s x1).bind fun e1 => if e1 = 0 then (some ((-1), M_bo, M_bn, M_sh, M_in, M_su, M_gr, M_tr)) else ((m_X12_layLabels M_s M_bo M_bn M_sh M_in M_su M_gr M_tr).bind fun e3 => ck x1 8 (if (e3.2.2.2.1 (Int32.toNatClampNeg x1)) = 0 then (m_X12_showsInitials_J28 0 e3.1 e3.2.1 e3.2.2.1 e3.2.2.2.1 e3.2.2.2.2.1 e3.2.2.2.2.2.1 e3.2.2.2.2.2.2) else (m_X12_showsInitials_J28 1 e3.1 e3.2.1 e3.2.2.1 e3.2.2.2.1 e3.2.2.2.2.1 e3.2.2.2.2.2.1 e3.2.2.2.2.2.2)))
def m_X12_suffixOf (M_s : Nat → Int32) (M_bo : Nat → Int32) (M_bn : Nat → Int32) (M_sh : Nat → Int32) (M_in : Nat → Int32) (M_su : Nat → Int32) (M_gr : Nat → Int32) (M_tr : Nat → Int32) (x1 : Int32) : Option (Int32 × (Nat → Int32) × (Nat → Int32) × (Nat → Int32) × (Nat → Int32) × (Nat → Int32) × (Nat → Int32) × (Nat → Int32)) := (m_X12_isWork M_s x1).bind fun e1 => if e1 = 0 then (some ((-1), M_bo, M_bn, M_sh, M_in, M_su, M_gr, M_tr)) else ((m_X12_layLabels M_s M_bo M_bn M_sh M_in M_su M_gr M_tr).bind fun e3 => ck x1 8 (some ((e3.2.2.2.2.1 (Int32.toNatClampNeg x1)), e3.1, e3.2.1, e3.2.2.1, e3.2.2.2.1, e3.2.2.2.2.1, e3.2.2.2.2.2.1, e3.2.2.2.2.2.2)))
def m_X12_undo_B22 (M_ke : Nat → Int32) (M_km : Int32) (st : Int32 × (Nat → Int32)) : Option ((Int32 × (Nat → Int32)) ⊕ (((Nat → Int32)))) := if 131 ≤ st.1 then (some (Sum.inr st.2)) else (ck ((131 * M_km) + st.1) 1048 (ck st.1 131 (some (Sum.inl ((st.1 + 1), (upd st.2 (Int32.toNatClampNeg st.1) (M_ke (Int32.toNatClampNeg ((131 * M_km) + st.1)))))))))
def m_X12_undo (M_s : Nat → Int32) (M_ke : Nat → Int32) (M_km : Int32) : Option (Int32 × (Nat → Int32) × Int32) := if M_km = 0 then (some ((-2), M_s, M_km)) else ((it (m_X12_undo_B22 M_ke (M_km - 1)) fu (0, M_s)).bind fun e2 => some ((M_km - 1), e2, (M_km - 1)))
def m_X12_workCount (M_s : Nat → Int32) : Option (Int32) := ck 0 131 (some (M_s (Int32.toNatClampNeg 0)))
def w_X12_putYear (cI : ClassId) (aM aM_s aM_ke aM_te aM_re aM_bo aM_bn aM_sh aM_in aM_su aM_gr aM_tr aM_ou aM_ro : Nat) (M_s : Nat → Int32) (M_km : Int32) (M_n : Int32) (M_be : Int32) (M_ma : Int32) (M_so : Int32) (M_ou : Nat → Int32) (M_om : Int32) : va_W := [(aM, .inr (12, [.ref aM_s, .ref aM_ke, .int M_km, .ref aM_te, .int M_n, .ref aM_re, .int M_be, .int M_ma, .int M_so, .ref aM_bo, .ref aM_bn, .ref aM_sh, .ref aM_in, .ref aM_su, .ref aM_gr, .ref aM_tr, .ref aM_ou, .int M_om, .ref aM_ro])), (aM_s, .inl (cI, 131, .inl M_s)), (aM_ou, .inl (cI, 300, .inl M_ou))]
theorem wa_X12_putYear {cI : ClassId} {aM aM_s aM_ke aM_te aM_re aM_bo aM_bn aM_sh aM_in aM_su aM_gr aM_tr aM_ou aM_ro : Nat} {M_s M_s' : Nat → Int32} {M_km M_km' : Int32} {M_n M_n' : Int32} {M_be M_be' : Int32} {M_ma M_ma' : Int32} {M_so M_so' : Int32} {M_ou M_ou' : Nat → Int32} {M_om M_om' : Int32} : (w_X12_putYear cI aM aM_s aM_ke aM_te aM_re aM_bo aM_bn aM_sh aM_in aM_su aM_gr aM_tr aM_ou aM_ro M_s' M_km' M_n' M_be' M_ma' M_so' M_ou' M_om').map Prod.fst = (w_X12_putYear cI aM aM_s aM_ke aM_te aM_re aM_bo aM_bn aM_sh aM_in aM_su aM_gr aM_tr aM_ou aM_ro M_s M_km M_n M_be M_ma M_so M_ou M_om).map Prod.fst := rfl
abbrev rm_X12_putYear : Room := { frames := 1, cells := 0, slots := 0, locals := 21 }
def w_X12_putSuffix (cI : ClassId) (aM aM_s aM_ke aM_te aM_re aM_bo aM_bn aM_sh aM_in aM_su aM_gr aM_tr aM_ou aM_ro : Nat) (M_km : Int32) (M_n : Int32) (M_be : Int32) (M_ma : Int32) (M_so : Int32) (M_su : Nat → Int32) (M_ou : Nat → Int32) (M_om : Int32) : va_W := [(aM, .inr (12, [.ref aM_s, .ref aM_ke, .int M_km, .ref aM_te, .int M_n, .ref aM_re, .int M_be, .int M_ma, .int M_so, .ref aM_bo, .ref aM_bn, .ref aM_sh, .ref aM_in, .ref aM_su, .ref aM_gr, .ref aM_tr, .ref aM_ou, .int M_om, .ref aM_ro])), (aM_su, .inl (cI, 8, .inl M_su)), (aM_ou, .inl (cI, 300, .inl M_ou))]
theorem wa_X12_putSuffix {cI : ClassId} {aM aM_s aM_ke aM_te aM_re aM_bo aM_bn aM_sh aM_in aM_su aM_gr aM_tr aM_ou aM_ro : Nat} {M_km M_km' : Int32} {M_n M_n' : Int32} {M_be M_be' : Int32} {M_ma M_ma' : Int32} {M_so M_so' : Int32} {M_su M_su' : Nat → Int32} {M_ou M_ou' : Nat → Int32} {M_om M_om' : Int32} : (w_X12_putSuffix cI aM aM_s aM_ke aM_te aM_re aM_bo aM_bn aM_sh aM_in aM_su aM_gr aM_tr aM_ou aM_ro M_km' M_n' M_be' M_ma' M_so' M_su' M_ou' M_om').map Prod.fst = (w_X12_putSuffix cI aM aM_s aM_ke aM_te aM_re aM_bo aM_bn aM_sh aM_in aM_su aM_gr aM_tr aM_ou aM_ro M_km M_n M_be M_ma M_so M_su M_ou M_om).map Prod.fst := rfl
abbrev rm_X12_putSuffix : Room := { frames := 1, cells := 0, slots := 0, locals := 21 }
def w_X12_entryCharacter (cI : ClassId) (cZ : ClassId) (aM aM_s aM_ke aM_te aM_re aM_bo aM_bn aM_sh aM_in aM_su aM_gr aM_tr aM_ou aM_ro : Nat) (M_s : Nat → Int32) (M_km : Int32) (M_n : Int32) (M_be : Int32) (M_ma : Int32) (M_so : Int32) (M_bo : Nat → Int32) (M_bn : Nat → Int32) (M_sh : Nat → Int32) (M_in : Nat → Int32) (M_su : Nat → Int32) (M_gr : Nat → Int32) (M_tr : Nat → Int32) (M_ou : Nat → Int32) (M_om : Int32) : va_W := [(aM, .inr (12, [.ref aM_s, .ref aM_ke, .int M_km, .ref aM_te, .int M_n, .ref aM_re, .int M_be, .int M_ma, .int M_so, .ref aM_bo, .ref aM_bn, .ref aM_sh, .ref aM_in, .ref aM_su, .ref aM_gr, .ref aM_tr, .ref aM_ou, .int M_om, .ref aM_ro])), (aM_s, .inl (cI, 131, .inl M_s)), (aM_bo, .inl (cI, 8, .inl M_bo)), (aM_bn, .inl (cI, 8, .inl M_bn)), (aM_sh, .inl (cI, 8, .inl M_sh)), (aM_in, .inl (cZ, 8, .inl M_in)), (aM_su, .inl (cI, 8, .inl M_su)), (aM_gr, .inl (cI, 8, .inl M_gr)), (aM_tr, .inl (cI, 8, .inl M_tr)), (aM_ou, .inl (cI, 300, .inl M_ou))]
theorem wa_X12_entryCharacter {cI : ClassId} {cZ : ClassId} {aM aM_s aM_ke aM_te aM_re aM_bo aM_bn aM_sh aM_in aM_su aM_gr aM_tr aM_ou aM_ro : Nat} {M_s M_s' : Nat → Int32} {M_km M_km' : Int32} {M_n M_n' : Int32} {M_be M_be' : Int32} {M_ma M_ma' : Int32} {M_so M_so' : Int32} {M_bo M_bo' : Nat → Int32} {M_bn M_bn' : Nat → Int32} {M_sh M_sh' : Nat → Int32} {M_in M_in' : Nat → Int32} {M_su M_su' : Nat → Int32} {M_gr M_gr' : Nat → Int32} {M_tr M_tr' : Nat → Int32} {M_ou M_ou' : Nat → Int32} {M_om M_om' : Int32} : (w_X12_entryCharacter cI cZ aM aM_s aM_ke aM_te aM_re aM_bo aM_bn aM_sh aM_in aM_su aM_gr aM_tr aM_ou aM_ro M_s' M_km' M_n' M_be' M_ma' M_so' M_bo' M_bn' M_sh' M_in' M_su' M_gr' M_tr' M_ou' M_om').map Prod.fst = (w_X12_entryCharacter cI cZ aM aM_s aM_ke aM_te aM_re aM_bo aM_bn aM_sh aM_in aM_su aM_gr aM_tr aM_ou aM_ro M_s M_km M_n M_be M_ma M_so M_bo M_bn M_sh M_in M_su M_gr M_tr M_ou M_om).map Prod.fst := rfl
abbrev rm_X12_entryCharacter : Room := { frames := 6, cells := 0, slots := 0, locals := 141 }
def w_X12_workOf (cI : ClassId) (aM aM_s aM_ke aM_te aM_re aM_bo aM_bn aM_sh aM_in aM_su aM_gr aM_tr aM_ou aM_ro : Nat) (M_km : Int32) (M_n : Int32) (M_be : Int32) (M_ma : Int32) (M_so : Int32) (M_bn : Nat → Int32) (M_om : Int32) : va_W := [(aM, .inr (12, [.ref aM_s, .ref aM_ke, .int M_km, .ref aM_te, .int M_n, .ref aM_re, .int M_be, .int M_ma, .int M_so, .ref aM_bo, .ref aM_bn, .ref aM_sh, .ref aM_in, .ref aM_su, .ref aM_gr, .ref aM_tr, .ref aM_ou, .int M_om, .ref aM_ro])), (aM_bn, .inl (cI, 8, .inl M_bn))]
theorem wa_X12_workOf {cI : ClassId} {aM aM_s aM_ke aM_te aM_re aM_bo aM_bn aM_sh aM_in aM_su aM_gr aM_tr aM_ou aM_ro : Nat} {M_km M_km' : Int32} {M_n M_n' : Int32} {M_be M_be' : Int32} {M_ma M_ma' : Int32} {M_so M_so' : Int32} {M_bn M_bn' : Nat → Int32} {M_om M_om' : Int32} : (w_X12_workOf cI aM aM_s aM_ke aM_te aM_re aM_bo aM_bn aM_sh aM_in aM_su aM_gr aM_tr aM_ou aM_ro M_km' M_n' M_be' M_ma' M_so' M_bn' M_om').map Prod.fst = (w_X12_workOf cI aM aM_s aM_ke aM_te aM_re aM_bo aM_bn aM_sh aM_in aM_su aM_gr aM_tr aM_ou aM_ro M_km M_n M_be M_ma M_so M_bn M_om).map Prod.fst := rfl
abbrev rm_X12_workOf : Room := { frames := 0, cells := 0, slots := 0, locals := 0 }
def w_X12_expandNumbers (cI : ClassId) (aM aM_s aM_ke aM_te aM_re aM_bo aM_bn aM_sh aM_in aM_su aM_gr aM_tr aM_ou aM_ro : Nat) (M_s : Nat → Int32) (M_km : Int32) (M_te : Nat → Int32) (M_n : Int32) (M_be : Int32) (M_ma : Int32) (M_so : Int32) (M_bo : Nat → Int32) (M_bn : Nat → Int32) (M_om : Int32) : va_W := [(aM, .inr (12, [.ref aM_s, .ref aM_ke, .int M_km, .ref aM_te, .int M_n, .ref aM_re, .int M_be, .int M_ma, .int M_so, .ref aM_bo, .ref aM_bn, .ref aM_sh, .ref aM_in, .ref aM_su, .ref aM_gr, .ref aM_tr, .ref aM_ou, .int M_om, .ref aM_ro])), (aM_s, .inl (cI, 131, .inl M_s)), (aM_te, .inl (cI, 150, .inl M_te)), (aM_bo, .inl (cI, 8, .inl M_bo)), (aM_bn, .inl (cI, 8, .inl M_bn))]
theorem wa_X12_expandNumbers {cI : ClassId} {aM aM_s aM_ke aM_te aM_re aM_bo aM_bn aM_sh aM_in aM_su aM_gr aM_tr aM_ou aM_ro : Nat} {M_s M_s' : Nat → Int32} {M_km M_km' : Int32} {M_te M_te' : Nat → Int32} {M_n M_n' : Int32} {M_be M_be' : Int32} {M_ma M_ma' : Int32} {M_so M_so' : Int32} {M_bo M_bo' : Nat → Int32} {M_bn M_bn' : Nat → Int32} {M_om M_om' : Int32} : (w_X12_expandNumbers cI aM aM_s aM_ke aM_te aM_re aM_bo aM_bn aM_sh aM_in aM_su aM_gr aM_tr aM_ou aM_ro M_s' M_km' M_te' M_n' M_be' M_ma' M_so' M_bo' M_bn' M_om').map Prod.fst = (w_X12_expandNumbers cI aM aM_s aM_ke aM_te aM_re aM_bo aM_bn aM_sh aM_in aM_su aM_gr aM_tr aM_ou aM_ro M_s M_km M_te M_n M_be M_ma M_so M_bo M_bn M_om).map Prod.fst := rfl
abbrev rm_X12_expandNumbers : Room := { frames := 5, cells := 0, slots := 0, locals := 119 }
def w_X12_letterAt (cI : ClassId) (aM aM_s aM_ke aM_te aM_re aM_bo aM_bn aM_sh aM_in aM_su aM_gr aM_tr aM_ou aM_ro : Nat) (M_km : Int32) (M_te : Nat → Int32) (M_n : Int32) (M_be : Int32) (M_ma : Int32) (M_so : Int32) (M_om : Int32) : va_W := [(aM, .inr (12, [.ref aM_s, .ref aM_ke, .int M_km, .ref aM_te, .int M_n, .ref aM_re, .int M_be, .int M_ma, .int M_so, .ref aM_bo, .ref aM_bn, .ref aM_sh, .ref aM_in, .ref aM_su, .ref aM_gr, .ref aM_tr, .ref aM_ou, .int M_om, .ref aM_ro])), (aM_te, .inl (cI, 150, .inl M_te))]
theorem wa_X12_letterAt {cI : ClassId} {aM aM_s aM_ke aM_te aM_re aM_bo aM_bn aM_sh aM_in aM_su aM_gr aM_tr aM_ou aM_ro : Nat} {M_km M_km' : Int32} {M_te M_te' : Nat → Int32} {M_n M_n' : Int32} {M_be M_be' : Int32} {M_ma M_ma' : Int32} {M_so M_so' : Int32} {M_om M_om' : Int32} : (w_X12_letterAt cI aM aM_s aM_ke aM_te aM_re aM_bo aM_bn aM_sh aM_in aM_su aM_gr aM_tr aM_ou aM_ro M_km' M_te' M_n' M_be' M_ma' M_so' M_om').map Prod.fst = (w_X12_letterAt cI aM aM_s aM_ke aM_te aM_re aM_bo aM_bn aM_sh aM_in aM_su aM_gr aM_tr aM_ou aM_ro M_km M_te M_n M_be M_ma M_so M_om).map Prod.fst := rfl
abbrev rm_X12_letterAt : Room := { frames := 0, cells := 0, slots := 0, locals := 0 }
def w_X12_isFigure (cI : ClassId) (aM aM_s aM_ke aM_te aM_re aM_bo aM_bn aM_sh aM_in aM_su aM_gr aM_tr aM_ou aM_ro : Nat) (M_km : Int32) (M_te : Nat → Int32) (M_n : Int32) (M_be : Int32) (M_ma : Int32) (M_so : Int32) (M_om : Int32) : va_W := [(aM, .inr (12, [.ref aM_s, .ref aM_ke, .int M_km, .ref aM_te, .int M_n, .ref aM_re, .int M_be, .int M_ma, .int M_so, .ref aM_bo, .ref aM_bn, .ref aM_sh, .ref aM_in, .ref aM_su, .ref aM_gr, .ref aM_tr, .ref aM_ou, .int M_om, .ref aM_ro])), (aM_te, .inl (cI, 150, .inl M_te))]
theorem wa_X12_isFigure {cI : ClassId} {aM aM_s aM_ke aM_te aM_re aM_bo aM_bn aM_sh aM_in aM_su aM_gr aM_tr aM_ou aM_ro : Nat} {M_km M_km' : Int32} {M_te M_te' : Nat → Int32} {M_n M_n' : Int32} {M_be M_be' : Int32} {M_ma M_ma' : Int32} {M_so M_so' : Int32} {M_om M_om' : Int32} : (w_X12_isFigure cI aM aM_s aM_ke aM_te aM_re aM_bo aM_bn aM_sh aM_in aM_su aM_gr aM_tr aM_ou aM_ro M_km' M_te' M_n' M_be' M_ma' M_so' M_om').map Prod.fst = (w_X12_isFigure cI aM aM_s aM_ke aM_te aM_re aM_bo aM_bn aM_sh aM_in aM_su aM_gr aM_tr aM_ou aM_ro M_km M_te M_n M_be M_ma M_so M_om).map Prod.fst := rfl
abbrev rm_X12_isFigure : Room := { frames := 1, cells := 0, slots := 0, locals := 25 }
def w_X12_isLow (cI : ClassId) (aM aM_s aM_ke aM_te aM_re aM_bo aM_bn aM_sh aM_in aM_su aM_gr aM_tr aM_ou aM_ro : Nat) (M_km : Int32) (M_te : Nat → Int32) (M_n : Int32) (M_be : Int32) (M_ma : Int32) (M_so : Int32) (M_om : Int32) : va_W := [(aM, .inr (12, [.ref aM_s, .ref aM_ke, .int M_km, .ref aM_te, .int M_n, .ref aM_re, .int M_be, .int M_ma, .int M_so, .ref aM_bo, .ref aM_bn, .ref aM_sh, .ref aM_in, .ref aM_su, .ref aM_gr, .ref aM_tr, .ref aM_ou, .int M_om, .ref aM_ro])), (aM_te, .inl (cI, 150, .inl M_te))]
theorem wa_X12_isLow {cI : ClassId} {aM aM_s aM_ke aM_te aM_re aM_bo aM_bn aM_sh aM_in aM_su aM_gr aM_tr aM_ou aM_ro : Nat} {M_km M_km' : Int32} {M_te M_te' : Nat → Int32} {M_n M_n' : Int32} {M_be M_be' : Int32} {M_ma M_ma' : Int32} {M_so M_so' : Int32} {M_om M_om' : Int32} : (w_X12_isLow cI aM aM_s aM_ke aM_te aM_re aM_bo aM_bn aM_sh aM_in aM_su aM_gr aM_tr aM_ou aM_ro M_km' M_te' M_n' M_be' M_ma' M_so' M_om').map Prod.fst = (w_X12_isLow cI aM aM_s aM_ke aM_te aM_re aM_bo aM_bn aM_sh aM_in aM_su aM_gr aM_tr aM_ou aM_ro M_km M_te M_n M_be M_ma M_so M_om).map Prod.fst := rfl
abbrev rm_X12_isLow : Room := { frames := 1, cells := 0, slots := 0, locals := 25 }
def w_X12_isWordWork (cI : ClassId) (aM aM_s aM_ke aM_te aM_re aM_bo aM_bn aM_sh aM_in aM_su aM_gr aM_tr aM_ou aM_ro : Nat) (M_km : Int32) (M_te : Nat → Int32) (M_n : Int32) (M_be : Int32) (M_ma : Int32) (M_so : Int32) (M_om : Int32) : va_W := [(aM, .inr (12, [.ref aM_s, .ref aM_ke, .int M_km, .ref aM_te, .int M_n, .ref aM_re, .int M_be, .int M_ma, .int M_so, .ref aM_bo, .ref aM_bn, .ref aM_sh, .ref aM_in, .ref aM_su, .ref aM_gr, .ref aM_tr, .ref aM_ou, .int M_om, .ref aM_ro])), (aM_te, .inl (cI, 150, .inl M_te))]
theorem wa_X12_isWordWork {cI : ClassId} {aM aM_s aM_ke aM_te aM_re aM_bo aM_bn aM_sh aM_in aM_su aM_gr aM_tr aM_ou aM_ro : Nat} {M_km M_km' : Int32} {M_te M_te' : Nat → Int32} {M_n M_n' : Int32} {M_be M_be' : Int32} {M_ma M_ma' : Int32} {M_so M_so' : Int32} {M_om M_om' : Int32} : (w_X12_isWordWork cI aM aM_s aM_ke aM_te aM_re aM_bo aM_bn aM_sh aM_in aM_su aM_gr aM_tr aM_ou aM_ro M_km' M_te' M_n' M_be' M_ma' M_so' M_om').map Prod.fst = (w_X12_isWordWork cI aM aM_s aM_ke aM_te aM_re aM_bo aM_bn aM_sh aM_in aM_su aM_gr aM_tr aM_ou aM_ro M_km M_te M_n M_be M_ma M_so M_om).map Prod.fst := rfl
abbrev rm_X12_isWordWork : Room := { frames := 0, cells := 0, slots := 0, locals := 0 }
def w_X12_placeIn_bo (cI : ClassId) (aM aM_s aM_ke aM_te aM_re aM_bo aM_bn aM_sh aM_in aM_su aM_gr aM_tr aM_ou aM_ro : Nat) (M_km : Int32) (M_n : Int32) (M_be : Int32) (M_ma : Int32) (M_so : Int32) (M_bo : Nat → Int32) (M_om : Int32) : va_W := [(aM, .inr (12, [.ref aM_s, .ref aM_ke, .int M_km, .ref aM_te, .int M_n, .ref aM_re, .int M_be, .int M_ma, .int M_so, .ref aM_bo, .ref aM_bn, .ref aM_sh, .ref aM_in, .ref aM_su, .ref aM_gr, .ref aM_tr, .ref aM_ou, .int M_om, .ref aM_ro])), (aM_bo, .inl (cI, 8, .inl M_bo))]
theorem wa_X12_placeIn_bo {cI : ClassId} {aM aM_s aM_ke aM_te aM_re aM_bo aM_bn aM_sh aM_in aM_su aM_gr aM_tr aM_ou aM_ro : Nat} {M_km M_km' : Int32} {M_n M_n' : Int32} {M_be M_be' : Int32} {M_ma M_ma' : Int32} {M_so M_so' : Int32} {M_bo M_bo' : Nat → Int32} {M_om M_om' : Int32} : (w_X12_placeIn_bo cI aM aM_s aM_ke aM_te aM_re aM_bo aM_bn aM_sh aM_in aM_su aM_gr aM_tr aM_ou aM_ro M_km' M_n' M_be' M_ma' M_so' M_bo' M_om').map Prod.fst = (w_X12_placeIn_bo cI aM aM_s aM_ke aM_te aM_re aM_bo aM_bn aM_sh aM_in aM_su aM_gr aM_tr aM_ou aM_ro M_km M_n M_be M_ma M_so M_bo M_om).map Prod.fst := rfl
abbrev rm_X12_placeIn_bo : Room := { frames := 0, cells := 0, slots := 0, locals := 0 }
def w_X12_rankOf (cI : ClassId) (aM aM_s aM_ke aM_te aM_re aM_bo aM_bn aM_sh aM_in aM_su aM_gr aM_tr aM_ou aM_ro : Nat) (M_s : Nat → Int32) (M_km : Int32) (M_n : Int32) (M_be : Int32) (M_ma : Int32) (M_so : Int32) (M_bo : Nat → Int32) (M_bn : Nat → Int32) (M_om : Int32) : va_W := [(aM, .inr (12, [.ref aM_s, .ref aM_ke, .int M_km, .ref aM_te, .int M_n, .ref aM_re, .int M_be, .int M_ma, .int M_so, .ref aM_bo, .ref aM_bn, .ref aM_sh, .ref aM_in, .ref aM_su, .ref aM_gr, .ref aM_tr, .ref aM_ou, .int M_om, .ref aM_ro])), (aM_s, .inl (cI, 131, .inl M_s)), (aM_bo, .inl (cI, 8, .inl M_bo)), (aM_bn, .inl (cI, 8, .inl M_bn))]
theorem wa_X12_rankOf {cI : ClassId} {aM aM_s aM_ke aM_te aM_re aM_bo aM_bn aM_sh aM_in aM_su aM_gr aM_tr aM_ou aM_ro : Nat} {M_s M_s' : Nat → Int32} {M_km M_km' : Int32} {M_n M_n' : Int32} {M_be M_be' : Int32} {M_ma M_ma' : Int32} {M_so M_so' : Int32} {M_bo M_bo' : Nat → Int32} {M_bn M_bn' : Nat → Int32} {M_om M_om' : Int32} : (w_X12_rankOf cI aM aM_s aM_ke aM_te aM_re aM_bo aM_bn aM_sh aM_in aM_su aM_gr aM_tr aM_ou aM_ro M_s' M_km' M_n' M_be' M_ma' M_so' M_bo' M_bn' M_om').map Prod.fst = (w_X12_rankOf cI aM aM_s aM_ke aM_te aM_re aM_bo aM_bn aM_sh aM_in aM_su aM_gr aM_tr aM_ou aM_ro M_s M_km M_n M_be M_ma M_so M_bo M_bn M_om).map Prod.fst := rfl
abbrev rm_X12_rankOf : Room := { frames := 1, cells := 0, slots := 0, locals := 23 }
def w_X12_layRow (cI : ClassId) (aM aM_s aM_ke aM_te aM_re aM_bo aM_bn aM_sh aM_in aM_su aM_gr aM_tr aM_ou aM_ro : Nat) (M_s : Nat → Int32) (M_km : Int32) (M_n : Int32) (M_be : Int32) (M_ma : Int32) (M_so : Int32) (M_bo : Nat → Int32) (M_bn : Nat → Int32) (M_om : Int32) (M_ro : Nat → Int32) : va_W := [(aM, .inr (12, [.ref aM_s, .ref aM_ke, .int M_km, .ref aM_te, .int M_n, .ref aM_re, .int M_be, .int M_ma, .int M_so, .ref aM_bo, .ref aM_bn, .ref aM_sh, .ref aM_in, .ref aM_su, .ref aM_gr, .ref aM_tr, .ref aM_ou, .int M_om, .ref aM_ro])), (aM_s, .inl (cI, 131, .inl M_s)), (aM_bo, .inl (cI, 8, .inl M_bo)), (aM_bn, .inl (cI, 8, .inl M_bn)), (aM_ro, .inl (cI, 5, .inl M_ro))]
theorem wa_X12_layRow {cI : ClassId} {aM aM_s aM_ke aM_te aM_re aM_bo aM_bn aM_sh aM_in aM_su aM_gr aM_tr aM_ou aM_ro : Nat} {M_s M_s' : Nat → Int32} {M_km M_km' : Int32} {M_n M_n' : Int32} {M_be M_be' : Int32} {M_ma M_ma' : Int32} {M_so M_so' : Int32} {M_bo M_bo' : Nat → Int32} {M_bn M_bn' : Nat → Int32} {M_om M_om' : Int32} {M_ro M_ro' : Nat → Int32} : (w_X12_layRow cI aM aM_s aM_ke aM_te aM_re aM_bo aM_bn aM_sh aM_in aM_su aM_gr aM_tr aM_ou aM_ro M_s' M_km' M_n' M_be' M_ma' M_so' M_bo' M_bn' M_om' M_ro').map Prod.fst = (w_X12_layRow cI aM aM_s aM_ke aM_te aM_re aM_bo aM_bn aM_sh aM_in aM_su aM_gr aM_tr aM_ou aM_ro M_s M_km M_n M_be M_ma M_so M_bo M_bn M_om M_ro).map Prod.fst := rfl
abbrev rm_X12_layRow : Room := { frames := 2, cells := 0, slots := 0, locals := 44 }
def w_X12_nextLexeme (cI : ClassId) (aM aM_s aM_ke aM_te aM_re aM_bo aM_bn aM_sh aM_in aM_su aM_gr aM_tr aM_ou aM_ro : Nat) (M_km : Int32) (M_te : Nat → Int32) (M_n : Int32) (M_be : Int32) (M_ma : Int32) (M_so : Int32) (M_om : Int32) : va_W := [(aM, .inr (12, [.ref aM_s, .ref aM_ke, .int M_km, .ref aM_te, .int M_n, .ref aM_re, .int M_be, .int M_ma, .int M_so, .ref aM_bo, .ref aM_bn, .ref aM_sh, .ref aM_in, .ref aM_su, .ref aM_gr, .ref aM_tr, .ref aM_ou, .int M_om, .ref aM_ro])), (aM_te, .inl (cI, 150, .inl M_te))]
theorem wa_X12_nextLexeme {cI : ClassId} {aM aM_s aM_ke aM_te aM_re aM_bo aM_bn aM_sh aM_in aM_su aM_gr aM_tr aM_ou aM_ro : Nat} {M_km M_km' : Int32} {M_te M_te' : Nat → Int32} {M_n M_n' : Int32} {M_be M_be' : Int32} {M_ma M_ma' : Int32} {M_so M_so' : Int32} {M_om M_om' : Int32} : (w_X12_nextLexeme cI aM aM_s aM_ke aM_te aM_re aM_bo aM_bn aM_sh aM_in aM_su aM_gr aM_tr aM_ou aM_ro M_km' M_te' M_n' M_be' M_ma' M_so' M_om').map Prod.fst = (w_X12_nextLexeme cI aM aM_s aM_ke aM_te aM_re aM_bo aM_bn aM_sh aM_in aM_su aM_gr aM_tr aM_ou aM_ro M_km M_te M_n M_be M_ma M_so M_om).map Prod.fst := rfl
abbrev rm_X12_nextLexeme : Room := { frames := 2, cells := 0, slots := 0, locals := 46 }
def w_X12_readsWork (cI : ClassId) (aM aM_s aM_ke aM_te aM_re aM_bo aM_bn aM_sh aM_in aM_su aM_gr aM_tr aM_ou aM_ro : Nat) (M_km : Int32) (M_te : Nat → Int32) (M_n : Int32) (M_re : Nat → Int32) (M_be : Int32) (M_ma : Int32) (M_so : Int32) (M_om : Int32) : va_W := [(aM, .inr (12, [.ref aM_s, .ref aM_ke, .int M_km, .ref aM_te, .int M_n, .ref aM_re, .int M_be, .int M_ma, .int M_so, .ref aM_bo, .ref aM_bn, .ref aM_sh, .ref aM_in, .ref aM_su, .ref aM_gr, .ref aM_tr, .ref aM_ou, .int M_om, .ref aM_ro])), (aM_te, .inl (cI, 150, .inl M_te)), (aM_re, .inl (cI, 57, .inl M_re))]
theorem wa_X12_readsWork {cI : ClassId} {aM aM_s aM_ke aM_te aM_re aM_bo aM_bn aM_sh aM_in aM_su aM_gr aM_tr aM_ou aM_ro : Nat} {M_km M_km' : Int32} {M_te M_te' : Nat → Int32} {M_n M_n' : Int32} {M_re M_re' : Nat → Int32} {M_be M_be' : Int32} {M_ma M_ma' : Int32} {M_so M_so' : Int32} {M_om M_om' : Int32} : (w_X12_readsWork cI aM aM_s aM_ke aM_te aM_re aM_bo aM_bn aM_sh aM_in aM_su aM_gr aM_tr aM_ou aM_ro M_km' M_te' M_n' M_re' M_be' M_ma' M_so' M_om').map Prod.fst = (w_X12_readsWork cI aM aM_s aM_ke aM_te aM_re aM_bo aM_bn aM_sh aM_in aM_su aM_gr aM_tr aM_ou aM_ro M_km M_te M_n M_re M_be M_ma M_so M_om).map Prod.fst := rfl
abbrev rm_X12_readsWork : Room := { frames := 3, cells := 0, slots := 0, locals := 66 }
def w_X12_loadWorks (cI : ClassId) (aM aM_s aM_ke aM_te aM_re aM_bo aM_bn aM_sh aM_in aM_su aM_gr aM_tr aM_ou aM_ro : Nat) (M_s : Nat → Int32) (M_ke : Nat → Int32) (M_km : Int32) (M_te : Nat → Int32) (M_n : Int32) (M_re : Nat → Int32) (M_be : Int32) (M_ma : Int32) (M_so : Int32) (M_om : Int32) : va_W := [(aM, .inr (12, [.ref aM_s, .ref aM_ke, .int M_km, .ref aM_te, .int M_n, .ref aM_re, .int M_be, .int M_ma, .int M_so, .ref aM_bo, .ref aM_bn, .ref aM_sh, .ref aM_in, .ref aM_su, .ref aM_gr, .ref aM_tr, .ref aM_ou, .int M_om, .ref aM_ro])), (aM_s, .inl (cI, 131, .inl M_s)), (aM_ke, .inl (cI, 1048, .inl M_ke)), (aM_te, .inl (cI, 150, .inl M_te)), (aM_re, .inl (cI, 57, .inl M_re))]
theorem wa_X12_loadWorks {cI : ClassId} {aM aM_s aM_ke aM_te aM_re aM_bo aM_bn aM_sh aM_in aM_su aM_gr aM_tr aM_ou aM_ro : Nat} {M_s M_s' : Nat → Int32} {M_ke M_ke' : Nat → Int32} {M_km M_km' : Int32} {M_te M_te' : Nat → Int32} {M_n M_n' : Int32} {M_re M_re' : Nat → Int32} {M_be M_be' : Int32} {M_ma M_ma' : Int32} {M_so M_so' : Int32} {M_om M_om' : Int32} : (w_X12_loadWorks cI aM aM_s aM_ke aM_te aM_re aM_bo aM_bn aM_sh aM_in aM_su aM_gr aM_tr aM_ou aM_ro M_s' M_ke' M_km' M_te' M_n' M_re' M_be' M_ma' M_so' M_om').map Prod.fst = (w_X12_loadWorks cI aM aM_s aM_ke aM_te aM_re aM_bo aM_bn aM_sh aM_in aM_su aM_gr aM_tr aM_ou aM_ro M_s M_ke M_km M_te M_n M_re M_be M_ma M_so M_om).map Prod.fst := rfl
abbrev rm_X12_loadWorks : Room := { frames := 4, cells := 0, slots := 0, locals := 87 }
def w_X12_numberIn (cI : ClassId) (aM aM_s aM_ke aM_te aM_re aM_bo aM_bn aM_sh aM_in aM_su aM_gr aM_tr aM_ou aM_ro : Nat) (M_km : Int32) (M_n : Int32) (M_be : Int32) (M_ma : Int32) (M_so : Int32) (M_bn : Nat → Int32) (M_om : Int32) (M_ro : Nat → Int32) : va_W := [(aM, .inr (12, [.ref aM_s, .ref aM_ke, .int M_km, .ref aM_te, .int M_n, .ref aM_re, .int M_be, .int M_ma, .int M_so, .ref aM_bo, .ref aM_bn, .ref aM_sh, .ref aM_in, .ref aM_su, .ref aM_gr, .ref aM_tr, .ref aM_ou, .int M_om, .ref aM_ro])), (aM_bn, .inl (cI, 8, .inl M_bn)), (aM_ro, .inl (cI, 5, .inl M_ro))]
theorem wa_X12_numberIn {cI : ClassId} {aM aM_s aM_ke aM_te aM_re aM_bo aM_bn aM_sh aM_in aM_su aM_gr aM_tr aM_ou aM_ro : Nat} {M_km M_km' : Int32} {M_n M_n' : Int32} {M_be M_be' : Int32} {M_ma M_ma' : Int32} {M_so M_so' : Int32} {M_bn M_bn' : Nat → Int32} {M_om M_om' : Int32} {M_ro M_ro' : Nat → Int32} : (w_X12_numberIn cI aM aM_s aM_ke aM_te aM_re aM_bo aM_bn aM_sh aM_in aM_su aM_gr aM_tr aM_ou aM_ro M_km' M_n' M_be' M_ma' M_so' M_bn' M_om' M_ro').map Prod.fst = (w_X12_numberIn cI aM aM_s aM_ke aM_te aM_re aM_bo aM_bn aM_sh aM_in aM_su aM_gr aM_tr aM_ou aM_ro M_km M_n M_be M_ma M_so M_bn M_om M_ro).map Prod.fst := rfl
abbrev rm_X12_numberIn : Room := { frames := 1, cells := 0, slots := 0, locals := 23 }
def w_X12_numberOf (cI : ClassId) (aM aM_s aM_ke aM_te aM_re aM_bo aM_bn aM_sh aM_in aM_su aM_gr aM_tr aM_ou aM_ro : Nat) (M_s : Nat → Int32) (M_km : Int32) (M_n : Int32) (M_be : Int32) (M_ma : Int32) (M_so : Int32) (M_bo : Nat → Int32) (M_bn : Nat → Int32) (M_om : Int32) : va_W := [(aM, .inr (12, [.ref aM_s, .ref aM_ke, .int M_km, .ref aM_te, .int M_n, .ref aM_re, .int M_be, .int M_ma, .int M_so, .ref aM_bo, .ref aM_bn, .ref aM_sh, .ref aM_in, .ref aM_su, .ref aM_gr, .ref aM_tr, .ref aM_ou, .int M_om, .ref aM_ro])), (aM_s, .inl (cI, 131, .inl M_s)), (aM_bo, .inl (cI, 8, .inl M_bo)), (aM_bn, .inl (cI, 8, .inl M_bn))]
theorem wa_X12_numberOf {cI : ClassId} {aM aM_s aM_ke aM_te aM_re aM_bo aM_bn aM_sh aM_in aM_su aM_gr aM_tr aM_ou aM_ro : Nat} {M_s M_s' : Nat → Int32} {M_km M_km' : Int32} {M_n M_n' : Int32} {M_be M_be' : Int32} {M_ma M_ma' : Int32} {M_so M_so' : Int32} {M_bo M_bo' : Nat → Int32} {M_bn M_bn' : Nat → Int32} {M_om M_om' : Int32} : (w_X12_numberOf cI aM aM_s aM_ke aM_te aM_re aM_bo aM_bn aM_sh aM_in aM_su aM_gr aM_tr aM_ou aM_ro M_s' M_km' M_n' M_be' M_ma' M_so' M_bo' M_bn' M_om').map Prod.fst = (w_X12_numberOf cI aM aM_s aM_ke aM_te aM_re aM_bo aM_bn aM_sh aM_in aM_su aM_gr aM_tr aM_ou aM_ro M_s M_km M_n M_be M_ma M_so M_bo M_bn M_om).map Prod.fst := rfl
abbrev rm_X12_numberOf : Room := { frames := 5, cells := 0, slots := 0, locals := 119 }
def w_X12_putNames (cI : ClassId) (cZ : ClassId) (aM aM_s aM_ke aM_te aM_re aM_bo aM_bn aM_sh aM_in aM_su aM_gr aM_tr aM_ou aM_ro : Nat) (M_s : Nat → Int32) (M_km : Int32) (M_n : Int32) (M_be : Int32) (M_ma : Int32) (M_so : Int32) (M_sh : Nat → Int32) (M_in : Nat → Int32) (M_ou : Nat → Int32) (M_om : Int32) : va_W := [(aM, .inr (12, [.ref aM_s, .ref aM_ke, .int M_km, .ref aM_te, .int M_n, .ref aM_re, .int M_be, .int M_ma, .int M_so, .ref aM_bo, .ref aM_bn, .ref aM_sh, .ref aM_in, .ref aM_su, .ref aM_gr, .ref aM_tr, .ref aM_ou, .int M_om, .ref aM_ro])), (aM_s, .inl (cI, 131, .inl M_s)), (aM_sh, .inl (cI, 8, .inl M_sh)), (aM_in, .inl (cZ, 8, .inl M_in)), (aM_ou, .inl (cI, 300, .inl M_ou))]
theorem wa_X12_putNames {cI : ClassId} {cZ : ClassId} {aM aM_s aM_ke aM_te aM_re aM_bo aM_bn aM_sh aM_in aM_su aM_gr aM_tr aM_ou aM_ro : Nat} {M_s M_s' : Nat → Int32} {M_km M_km' : Int32} {M_n M_n' : Int32} {M_be M_be' : Int32} {M_ma M_ma' : Int32} {M_so M_so' : Int32} {M_sh M_sh' : Nat → Int32} {M_in M_in' : Nat → Int32} {M_ou M_ou' : Nat → Int32} {M_om M_om' : Int32} : (w_X12_putNames cI cZ aM aM_s aM_ke aM_te aM_re aM_bo aM_bn aM_sh aM_in aM_su aM_gr aM_tr aM_ou aM_ro M_s' M_km' M_n' M_be' M_ma' M_so' M_sh' M_in' M_ou' M_om').map Prod.fst = (w_X12_putNames cI cZ aM aM_s aM_ke aM_te aM_re aM_bo aM_bn aM_sh aM_in aM_su aM_gr aM_tr aM_ou aM_ro M_s M_km M_n M_be M_ma M_so M_sh M_in M_ou M_om).map Prod.fst := rfl
abbrev rm_X12_putNames : Room := { frames := 2, cells := 0, slots := 0, locals := 46 }
def w_X12_putAuthorYear (cI : ClassId) (cZ : ClassId) (aM aM_s aM_ke aM_te aM_re aM_bo aM_bn aM_sh aM_in aM_su aM_gr aM_tr aM_ou aM_ro : Nat) (M_s : Nat → Int32) (M_km : Int32) (M_n : Int32) (M_be : Int32) (M_ma : Int32) (M_so : Int32) (M_sh : Nat → Int32) (M_in : Nat → Int32) (M_su : Nat → Int32) (M_ou : Nat → Int32) (M_om : Int32) (M_ro : Nat → Int32) : va_W := [(aM, .inr (12, [.ref aM_s, .ref aM_ke, .int M_km, .ref aM_te, .int M_n, .ref aM_re, .int M_be, .int M_ma, .int M_so, .ref aM_bo, .ref aM_bn, .ref aM_sh, .ref aM_in, .ref aM_su, .ref aM_gr, .ref aM_tr, .ref aM_ou, .int M_om, .ref aM_ro])), (aM_s, .inl (cI, 131, .inl M_s)), (aM_sh, .inl (cI, 8, .inl M_sh)), (aM_in, .inl (cZ, 8, .inl M_in)), (aM_su, .inl (cI, 8, .inl M_su)), (aM_ou, .inl (cI, 300, .inl M_ou)), (aM_ro, .inl (cI, 5, .inl M_ro))]
theorem wa_X12_putAuthorYear {cI : ClassId} {cZ : ClassId} {aM aM_s aM_ke aM_te aM_re aM_bo aM_bn aM_sh aM_in aM_su aM_gr aM_tr aM_ou aM_ro : Nat} {M_s M_s' : Nat → Int32} {M_km M_km' : Int32} {M_n M_n' : Int32} {M_be M_be' : Int32} {M_ma M_ma' : Int32} {M_so M_so' : Int32} {M_sh M_sh' : Nat → Int32} {M_in M_in' : Nat → Int32} {M_su M_su' : Nat → Int32} {M_ou M_ou' : Nat → Int32} {M_om M_om' : Int32} {M_ro M_ro' : Nat → Int32} : (w_X12_putAuthorYear cI cZ aM aM_s aM_ke aM_te aM_re aM_bo aM_bn aM_sh aM_in aM_su aM_gr aM_tr aM_ou aM_ro M_s' M_km' M_n' M_be' M_ma' M_so' M_sh' M_in' M_su' M_ou' M_om' M_ro').map Prod.fst = (w_X12_putAuthorYear cI cZ aM aM_s aM_ke aM_te aM_re aM_bo aM_bn aM_sh aM_in aM_su aM_gr aM_tr aM_ou aM_ro M_s M_km M_n M_be M_ma M_so M_sh M_in M_su M_ou M_om M_ro).map Prod.fst := rfl
abbrev rm_X12_putAuthorYear : Room := { frames := 3, cells := 0, slots := 0, locals := 67 }
def w_X12_putNote (cI : ClassId) (cZ : ClassId) (aM aM_s aM_ke aM_te aM_re aM_bo aM_bn aM_sh aM_in aM_su aM_gr aM_tr aM_ou aM_ro : Nat) (M_s : Nat → Int32) (M_km : Int32) (M_n : Int32) (M_be : Int32) (M_ma : Int32) (M_so : Int32) (M_sh : Nat → Int32) (M_in : Nat → Int32) (M_ou : Nat → Int32) (M_om : Int32) (M_ro : Nat → Int32) : va_W := [(aM, .inr (12, [.ref aM_s, .ref aM_ke, .int M_km, .ref aM_te, .int M_n, .ref aM_re, .int M_be, .int M_ma, .int M_so, .ref aM_bo, .ref aM_bn, .ref aM_sh, .ref aM_in, .ref aM_su, .ref aM_gr, .ref aM_tr, .ref aM_ou, .int M_om, .ref aM_ro])), (aM_s, .inl (cI, 131, .inl M_s)), (aM_sh, .inl (cI, 8, .inl M_sh)), (aM_in, .inl (cZ, 8, .inl M_in)), (aM_ou, .inl (cI, 300, .inl M_ou)), (aM_ro, .inl (cI, 5, .inl M_ro))]
theorem wa_X12_putNote {cI : ClassId} {cZ : ClassId} {aM aM_s aM_ke aM_te aM_re aM_bo aM_bn aM_sh aM_in aM_su aM_gr aM_tr aM_ou aM_ro : Nat} {M_s M_s' : Nat → Int32} {M_km M_km' : Int32} {M_n M_n' : Int32} {M_be M_be' : Int32} {M_ma M_ma' : Int32} {M_so M_so' : Int32} {M_sh M_sh' : Nat → Int32} {M_in M_in' : Nat → Int32} {M_ou M_ou' : Nat → Int32} {M_om M_om' : Int32} {M_ro M_ro' : Nat → Int32} : (w_X12_putNote cI cZ aM aM_s aM_ke aM_te aM_re aM_bo aM_bn aM_sh aM_in aM_su aM_gr aM_tr aM_ou aM_ro M_s' M_km' M_n' M_be' M_ma' M_so' M_sh' M_in' M_ou' M_om' M_ro').map Prod.fst = (w_X12_putNote cI cZ aM aM_s aM_ke aM_te aM_re aM_bo aM_bn aM_sh aM_in aM_su aM_gr aM_tr aM_ou aM_ro M_s M_km M_n M_be M_ma M_so M_sh M_in M_ou M_om M_ro).map Prod.fst := rfl
abbrev rm_X12_putNote : Room := { frames := 3, cells := 0, slots := 0, locals := 69 }
def w_X12_putNumeric (cI : ClassId) (aM aM_s aM_ke aM_te aM_re aM_bo aM_bn aM_sh aM_in aM_su aM_gr aM_tr aM_ou aM_ro : Nat) (M_s : Nat → Int32) (M_km : Int32) (M_n : Int32) (M_be : Int32) (M_ma : Int32) (M_so : Int32) (M_bn : Nat → Int32) (M_ou : Nat → Int32) (M_om : Int32) (M_ro : Nat → Int32) : va_W := [(aM, .inr (12, [.ref aM_s, .ref aM_ke, .int M_km, .ref aM_te, .int M_n, .ref aM_re, .int M_be, .int M_ma, .int M_so, .ref aM_bo, .ref aM_bn, .ref aM_sh, .ref aM_in, .ref aM_su, .ref aM_gr, .ref aM_tr, .ref aM_ou, .int M_om, .ref aM_ro])), (aM_s, .inl (cI, 131, .inl M_s)), (aM_bn, .inl (cI, 8, .inl M_bn)), (aM_ou, .inl (cI, 300, .inl M_ou)), (aM_ro, .inl (cI, 5, .inl M_ro))]
theorem wa_X12_putNumeric {cI : ClassId} {aM aM_s aM_ke aM_te aM_re aM_bo aM_bn aM_sh aM_in aM_su aM_gr aM_tr aM_ou aM_ro : Nat} {M_s M_s' : Nat → Int32} {M_km M_km' : Int32} {M_n M_n' : Int32} {M_be M_be' : Int32} {M_ma M_ma' : Int32} {M_so M_so' : Int32} {M_bn M_bn' : Nat → Int32} {M_ou M_ou' : Nat → Int32} {M_om M_om' : Int32} {M_ro M_ro' : Nat → Int32} : (w_X12_putNumeric cI aM aM_s aM_ke aM_te aM_re aM_bo aM_bn aM_sh aM_in aM_su aM_gr aM_tr aM_ou aM_ro M_s' M_km' M_n' M_be' M_ma' M_so' M_bn' M_ou' M_om' M_ro').map Prod.fst = (w_X12_putNumeric cI aM aM_s aM_ke aM_te aM_re aM_bo aM_bn aM_sh aM_in aM_su aM_gr aM_tr aM_ou aM_ro M_s M_km M_n M_be M_ma M_so M_bn M_ou M_om M_ro).map Prod.fst := rfl
abbrev rm_X12_putNumeric : Room := { frames := 2, cells := 0, slots := 0, locals := 44 }
def w_X12_removeCitation (cI : ClassId) (aM aM_s aM_ke aM_te aM_re aM_bo aM_bn aM_sh aM_in aM_su aM_gr aM_tr aM_ou aM_ro : Nat) (M_s : Nat → Int32) (M_ke : Nat → Int32) (M_km : Int32) (M_n : Int32) (M_be : Int32) (M_ma : Int32) (M_so : Int32) (M_om : Int32) : va_W := [(aM, .inr (12, [.ref aM_s, .ref aM_ke, .int M_km, .ref aM_te, .int M_n, .ref aM_re, .int M_be, .int M_ma, .int M_so, .ref aM_bo, .ref aM_bn, .ref aM_sh, .ref aM_in, .ref aM_su, .ref aM_gr, .ref aM_tr, .ref aM_ou, .int M_om, .ref aM_ro])), (aM_s, .inl (cI, 131, .inl M_s)), (aM_ke, .inl (cI, 1048, .inl M_ke))]
theorem wa_X12_removeCitation {cI : ClassId} {aM aM_s aM_ke aM_te aM_re aM_bo aM_bn aM_sh aM_in aM_su aM_gr aM_tr aM_ou aM_ro : Nat} {M_s M_s' : Nat → Int32} {M_ke M_ke' : Nat → Int32} {M_km M_km' : Int32} {M_n M_n' : Int32} {M_be M_be' : Int32} {M_ma M_ma' : Int32} {M_so M_so' : Int32} {M_om M_om' : Int32} : (w_X12_removeCitation cI aM aM_s aM_ke aM_te aM_re aM_bo aM_bn aM_sh aM_in aM_su aM_gr aM_tr aM_ou aM_ro M_s' M_ke' M_km' M_n' M_be' M_ma' M_so' M_om').map Prod.fst = (w_X12_removeCitation cI aM aM_s aM_ke aM_te aM_re aM_bo aM_bn aM_sh aM_in aM_su aM_gr aM_tr aM_ou aM_ro M_s M_ke M_km M_n M_be M_ma M_so M_om).map Prod.fst := rfl
abbrev rm_X12_removeCitation : Room := { frames := 2, cells := 0, slots := 0, locals := 46 }
def w_X12_removeWork (cI : ClassId) (aM aM_s aM_ke aM_te aM_re aM_bo aM_bn aM_sh aM_in aM_su aM_gr aM_tr aM_ou aM_ro : Nat) (M_s : Nat → Int32) (M_ke : Nat → Int32) (M_km : Int32) (M_n : Int32) (M_be : Int32) (M_ma : Int32) (M_so : Int32) (M_om : Int32) : va_W := [(aM, .inr (12, [.ref aM_s, .ref aM_ke, .int M_km, .ref aM_te, .int M_n, .ref aM_re, .int M_be, .int M_ma, .int M_so, .ref aM_bo, .ref aM_bn, .ref aM_sh, .ref aM_in, .ref aM_su, .ref aM_gr, .ref aM_tr, .ref aM_ou, .int M_om, .ref aM_ro])), (aM_s, .inl (cI, 131, .inl M_s)), (aM_ke, .inl (cI, 1048, .inl M_ke))]
theorem wa_X12_removeWork {cI : ClassId} {aM aM_s aM_ke aM_te aM_re aM_bo aM_bn aM_sh aM_in aM_su aM_gr aM_tr aM_ou aM_ro : Nat} {M_s M_s' : Nat → Int32} {M_ke M_ke' : Nat → Int32} {M_km M_km' : Int32} {M_n M_n' : Int32} {M_be M_be' : Int32} {M_ma M_ma' : Int32} {M_so M_so' : Int32} {M_om M_om' : Int32} : (w_X12_removeWork cI aM aM_s aM_ke aM_te aM_re aM_bo aM_bn aM_sh aM_in aM_su aM_gr aM_tr aM_ou aM_ro M_s' M_ke' M_km' M_n' M_be' M_ma' M_so' M_om').map Prod.fst = (w_X12_removeWork cI aM aM_s aM_ke aM_te aM_re aM_bo aM_bn aM_sh aM_in aM_su aM_gr aM_tr aM_ou aM_ro M_s M_ke M_km M_n M_be M_ma M_so M_om).map Prod.fst := rfl
abbrev rm_X12_removeWork : Room := { frames := 2, cells := 0, slots := 0, locals := 46 }
def w_X12_render (cI : ClassId) (cZ : ClassId) (aM aM_s aM_ke aM_te aM_re aM_bo aM_bn aM_sh aM_in aM_su aM_gr aM_tr aM_ou aM_ro : Nat) (M_s : Nat → Int32) (M_km : Int32) (M_n : Int32) (M_be : Int32) (M_ma : Int32) (M_so : Int32) (M_bo : Nat → Int32) (M_bn : Nat → Int32) (M_sh : Nat → Int32) (M_in : Nat → Int32) (M_su : Nat → Int32) (M_gr : Nat → Int32) (M_tr : Nat → Int32) (M_ou : Nat → Int32) (M_om : Int32) (M_ro : Nat → Int32) : va_W := [(aM, .inr (12, [.ref aM_s, .ref aM_ke, .int M_km, .ref aM_te, .int M_n, .ref aM_re, .int M_be, .int M_ma, .int M_so, .ref aM_bo, .ref aM_bn, .ref aM_sh, .ref aM_in, .ref aM_su, .ref aM_gr, .ref aM_tr, .ref aM_ou, .int M_om, .ref aM_ro])), (aM_s, .inl (cI, 131, .inl M_s)), (aM_bo, .inl (cI, 8, .inl M_bo)), (aM_bn, .inl (cI, 8, .inl M_bn)), (aM_sh, .inl (cI, 8, .inl M_sh)), (aM_in, .inl (cZ, 8, .inl M_in)), (aM_su, .inl (cI, 8, .inl M_su)), (aM_gr, .inl (cI, 8, .inl M_gr)), (aM_tr, .inl (cI, 8, .inl M_tr)), (aM_ou, .inl (cI, 300, .inl M_ou)), (aM_ro, .inl (cI, 5, .inl M_ro))]
theorem wa_X12_render {cI : ClassId} {cZ : ClassId} {aM aM_s aM_ke aM_te aM_re aM_bo aM_bn aM_sh aM_in aM_su aM_gr aM_tr aM_ou aM_ro : Nat} {M_s M_s' : Nat → Int32} {M_km M_km' : Int32} {M_n M_n' : Int32} {M_be M_be' : Int32} {M_ma M_ma' : Int32} {M_so M_so' : Int32} {M_bo M_bo' : Nat → Int32} {M_bn M_bn' : Nat → Int32} {M_sh M_sh' : Nat → Int32} {M_in M_in' : Nat → Int32} {M_su M_su' : Nat → Int32} {M_gr M_gr' : Nat → Int32} {M_tr M_tr' : Nat → Int32} {M_ou M_ou' : Nat → Int32} {M_om M_om' : Int32} {M_ro M_ro' : Nat → Int32} : (w_X12_render cI cZ aM aM_s aM_ke aM_te aM_re aM_bo aM_bn aM_sh aM_in aM_su aM_gr aM_tr aM_ou aM_ro M_s' M_km' M_n' M_be' M_ma' M_so' M_bo' M_bn' M_sh' M_in' M_su' M_gr' M_tr' M_ou' M_om' M_ro').map Prod.fst = (w_X12_render cI cZ aM aM_s aM_ke aM_te aM_re aM_bo aM_bn aM_sh aM_in aM_su aM_gr aM_tr aM_ou aM_ro M_s M_km M_n M_be M_ma M_so M_bo M_bn M_sh M_in M_su M_gr M_tr M_ou M_om M_ro).map Prod.fst := rfl
abbrev rm_X12_render : Room := { frames := 6, cells := 0, slots := 0, locals := 141 }
def w_X12_renderedCharacter (cI : ClassId) (cZ : ClassId) (aM aM_s aM_ke aM_te aM_re aM_bo aM_bn aM_sh aM_in aM_su aM_gr aM_tr aM_ou aM_ro : Nat) (M_s : Nat → Int32) (M_km : Int32) (M_n : Int32) (M_be : Int32) (M_ma : Int32) (M_so : Int32) (M_bo : Nat → Int32) (M_bn : Nat → Int32) (M_sh : Nat → Int32) (M_in : Nat → Int32) (M_su : Nat → Int32) (M_gr : Nat → Int32) (M_tr : Nat → Int32) (M_ou : Nat → Int32) (M_om : Int32) (M_ro : Nat → Int32) : va_W := [(aM, .inr (12, [.ref aM_s, .ref aM_ke, .int M_km, .ref aM_te, .int M_n, .ref aM_re, .int M_be, .int M_ma, .int M_so, .ref aM_bo, .ref aM_bn, .ref aM_sh, .ref aM_in, .ref aM_su, .ref aM_gr, .ref aM_tr, .ref aM_ou, .int M_om, .ref aM_ro])), (aM_s, .inl (cI, 131, .inl M_s)), (aM_bo, .inl (cI, 8, .inl M_bo)), (aM_bn, .inl (cI, 8, .inl M_bn)), (aM_sh, .inl (cI, 8, .inl M_sh)), (aM_in, .inl (cZ, 8, .inl M_in)), (aM_su, .inl (cI, 8, .inl M_su)), (aM_gr, .inl (cI, 8, .inl M_gr)), (aM_tr, .inl (cI, 8, .inl M_tr)), (aM_ou, .inl (cI, 300, .inl M_ou)), (aM_ro, .inl (cI, 5, .inl M_ro))]
theorem wa_X12_renderedCharacter {cI : ClassId} {cZ : ClassId} {aM aM_s aM_ke aM_te aM_re aM_bo aM_bn aM_sh aM_in aM_su aM_gr aM_tr aM_ou aM_ro : Nat} {M_s M_s' : Nat → Int32} {M_km M_km' : Int32} {M_n M_n' : Int32} {M_be M_be' : Int32} {M_ma M_ma' : Int32} {M_so M_so' : Int32} {M_bo M_bo' : Nat → Int32} {M_bn M_bn' : Nat → Int32} {M_sh M_sh' : Nat → Int32} {M_in M_in' : Nat → Int32} {M_su M_su' : Nat → Int32} {M_gr M_gr' : Nat → Int32} {M_tr M_tr' : Nat → Int32} {M_ou M_ou' : Nat → Int32} {M_om M_om' : Int32} {M_ro M_ro' : Nat → Int32} : (w_X12_renderedCharacter cI cZ aM aM_s aM_ke aM_te aM_re aM_bo aM_bn aM_sh aM_in aM_su aM_gr aM_tr aM_ou aM_ro M_s' M_km' M_n' M_be' M_ma' M_so' M_bo' M_bn' M_sh' M_in' M_su' M_gr' M_tr' M_ou' M_om' M_ro').map Prod.fst = (w_X12_renderedCharacter cI cZ aM aM_s aM_ke aM_te aM_re aM_bo aM_bn aM_sh aM_in aM_su aM_gr aM_tr aM_ou aM_ro M_s M_km M_n M_be M_ma M_so M_bo M_bn M_sh M_in M_su M_gr M_tr M_ou M_om M_ro).map Prod.fst := rfl
abbrev rm_X12_renderedCharacter : Room := { frames := 7, cells := 0, slots := 0, locals := 162 }
def w_X12_renderedLength (cI : ClassId) (cZ : ClassId) (aM aM_s aM_ke aM_te aM_re aM_bo aM_bn aM_sh aM_in aM_su aM_gr aM_tr aM_ou aM_ro : Nat) (M_s : Nat → Int32) (M_km : Int32) (M_n : Int32) (M_be : Int32) (M_ma : Int32) (M_so : Int32) (M_bo : Nat → Int32) (M_bn : Nat → Int32) (M_sh : Nat → Int32) (M_in : Nat → Int32) (M_su : Nat → Int32) (M_gr : Nat → Int32) (M_tr : Nat → Int32) (M_ou : Nat → Int32) (M_om : Int32) (M_ro : Nat → Int32) : va_W := [(aM, .inr (12, [.ref aM_s, .ref aM_ke, .int M_km, .ref aM_te, .int M_n, .ref aM_re, .int M_be, .int M_ma, .int M_so, .ref aM_bo, .ref aM_bn, .ref aM_sh, .ref aM_in, .ref aM_su, .ref aM_gr, .ref aM_tr, .ref aM_ou, .int M_om, .ref aM_ro])), (aM_s, .inl (cI, 131, .inl M_s)), (aM_bo, .inl (cI, 8, .inl M_bo)), (aM_bn, .inl (cI, 8, .inl M_bn)), (aM_sh, .inl (cI, 8, .inl M_sh)), (aM_in, .inl (cZ, 8, .inl M_in)), (aM_su, .inl (cI, 8, .inl M_su)), (aM_gr, .inl (cI, 8, .inl M_gr)), (aM_tr, .inl (cI, 8, .inl M_tr)), (aM_ou, .inl (cI, 300, .inl M_ou)), (aM_ro, .inl (cI, 5, .inl M_ro))]
theorem wa_X12_renderedLength {cI : ClassId} {cZ : ClassId} {aM aM_s aM_ke aM_te aM_re aM_bo aM_bn aM_sh aM_in aM_su aM_gr aM_tr aM_ou aM_ro : Nat} {M_s M_s' : Nat → Int32} {M_km M_km' : Int32} {M_n M_n' : Int32} {M_be M_be' : Int32} {M_ma M_ma' : Int32} {M_so M_so' : Int32} {M_bo M_bo' : Nat → Int32} {M_bn M_bn' : Nat → Int32} {M_sh M_sh' : Nat → Int32} {M_in M_in' : Nat → Int32} {M_su M_su' : Nat → Int32} {M_gr M_gr' : Nat → Int32} {M_tr M_tr' : Nat → Int32} {M_ou M_ou' : Nat → Int32} {M_om M_om' : Int32} {M_ro M_ro' : Nat → Int32} : (w_X12_renderedLength cI cZ aM aM_s aM_ke aM_te aM_re aM_bo aM_bn aM_sh aM_in aM_su aM_gr aM_tr aM_ou aM_ro M_s' M_km' M_n' M_be' M_ma' M_so' M_bo' M_bn' M_sh' M_in' M_su' M_gr' M_tr' M_ou' M_om' M_ro').map Prod.fst = (w_X12_renderedLength cI cZ aM aM_s aM_ke aM_te aM_re aM_bo aM_bn aM_sh aM_in aM_su aM_gr aM_tr aM_ou aM_ro M_s M_km M_n M_be M_ma M_so M_bo M_bn M_sh M_in M_su M_gr M_tr M_ou M_om M_ro).map Prod.fst := rfl
abbrev rm_X12_renderedLength : Room := { frames := 7, cells := 0, slots := 0, locals := 162 }
def w_X12_sets (cI : ClassId) (aM aM_s aM_ke aM_te aM_re aM_bo aM_bn aM_sh aM_in aM_su aM_gr aM_tr aM_ou aM_ro : Nat) (M_s : Nat → Int32) (M_ke : Nat → Int32) (M_km : Int32) (M_n : Int32) (M_be : Int32) (M_ma : Int32) (M_so : Int32) (M_om : Int32) : va_W := [(aM, .inr (12, [.ref aM_s, .ref aM_ke, .int M_km, .ref aM_te, .int M_n, .ref aM_re, .int M_be, .int M_ma, .int M_so, .ref aM_bo, .ref aM_bn, .ref aM_sh, .ref aM_in, .ref aM_su, .ref aM_gr, .ref aM_tr, .ref aM_ou, .int M_om, .ref aM_ro])), (aM_s, .inl (cI, 131, .inl M_s)), (aM_ke, .inl (cI, 1048, .inl M_ke))]
theorem wa_X12_sets {cI : ClassId} {aM aM_s aM_ke aM_te aM_re aM_bo aM_bn aM_sh aM_in aM_su aM_gr aM_tr aM_ou aM_ro : Nat} {M_s M_s' : Nat → Int32} {M_ke M_ke' : Nat → Int32} {M_km M_km' : Int32} {M_n M_n' : Int32} {M_be M_be' : Int32} {M_ma M_ma' : Int32} {M_so M_so' : Int32} {M_om M_om' : Int32} : (w_X12_sets cI aM aM_s aM_ke aM_te aM_re aM_bo aM_bn aM_sh aM_in aM_su aM_gr aM_tr aM_ou aM_ro M_s' M_ke' M_km' M_n' M_be' M_ma' M_so' M_om').map Prod.fst = (w_X12_sets cI aM aM_s aM_ke aM_te aM_re aM_bo aM_bn aM_sh aM_in aM_su aM_gr aM_tr aM_ou aM_ro M_s M_ke M_km M_n M_be M_ma M_so M_om).map Prod.fst := rfl
abbrev rm_X12_sets : Room := { frames := 1, cells := 0, slots := 0, locals := 21 }
def w_X12_setCiteOrder (cI : ClassId) (aM aM_s aM_ke aM_te aM_re aM_bo aM_bn aM_sh aM_in aM_su aM_gr aM_tr aM_ou aM_ro : Nat) (M_s : Nat → Int32) (M_ke : Nat → Int32) (M_km : Int32) (M_n : Int32) (M_be : Int32) (M_ma : Int32) (M_so : Int32) (M_om : Int32) : va_W := [(aM, .inr (12, [.ref aM_s, .ref aM_ke, .int M_km, .ref aM_te, .int M_n, .ref aM_re, .int M_be, .int M_ma, .int M_so, .ref aM_bo, .ref aM_bn, .ref aM_sh, .ref aM_in, .ref aM_su, .ref aM_gr, .ref aM_tr, .ref aM_ou, .int M_om, .ref aM_ro])), (aM_s, .inl (cI, 131, .inl M_s)), (aM_ke, .inl (cI, 1048, .inl M_ke))]
theorem wa_X12_setCiteOrder {cI : ClassId} {aM aM_s aM_ke aM_te aM_re aM_bo aM_bn aM_sh aM_in aM_su aM_gr aM_tr aM_ou aM_ro : Nat} {M_s M_s' : Nat → Int32} {M_ke M_ke' : Nat → Int32} {M_km M_km' : Int32} {M_n M_n' : Int32} {M_be M_be' : Int32} {M_ma M_ma' : Int32} {M_so M_so' : Int32} {M_om M_om' : Int32} : (w_X12_setCiteOrder cI aM aM_s aM_ke aM_te aM_re aM_bo aM_bn aM_sh aM_in aM_su aM_gr aM_tr aM_ou aM_ro M_s' M_ke' M_km' M_n' M_be' M_ma' M_so' M_om').map Prod.fst = (w_X12_setCiteOrder cI aM aM_s aM_ke aM_te aM_re aM_bo aM_bn aM_sh aM_in aM_su aM_gr aM_tr aM_ou aM_ro M_s M_ke M_km M_n M_be M_ma M_so M_om).map Prod.fst := rfl
abbrev rm_X12_setCiteOrder : Room := { frames := 2, cells := 0, slots := 0, locals := 44 }
def w_X12_setCollapseLevel (cI : ClassId) (aM aM_s aM_ke aM_te aM_re aM_bo aM_bn aM_sh aM_in aM_su aM_gr aM_tr aM_ou aM_ro : Nat) (M_s : Nat → Int32) (M_ke : Nat → Int32) (M_km : Int32) (M_n : Int32) (M_be : Int32) (M_ma : Int32) (M_so : Int32) (M_om : Int32) : va_W := [(aM, .inr (12, [.ref aM_s, .ref aM_ke, .int M_km, .ref aM_te, .int M_n, .ref aM_re, .int M_be, .int M_ma, .int M_so, .ref aM_bo, .ref aM_bn, .ref aM_sh, .ref aM_in, .ref aM_su, .ref aM_gr, .ref aM_tr, .ref aM_ou, .int M_om, .ref aM_ro])), (aM_s, .inl (cI, 131, .inl M_s)), (aM_ke, .inl (cI, 1048, .inl M_ke))]
theorem wa_X12_setCollapseLevel {cI : ClassId} {aM aM_s aM_ke aM_te aM_re aM_bo aM_bn aM_sh aM_in aM_su aM_gr aM_tr aM_ou aM_ro : Nat} {M_s M_s' : Nat → Int32} {M_ke M_ke' : Nat → Int32} {M_km M_km' : Int32} {M_n M_n' : Int32} {M_be M_be' : Int32} {M_ma M_ma' : Int32} {M_so M_so' : Int32} {M_om M_om' : Int32} : (w_X12_setCollapseLevel cI aM aM_s aM_ke aM_te aM_re aM_bo aM_bn aM_sh aM_in aM_su aM_gr aM_tr aM_ou aM_ro M_s' M_ke' M_km' M_n' M_be' M_ma' M_so' M_om').map Prod.fst = (w_X12_setCollapseLevel cI aM aM_s aM_ke aM_te aM_re aM_bo aM_bn aM_sh aM_in aM_su aM_gr aM_tr aM_ou aM_ro M_s M_ke M_km M_n M_be M_ma M_so M_om).map Prod.fst := rfl
abbrev rm_X12_setCollapseLevel : Room := { frames := 2, cells := 0, slots := 0, locals := 44 }
def w_X12_setDisambiguation (cI : ClassId) (aM aM_s aM_ke aM_te aM_re aM_bo aM_bn aM_sh aM_in aM_su aM_gr aM_tr aM_ou aM_ro : Nat) (M_s : Nat → Int32) (M_ke : Nat → Int32) (M_km : Int32) (M_n : Int32) (M_be : Int32) (M_ma : Int32) (M_so : Int32) (M_om : Int32) : va_W := [(aM, .inr (12, [.ref aM_s, .ref aM_ke, .int M_km, .ref aM_te, .int M_n, .ref aM_re, .int M_be, .int M_ma, .int M_so, .ref aM_bo, .ref aM_bn, .ref aM_sh, .ref aM_in, .ref aM_su, .ref aM_gr, .ref aM_tr, .ref aM_ou, .int M_om, .ref aM_ro])), (aM_s, .inl (cI, 131, .inl M_s)), (aM_ke, .inl (cI, 1048, .inl M_ke))]
theorem wa_X12_setDisambiguation {cI : ClassId} {aM aM_s aM_ke aM_te aM_re aM_bo aM_bn aM_sh aM_in aM_su aM_gr aM_tr aM_ou aM_ro : Nat} {M_s M_s' : Nat → Int32} {M_ke M_ke' : Nat → Int32} {M_km M_km' : Int32} {M_n M_n' : Int32} {M_be M_be' : Int32} {M_ma M_ma' : Int32} {M_so M_so' : Int32} {M_om M_om' : Int32} : (w_X12_setDisambiguation cI aM aM_s aM_ke aM_te aM_re aM_bo aM_bn aM_sh aM_in aM_su aM_gr aM_tr aM_ou aM_ro M_s' M_ke' M_km' M_n' M_be' M_ma' M_so' M_om').map Prod.fst = (w_X12_setDisambiguation cI aM aM_s aM_ke aM_te aM_re aM_bo aM_bn aM_sh aM_in aM_su aM_gr aM_tr aM_ou aM_ro M_s M_ke M_km M_n M_be M_ma M_so M_om).map Prod.fst := rfl
abbrev rm_X12_setDisambiguation : Room := { frames := 2, cells := 0, slots := 0, locals := 44 }
def w_X12_setEtAl (cI : ClassId) (aM aM_s aM_ke aM_te aM_re aM_bo aM_bn aM_sh aM_in aM_su aM_gr aM_tr aM_ou aM_ro : Nat) (M_s : Nat → Int32) (M_ke : Nat → Int32) (M_km : Int32) (M_n : Int32) (M_be : Int32) (M_ma : Int32) (M_so : Int32) (M_om : Int32) : va_W := [(aM, .inr (12, [.ref aM_s, .ref aM_ke, .int M_km, .ref aM_te, .int M_n, .ref aM_re, .int M_be, .int M_ma, .int M_so, .ref aM_bo, .ref aM_bn, .ref aM_sh, .ref aM_in, .ref aM_su, .ref aM_gr, .ref aM_tr, .ref aM_ou, .int M_om, .ref aM_ro])), (aM_s, .inl (cI, 131, .inl M_s)), (aM_ke, .inl (cI, 1048, .inl M_ke))]
theorem wa_X12_setEtAl {cI : ClassId} {aM aM_s aM_ke aM_te aM_re aM_bo aM_bn aM_sh aM_in aM_su aM_gr aM_tr aM_ou aM_ro : Nat} {M_s M_s' : Nat → Int32} {M_ke M_ke' : Nat → Int32} {M_km M_km' : Int32} {M_n M_n' : Int32} {M_be M_be' : Int32} {M_ma M_ma' : Int32} {M_so M_so' : Int32} {M_om M_om' : Int32} : (w_X12_setEtAl cI aM aM_s aM_ke aM_te aM_re aM_bo aM_bn aM_sh aM_in aM_su aM_gr aM_tr aM_ou aM_ro M_s' M_ke' M_km' M_n' M_be' M_ma' M_so' M_om').map Prod.fst = (w_X12_setEtAl cI aM aM_s aM_ke aM_te aM_re aM_bo aM_bn aM_sh aM_in aM_su aM_gr aM_tr aM_ou aM_ro M_s M_ke M_km M_n M_be M_ma M_so M_om).map Prod.fst := rfl
abbrev rm_X12_setEtAl : Room := { frames := 2, cells := 0, slots := 0, locals := 44 }
def w_X12_setNumbering (cI : ClassId) (aM aM_s aM_ke aM_te aM_re aM_bo aM_bn aM_sh aM_in aM_su aM_gr aM_tr aM_ou aM_ro : Nat) (M_s : Nat → Int32) (M_ke : Nat → Int32) (M_km : Int32) (M_n : Int32) (M_be : Int32) (M_ma : Int32) (M_so : Int32) (M_om : Int32) : va_W := [(aM, .inr (12, [.ref aM_s, .ref aM_ke, .int M_km, .ref aM_te, .int M_n, .ref aM_re, .int M_be, .int M_ma, .int M_so, .ref aM_bo, .ref aM_bn, .ref aM_sh, .ref aM_in, .ref aM_su, .ref aM_gr, .ref aM_tr, .ref aM_ou, .int M_om, .ref aM_ro])), (aM_s, .inl (cI, 131, .inl M_s)), (aM_ke, .inl (cI, 1048, .inl M_ke))]
theorem wa_X12_setNumbering {cI : ClassId} {aM aM_s aM_ke aM_te aM_re aM_bo aM_bn aM_sh aM_in aM_su aM_gr aM_tr aM_ou aM_ro : Nat} {M_s M_s' : Nat → Int32} {M_ke M_ke' : Nat → Int32} {M_km M_km' : Int32} {M_n M_n' : Int32} {M_be M_be' : Int32} {M_ma M_ma' : Int32} {M_so M_so' : Int32} {M_om M_om' : Int32} : (w_X12_setNumbering cI aM aM_s aM_ke aM_te aM_re aM_bo aM_bn aM_sh aM_in aM_su aM_gr aM_tr aM_ou aM_ro M_s' M_ke' M_km' M_n' M_be' M_ma' M_so' M_om').map Prod.fst = (w_X12_setNumbering cI aM aM_s aM_ke aM_te aM_re aM_bo aM_bn aM_sh aM_in aM_su aM_gr aM_tr aM_ou aM_ro M_s M_ke M_km M_n M_be M_ma M_so M_om).map Prod.fst := rfl
abbrev rm_X12_setNumbering : Room := { frames := 2, cells := 0, slots := 0, locals := 44 }
def w_X12_setSortSlot (cI : ClassId) (aM aM_s aM_ke aM_te aM_re aM_bo aM_bn aM_sh aM_in aM_su aM_gr aM_tr aM_ou aM_ro : Nat) (M_s : Nat → Int32) (M_ke : Nat → Int32) (M_km : Int32) (M_n : Int32) (M_be : Int32) (M_ma : Int32) (M_so : Int32) (M_om : Int32) : va_W := [(aM, .inr (12, [.ref aM_s, .ref aM_ke, .int M_km, .ref aM_te, .int M_n, .ref aM_re, .int M_be, .int M_ma, .int M_so, .ref aM_bo, .ref aM_bn, .ref aM_sh, .ref aM_in, .ref aM_su, .ref aM_gr, .ref aM_tr, .ref aM_ou, .int M_om, .ref aM_ro])), (aM_s, .inl (cI, 131, .inl M_s)), (aM_ke, .inl (cI, 1048, .inl M_ke))]
theorem wa_X12_setSortSlot {cI : ClassId} {aM aM_s aM_ke aM_te aM_re aM_bo aM_bn aM_sh aM_in aM_su aM_gr aM_tr aM_ou aM_ro : Nat} {M_s M_s' : Nat → Int32} {M_ke M_ke' : Nat → Int32} {M_km M_km' : Int32} {M_n M_n' : Int32} {M_be M_be' : Int32} {M_ma M_ma' : Int32} {M_so M_so' : Int32} {M_om M_om' : Int32} : (w_X12_setSortSlot cI aM aM_s aM_ke aM_te aM_re aM_bo aM_bn aM_sh aM_in aM_su aM_gr aM_tr aM_ou aM_ro M_s' M_ke' M_km' M_n' M_be' M_ma' M_so' M_om').map Prod.fst = (w_X12_setSortSlot cI aM aM_s aM_ke aM_te aM_re aM_bo aM_bn aM_sh aM_in aM_su aM_gr aM_tr aM_ou aM_ro M_s M_ke M_km M_n M_be M_ma M_so M_om).map Prod.fst := rfl
abbrev rm_X12_setSortSlot : Room := { frames := 2, cells := 0, slots := 0, locals := 44 }
def w_X12_setStyle (cI : ClassId) (aM aM_s aM_ke aM_te aM_re aM_bo aM_bn aM_sh aM_in aM_su aM_gr aM_tr aM_ou aM_ro : Nat) (M_s : Nat → Int32) (M_ke : Nat → Int32) (M_km : Int32) (M_n : Int32) (M_be : Int32) (M_ma : Int32) (M_so : Int32) (M_om : Int32) : va_W := [(aM, .inr (12, [.ref aM_s, .ref aM_ke, .int M_km, .ref aM_te, .int M_n, .ref aM_re, .int M_be, .int M_ma, .int M_so, .ref aM_bo, .ref aM_bn, .ref aM_sh, .ref aM_in, .ref aM_su, .ref aM_gr, .ref aM_tr, .ref aM_ou, .int M_om, .ref aM_ro])), (aM_s, .inl (cI, 131, .inl M_s)), (aM_ke, .inl (cI, 1048, .inl M_ke))]
theorem wa_X12_setStyle {cI : ClassId} {aM aM_s aM_ke aM_te aM_re aM_bo aM_bn aM_sh aM_in aM_su aM_gr aM_tr aM_ou aM_ro : Nat} {M_s M_s' : Nat → Int32} {M_ke M_ke' : Nat → Int32} {M_km M_km' : Int32} {M_n M_n' : Int32} {M_be M_be' : Int32} {M_ma M_ma' : Int32} {M_so M_so' : Int32} {M_om M_om' : Int32} : (w_X12_setStyle cI aM aM_s aM_ke aM_te aM_re aM_bo aM_bn aM_sh aM_in aM_su aM_gr aM_tr aM_ou aM_ro M_s' M_ke' M_km' M_n' M_be' M_ma' M_so' M_om').map Prod.fst = (w_X12_setStyle cI aM aM_s aM_ke aM_te aM_re aM_bo aM_bn aM_sh aM_in aM_su aM_gr aM_tr aM_ou aM_ro M_s M_ke M_km M_n M_be M_ma M_so M_om).map Prod.fst := rfl
abbrev rm_X12_setStyle : Room := { frames := 2, cells := 0, slots := 0, locals := 44 }
def w_X12_setYear (cI : ClassId) (aM aM_s aM_ke aM_te aM_re aM_bo aM_bn aM_sh aM_in aM_su aM_gr aM_tr aM_ou aM_ro : Nat) (M_s : Nat → Int32) (M_ke : Nat → Int32) (M_km : Int32) (M_n : Int32) (M_be : Int32) (M_ma : Int32) (M_so : Int32) (M_om : Int32) : va_W := [(aM, .inr (12, [.ref aM_s, .ref aM_ke, .int M_km, .ref aM_te, .int M_n, .ref aM_re, .int M_be, .int M_ma, .int M_so, .ref aM_bo, .ref aM_bn, .ref aM_sh, .ref aM_in, .ref aM_su, .ref aM_gr, .ref aM_tr, .ref aM_ou, .int M_om, .ref aM_ro])), (aM_s, .inl (cI, 131, .inl M_s)), (aM_ke, .inl (cI, 1048, .inl M_ke))]
theorem wa_X12_setYear {cI : ClassId} {aM aM_s aM_ke aM_te aM_re aM_bo aM_bn aM_sh aM_in aM_su aM_gr aM_tr aM_ou aM_ro : Nat} {M_s M_s' : Nat → Int32} {M_ke M_ke' : Nat → Int32} {M_km M_km' : Int32} {M_n M_n' : Int32} {M_be M_be' : Int32} {M_ma M_ma' : Int32} {M_so M_so' : Int32} {M_om M_om' : Int32} : (w_X12_setYear cI aM aM_s aM_ke aM_te aM_re aM_bo aM_bn aM_sh aM_in aM_su aM_gr aM_tr aM_ou aM_ro M_s' M_ke' M_km' M_n' M_be' M_ma' M_so' M_om').map Prod.fst = (w_X12_setYear cI aM aM_s aM_ke aM_te aM_re aM_bo aM_bn aM_sh aM_in aM_su aM_gr aM_tr aM_ou aM_ro M_s M_ke M_km M_n M_be M_ma M_so M_om).map Prod.fst := rfl
abbrev rm_X12_setYear : Room := { frames := 2, cells := 0, slots := 0, locals := 46 }
def w_X12_shownAuthors (cI : ClassId) (cZ : ClassId) (aM aM_s aM_ke aM_te aM_re aM_bo aM_bn aM_sh aM_in aM_su aM_gr aM_tr aM_ou aM_ro : Nat) (M_s : Nat → Int32) (M_km : Int32) (M_n : Int32) (M_be : Int32) (M_ma : Int32) (M_so : Int32) (M_bo : Nat → Int32) (M_bn : Nat → Int32) (M_sh : Nat → Int32) (M_in : Nat → Int32) (M_su : Nat → Int32) (M_gr : Nat → Int32) (M_tr : Nat → Int32) (M_om : Int32) : va_W := [(aM, .inr (12, [.ref aM_s, .ref aM_ke, .int M_km, .ref aM_te, .int M_n, .ref aM_re, .int M_be, .int M_ma, .int M_so, .ref aM_bo, .ref aM_bn, .ref aM_sh, .ref aM_in, .ref aM_su, .ref aM_gr, .ref aM_tr, .ref aM_ou, .int M_om, .ref aM_ro])), (aM_s, .inl (cI, 131, .inl M_s)), (aM_bo, .inl (cI, 8, .inl M_bo)), (aM_bn, .inl (cI, 8, .inl M_bn)), (aM_sh, .inl (cI, 8, .inl M_sh)), (aM_in, .inl (cZ, 8, .inl M_in)), (aM_su, .inl (cI, 8, .inl M_su)), (aM_gr, .inl (cI, 8, .inl M_gr)), (aM_tr, .inl (cI, 8, .inl M_tr))]
theorem wa_X12_shownAuthors {cI : ClassId} {cZ : ClassId} {aM aM_s aM_ke aM_te aM_re aM_bo aM_bn aM_sh aM_in aM_su aM_gr aM_tr aM_ou aM_ro : Nat} {M_s M_s' : Nat → Int32} {M_km M_km' : Int32} {M_n M_n' : Int32} {M_be M_be' : Int32} {M_ma M_ma' : Int32} {M_so M_so' : Int32} {M_bo M_bo' : Nat → Int32} {M_bn M_bn' : Nat → Int32} {M_sh M_sh' : Nat → Int32} {M_in M_in' : Nat → Int32} {M_su M_su' : Nat → Int32} {M_gr M_gr' : Nat → Int32} {M_tr M_tr' : Nat → Int32} {M_om M_om' : Int32} : (w_X12_shownAuthors cI cZ aM aM_s aM_ke aM_te aM_re aM_bo aM_bn aM_sh aM_in aM_su aM_gr aM_tr aM_ou aM_ro M_s' M_km' M_n' M_be' M_ma' M_so' M_bo' M_bn' M_sh' M_in' M_su' M_gr' M_tr' M_om').map Prod.fst = (w_X12_shownAuthors cI cZ aM aM_s aM_ke aM_te aM_re aM_bo aM_bn aM_sh aM_in aM_su aM_gr aM_tr aM_ou aM_ro M_s M_km M_n M_be M_ma M_so M_bo M_bn M_sh M_in M_su M_gr M_tr M_om).map Prod.fst := rfl
abbrev rm_X12_shownAuthors : Room := { frames := 6, cells := 0, slots := 0, locals := 141 }
def w_X12_showsInitials (cI : ClassId) (cZ : ClassId) (aM aM_s aM_ke aM_te aM_re aM_bo aM_bn aM_sh aM_in aM_su aM_gr aM_tr aM_ou aM_ro : Nat) (M_s : Nat → Int32) (M_km : Int32) (M_n : Int32) (M_be : Int32) (M_ma : Int32) (M_so : Int32) (M_bo : Nat → Int32) (M_bn : Nat → Int32) (M_sh : Nat → Int32) (M_in : Nat → Int32) (M_su : Nat → Int32) (M_gr : Nat → Int32) (M_tr : Nat → Int32) (M_om : Int32) : va_W := [(aM, .inr (12, [.ref aM_s, .ref aM_ke, .int M_km, .ref aM_te, .int M_n, .ref aM_re, .int M_be, .int M_ma, .int M_so, .ref aM_bo, .ref aM_bn, .ref aM_sh, .ref aM_in, .ref aM_su, .ref aM_gr, .ref aM_tr, .ref aM_ou, .int M_om, .ref aM_ro])), (aM_s, .inl (cI, 131, .inl M_s)), (aM_bo, .inl (cI, 8, .inl M_bo)), (aM_bn, .inl (cI, 8, .inl M_bn)), (aM_sh, .inl (cI, 8, .inl M_sh)), (aM_in, .inl (cZ, 8, .inl M_in)), (aM_su, .inl (cI, 8, .inl M_su)), (aM_gr, .inl (cI, 8, .inl M_gr)), (aM_tr, .inl (cI, 8, .inl M_tr))]
theorem wa_X12_showsInitials {cI : ClassId} {cZ : ClassId} {aM aM_s aM_ke aM_te aM_re aM_bo aM_bn aM_sh aM_in aM_su aM_gr aM_tr aM_ou aM_ro : Nat} {M_s M_s' : Nat → Int32} {M_km M_km' : Int32} {M_n M_n' : Int32} {M_be M_be' : Int32} {M_ma M_ma' : Int32} {M_so M_so' : Int32} {M_bo M_bo' : Nat → Int32} {M_bn M_bn' : Nat → Int32} {M_sh M_sh' : Nat → Int32} {M_in M_in' : Nat → Int32} {M_su M_su' : Nat → Int32} {M_gr M_gr' : Nat → Int32} {M_tr M_tr' : Nat → Int32} {M_om M_om' : Int32} : (w_X12_showsInitials cI cZ aM aM_s aM_ke aM_te aM_re aM_bo aM_bn aM_sh aM_in aM_su aM_gr aM_tr aM_ou aM_ro M_s' M_km' M_n' M_be' M_ma' M_so' M_bo' M_bn' M_sh' M_in' M_su' M_gr' M_tr' M_om').map Prod.fst = (w_X12_showsInitials cI cZ aM aM_s aM_ke aM_te aM_re aM_bo aM_bn aM_sh aM_in aM_su aM_gr aM_tr aM_ou aM_ro M_s M_km M_n M_be M_ma M_so M_bo M_bn M_sh M_in M_su M_gr M_tr M_om).map Prod.fst := rfl
abbrev rm_X12_showsInitials : Room := { frames := 6, cells := 0, slots := 0, locals := 141 }
def w_X12_suffixOf (cI : ClassId) (cZ : ClassId) (aM aM_s aM_ke aM_te aM_re aM_bo aM_bn aM_sh aM_in aM_su aM_gr aM_tr aM_ou aM_ro : Nat) (M_s : Nat → Int32) (M_km : Int32) (M_n : Int32) (M_be : Int32) (M_ma : Int32) (M_so : Int32) (M_bo : Nat → Int32) (M_bn : Nat → Int32) (M_sh : Nat → Int32) (M_in : Nat → Int32) (M_su : Nat → Int32) (M_gr : Nat → Int32) (M_tr : Nat → Int32) (M_om : Int32) : va_W := [(aM, .inr (12, [.ref aM_s, .ref aM_ke, .int M_km, .ref aM_te, .int M_n, .ref aM_re, .int M_be, .int M_ma, .int M_so, .ref aM_bo, .ref aM_bn, .ref aM_sh, .ref aM_in, .ref aM_su, .ref aM_gr, .ref aM_tr, .ref aM_ou, .int M_om, .ref aM_ro])), (aM_s, .inl (cI, 131, .inl M_s)), (aM_bo, .inl (cI, 8, .inl M_bo)), (aM_bn, .inl (cI, 8, .inl M_bn)), (aM_sh, .inl (cI, 8, .inl M_sh)), (aM_in, .inl (cZ, 8, .inl M_in)), (aM_su, .inl (cI, 8, .inl M_su)), (aM_gr, .inl (cI, 8, .inl M_gr)), (aM_tr, .inl (cI, 8, .inl M_tr))]
theorem wa_X12_suffixOf {cI : ClassId} {cZ : ClassId} {aM aM_s aM_ke aM_te aM_re aM_bo aM_bn aM_sh aM_in aM_su aM_gr aM_tr aM_ou aM_ro : Nat} {M_s M_s' : Nat → Int32} {M_km M_km' : Int32} {M_n M_n' : Int32} {M_be M_be' : Int32} {M_ma M_ma' : Int32} {M_so M_so' : Int32} {M_bo M_bo' : Nat → Int32} {M_bn M_bn' : Nat → Int32} {M_sh M_sh' : Nat → Int32} {M_in M_in' : Nat → Int32} {M_su M_su' : Nat → Int32} {M_gr M_gr' : Nat → Int32} {M_tr M_tr' : Nat → Int32} {M_om M_om' : Int32} : (w_X12_suffixOf cI cZ aM aM_s aM_ke aM_te aM_re aM_bo aM_bn aM_sh aM_in aM_su aM_gr aM_tr aM_ou aM_ro M_s' M_km' M_n' M_be' M_ma' M_so' M_bo' M_bn' M_sh' M_in' M_su' M_gr' M_tr' M_om').map Prod.fst = (w_X12_suffixOf cI cZ aM aM_s aM_ke aM_te aM_re aM_bo aM_bn aM_sh aM_in aM_su aM_gr aM_tr aM_ou aM_ro M_s M_km M_n M_be M_ma M_so M_bo M_bn M_sh M_in M_su M_gr M_tr M_om).map Prod.fst := rfl
abbrev rm_X12_suffixOf : Room := { frames := 6, cells := 0, slots := 0, locals := 141 }
def w_X12_undo (cI : ClassId) (aM aM_s aM_ke aM_te aM_re aM_bo aM_bn aM_sh aM_in aM_su aM_gr aM_tr aM_ou aM_ro : Nat) (M_s : Nat → Int32) (M_ke : Nat → Int32) (M_km : Int32) (M_n : Int32) (M_be : Int32) (M_ma : Int32) (M_so : Int32) (M_om : Int32) : va_W := [(aM, .inr (12, [.ref aM_s, .ref aM_ke, .int M_km, .ref aM_te, .int M_n, .ref aM_re, .int M_be, .int M_ma, .int M_so, .ref aM_bo, .ref aM_bn, .ref aM_sh, .ref aM_in, .ref aM_su, .ref aM_gr, .ref aM_tr, .ref aM_ou, .int M_om, .ref aM_ro])), (aM_s, .inl (cI, 131, .inl M_s)), (aM_ke, .inl (cI, 1048, .inl M_ke))]
theorem wa_X12_undo {cI : ClassId} {aM aM_s aM_ke aM_te aM_re aM_bo aM_bn aM_sh aM_in aM_su aM_gr aM_tr aM_ou aM_ro : Nat} {M_s M_s' : Nat → Int32} {M_ke M_ke' : Nat → Int32} {M_km M_km' : Int32} {M_n M_n' : Int32} {M_be M_be' : Int32} {M_ma M_ma' : Int32} {M_so M_so' : Int32} {M_om M_om' : Int32} : (w_X12_undo cI aM aM_s aM_ke aM_te aM_re aM_bo aM_bn aM_sh aM_in aM_su aM_gr aM_tr aM_ou aM_ro M_s' M_ke' M_km' M_n' M_be' M_ma' M_so' M_om').map Prod.fst = (w_X12_undo cI aM aM_s aM_ke aM_te aM_re aM_bo aM_bn aM_sh aM_in aM_su aM_gr aM_tr aM_ou aM_ro M_s M_ke M_km M_n M_be M_ma M_so M_om).map Prod.fst := rfl
abbrev rm_X12_undo : Room := { frames := 0, cells := 0, slots := 0, locals := 0 }
def w_X12_workCount (cI : ClassId) (aM aM_s aM_ke aM_te aM_re aM_bo aM_bn aM_sh aM_in aM_su aM_gr aM_tr aM_ou aM_ro : Nat) (M_s : Nat → Int32) (M_km : Int32) (M_n : Int32) (M_be : Int32) (M_ma : Int32) (M_so : Int32) (M_om : Int32) : va_W := [(aM, .inr (12, [.ref aM_s, .ref aM_ke, .int M_km, .ref aM_te, .int M_n, .ref aM_re, .int M_be, .int M_ma, .int M_so, .ref aM_bo, .ref aM_bn, .ref aM_sh, .ref aM_in, .ref aM_su, .ref aM_gr, .ref aM_tr, .ref aM_ou, .int M_om, .ref aM_ro])), (aM_s, .inl (cI, 131, .inl M_s))]
theorem wa_X12_workCount {cI : ClassId} {aM aM_s aM_ke aM_te aM_re aM_bo aM_bn aM_sh aM_in aM_su aM_gr aM_tr aM_ou aM_ro : Nat} {M_s M_s' : Nat → Int32} {M_km M_km' : Int32} {M_n M_n' : Int32} {M_be M_be' : Int32} {M_ma M_ma' : Int32} {M_so M_so' : Int32} {M_om M_om' : Int32} : (w_X12_workCount cI aM aM_s aM_ke aM_te aM_re aM_bo aM_bn aM_sh aM_in aM_su aM_gr aM_tr aM_ou aM_ro M_s' M_km' M_n' M_be' M_ma' M_so' M_om').map Prod.fst = (w_X12_workCount cI aM aM_s aM_ke aM_te aM_re aM_bo aM_bn aM_sh aM_in aM_su aM_gr aM_tr aM_ou aM_ro M_s M_km M_n M_be M_ma M_so M_om).map Prod.fst := rfl
abbrev rm_X12_workCount : Room := { frames := 0, cells := 0, slots := 0, locals := 0 }
set_option maxHeartbeats 4000000 in
set_option maxRecDepth 100000 in
theorem c_X12_putYear (l : Launch) (D : va_G) (cI cJ cZ cS : ClassId) (aM aM_s aM_ke aM_te aM_re aM_bo aM_bn aM_sh aM_in aM_su aM_gr aM_tr aM_ou aM_ro : Nat) (M_s : Nat → Int32) (M_km : Int32) (M_n : Int32) (M_be : Int32) (M_ma : Int32) (M_so : Int32) (M_ou : Nat → Int32) (M_om : Int32) (x1 : Int32) (o : (Nat → Int32) × Int32) (hm : m_X12_putYear M_s M_ou M_om x1 = some o) : MV l yX12_putYear wsX12_putYear rm_X12_putYear D (TY cI cJ cZ cS) [.ref aM, .int x1] (w_X12_putYear cI aM aM_s aM_ke aM_te aM_re aM_bo aM_bn aM_sh aM_in aM_su aM_gr aM_tr aM_ou aM_ro M_s M_km M_n M_be M_ma M_so M_ou M_om) (w_X12_putYear cI aM aM_s aM_ke aM_te aM_re aM_bo aM_bn aM_sh aM_in aM_su aM_gr aM_tr aM_ou aM_ro M_s M_km M_n M_be M_ma M_so o.1 o.2) := by
  refine MV_of (cc := cX12_putYear) (maxL := 2) (by decide) rfl (Nat.le_of_ble_eq_true rfl) ?_
  intro p e s m args below meth c A Q ls H locs hx hb hml hts hown hK hA hP hD hS hl hret
  have hown : s.vm.findClass RX12 = some m.cls := hown
  have hKv : va_K D vwCl (TY cI cJ cZ cS) s := hK.1
  have hl : lv_has ls 2 [(0, .ref aM), (1, .int x1)] := hl
  have S : CallFix p m c cX12_putYear 2 s args wsX12_putYear RX12 := ⟨hx, hb, hml, hown, hts⟩
  have k1 : CallW rm_X12_putYear s args RX12 RX12 155 yX12_year cX12_year 2 (some .int) wsX12_year rm_X12_year 0 0 1 := cwV 1 hts gX12_putYear_X12_year rfl rfl rfl (by decide +kernel) ⟨Nat.le_of_ble_eq_true rfl, Nat.le_of_ble_eq_true rfl⟩
  have k2 : CallW rm_X12_putYear s args RX12 RX12 209 yX12_put cX12_put 2 none wsX12_put rm_X12_put 0 0 1 := cwV 1 hts gX12_putYear_X12_put rfl rfl rfl (by decide +kernel) ⟨Nat.le_of_ble_eq_true rfl, Nat.le_of_ble_eq_true rfl⟩
  refine lv_aload_n hx hb dX12_putYear_0 rfl (lv_at hl 0 rfl) ?_
  refine lv_bipush (v := 48) hx hb dX12_putYear_1 (by decide) ?_
  refine lv_aload_n hx hb dX12_putYear_3 rfl (lv_at hl 0 rfl) ?_
  refine lv_iload_n hx hb dX12_putYear_4 rfl (lv_at hl 1 rfl) ?_
  replace hm := bd_some hm
  obtain ⟨e1, hc1, hm⟩ := hm
  refine kV_i (rest := [.int 48, .ref aM]) (ws' := (w_X12_putYear cI aM aM_s aM_ke aM_te aM_re aM_bo aM_bn aM_sh aM_in aM_su aM_gr aM_tr aM_ou aM_ro M_s M_km M_n M_be M_ma M_so M_ou M_om)) S (c_X12_year l D cI cJ cZ cS aM aM_s aM_ke aM_te aM_re aM_bo aM_bn aM_sh aM_in aM_su aM_gr aM_tr aM_ou aM_ro M_s M_km M_n M_be M_ma M_so M_om x1 e1 hc1) k1 hK hP hD hS hA 0 rfl rfl rfl rfl hl.1 rfl (Nat.le_of_ble_eq_true rfl) ⟨Nat.zero_le _, Nat.zero_le _⟩ dX12_putYear_5 [0, 1] rfl rfl wa_X12_year (sa_eq [(aM_ou, .inl (cI, 300, .inl M_ou))] [2] 3 rfl rfl rfl rfl rfl rfl rfl) (fun H locs hP hD hS => ?_)
  refine lv_bipush (v := 10) hx hb dX12_putYear_8 (by decide) ?_
  refine lv_idiv hx hb dX12_putYear_10 (by decide) ?_
  refine lv_iadd hx hb dX12_putYear_11 ?_
  replace hm := bd_some hm
  obtain ⟨e2, hc2, hm⟩ := hm
  refine kV_v (rest := []) (ws' := (w_X12_putYear cI aM aM_s aM_ke aM_te aM_re aM_bo aM_bn aM_sh aM_in aM_su aM_gr aM_tr aM_ou aM_ro M_s M_km M_n M_be M_ma M_so e2.1 e2.2)) S (c_X12_put l D cI cJ cZ cS aM aM_s aM_ke aM_te aM_re aM_bo aM_bn aM_sh aM_in aM_su aM_gr aM_tr aM_ou aM_ro M_km M_n M_be M_ma M_so M_ou M_om (48 + (e1 / 10)) e2 hc2) k2 hK hP hD hS hA 0 rfl rfl rfl rfl hl.1 rfl (Nat.le_of_ble_eq_true rfl) ⟨Nat.zero_le _, Nat.zero_le _⟩ dX12_putYear_12 [0, 2] rfl rfl wa_X12_put (sa_eq [(aM_s, .inl (cI, 131, .inl M_s))] [1] 3 rfl rfl rfl rfl rfl rfl rfl) (fun H locs hP hD hS => ?_)
  refine lv_aload_n hx hb dX12_putYear_15 rfl (lv_at hl 0 rfl) ?_
  refine lv_bipush (v := 48) hx hb dX12_putYear_16 (by decide) ?_
  refine lv_aload_n hx hb dX12_putYear_18 rfl (lv_at hl 0 rfl) ?_
  refine lv_iload_n hx hb dX12_putYear_19 rfl (lv_at hl 1 rfl) ?_
  replace hm := bd_some hm
  obtain ⟨e3, hc3, hm⟩ := hm
  refine kV_i (rest := [.int 48, .ref aM]) (ws' := (w_X12_putYear cI aM aM_s aM_ke aM_te aM_re aM_bo aM_bn aM_sh aM_in aM_su aM_gr aM_tr aM_ou aM_ro M_s M_km M_n M_be M_ma M_so e2.1 e2.2)) S (c_X12_year l D cI cJ cZ cS aM aM_s aM_ke aM_te aM_re aM_bo aM_bn aM_sh aM_in aM_su aM_gr aM_tr aM_ou aM_ro M_s M_km M_n M_be M_ma M_so e2.2 x1 e3 hc3) k1 hK hP hD hS hA 0 rfl rfl rfl rfl hl.1 rfl (Nat.le_of_ble_eq_true rfl) ⟨Nat.zero_le _, Nat.zero_le _⟩ dX12_putYear_20 [0, 1] rfl rfl wa_X12_year (sa_eq [(aM_ou, .inl (cI, 300, .inl e2.1))] [2] 3 rfl rfl rfl rfl rfl rfl rfl) (fun H locs hP hD hS => ?_)
  refine lv_bipush (v := 10) hx hb dX12_putYear_23 (by decide) ?_
  refine lv_irem hx hb dX12_putYear_25 (by decide) ?_
  refine lv_iadd hx hb dX12_putYear_26 ?_
  replace hm := bd_some hm
  obtain ⟨e4, hc4, hm⟩ := hm
  refine kV_v (rest := []) (ws' := (w_X12_putYear cI aM aM_s aM_ke aM_te aM_re aM_bo aM_bn aM_sh aM_in aM_su aM_gr aM_tr aM_ou aM_ro M_s M_km M_n M_be M_ma M_so e4.1 e4.2)) S (c_X12_put l D cI cJ cZ cS aM aM_s aM_ke aM_te aM_re aM_bo aM_bn aM_sh aM_in aM_su aM_gr aM_tr aM_ou aM_ro M_km M_n M_be M_ma M_so e2.1 e2.2 (48 + (e3 - e3 / 10 * 10)) e4 hc4) k2 hK hP hD hS hA 0 rfl rfl rfl rfl hl.1 rfl (Nat.le_of_ble_eq_true rfl) ⟨Nat.zero_le _, Nat.zero_le _⟩ dX12_putYear_27 [0, 2] rfl rfl wa_X12_put (sa_eq [(aM_s, .inl (cI, 131, .inl M_s))] [1] 3 rfl rfl rfl rfl rfl rfl rfl) (fun H locs hP hD hS => ?_)
  have h9 := Option.some.inj hm
  subst h9
  exact hret H locs _ ls hP hD hS dX12_putYear_30
set_option maxHeartbeats 4000000 in
set_option maxRecDepth 100000 in
theorem c_X12_putSuffix (l : Launch) (D : va_G) (cI cJ cZ cS : ClassId) (aM aM_s aM_ke aM_te aM_re aM_bo aM_bn aM_sh aM_in aM_su aM_gr aM_tr aM_ou aM_ro : Nat) (M_km : Int32) (M_n : Int32) (M_be : Int32) (M_ma : Int32) (M_so : Int32) (M_su : Nat → Int32) (M_ou : Nat → Int32) (M_om : Int32) (x1 : Int32) (o : (Nat → Int32) × Int32) (hm : m_X12_putSuffix M_su M_ou M_om x1 = some o) : MV l yX12_putSuffix wsX12_putSuffix rm_X12_putSuffix D (TY cI cJ cZ cS) [.ref aM, .int x1] (w_X12_putSuffix cI aM aM_s aM_ke aM_te aM_re aM_bo aM_bn aM_sh aM_in aM_su aM_gr aM_tr aM_ou aM_ro M_km M_n M_be M_ma M_so M_su M_ou M_om) (w_X12_putSuffix cI aM aM_s aM_ke aM_te aM_re aM_bo aM_bn aM_sh aM_in aM_su aM_gr aM_tr aM_ou aM_ro M_km M_n M_be M_ma M_so M_su o.1 o.2) := by
  refine MV_of (cc := cX12_putSuffix) (maxL := 2) (by decide) rfl (Nat.le_of_ble_eq_true rfl) ?_
  intro p e s m args below meth c A Q ls H locs hx hb hml hts hown hK hA hP hD hS hl hret
  have hown : s.vm.findClass RX12 = some m.cls := hown
  have hKv : va_K D vwCl (TY cI cJ cZ cS) s := hK.1
  have hl : lv_has ls 2 [(0, .ref aM), (1, .int x1)] := hl
  have S : CallFix p m c cX12_putSuffix 2 s args wsX12_putSuffix RX12 := ⟨hx, hb, hml, hown, hts⟩
  have k1 := hts (.fieldLink RX12 35 "CitationFormatterModel" "suffix" "[I") (by decide +kernel)
  have k2 : ∀ w ∈ wsX120, w ∈ wsX12_putSuffix := by decide +kernel
  have k3 : CallW rm_X12_putSuffix s args RX12 RX12 209 yX12_put cX12_put 2 none wsX12_put rm_X12_put 0 0 1 := cwV 1 hts gX12_putSuffix_X12_put rfl rfl rfl (by decide +kernel) ⟨Nat.le_of_ble_eq_true rfl, Nat.le_of_ble_eq_true rfl⟩
  have J21 : ∀ (M_ou_j21 : Nat → Int32) (M_om_j21 : Int32), (m_X12_putSuffix_J21 M_ou_j21 M_om_j21 = some o) → ∀ (H : Heap) (locs : List Loc) (ls : Array Slot), va_P D vwCl (w_X12_putSuffix cI aM aM_s aM_ke aM_te aM_re aM_bo aM_bn aM_sh aM_in aM_su aM_gr aM_tr aM_ou aM_ro M_km M_n M_be M_ma M_so M_su M_ou_j21 M_om_j21) H → va_D A (w_X12_putSuffix cI aM aM_s aM_ke aM_te aM_re aM_bo aM_bn aM_sh aM_in aM_su aM_gr aM_tr aM_ou aM_ro M_km M_n M_be M_ma M_so M_su M_ou_j21 M_om_j21) → va_S A s.heap H locs → lv_has ls 2 [(0, .ref aM)] → W p l e rm_X12_putSuffix s m args below meth c H locs 0 0 Q (F0 m 21 ls []) := by
    intro M_ou_j21 M_om_j21 hm H locs ls hP hD hS hl
    have h9 := Option.some.inj hm
    subst h9
    exact hret H locs _ ls hP hD hS dX12_putSuffix_21
  refine lv_aload_n hx hb dX12_putSuffix_0 rfl (lv_at hl 0 rfl) ?_
  refine va_get (D := D) (ci := 12) (v := .ref aM_su) (C := RX12) (T := TX12) (N := 19) hx hb hts k2 hown hKv hP 0 rfl rfl 13 (by decide) k1 (fun _ h9 => h9) rfl dX12_putSuffix_1 ?_
  refine lv_iload_n hx hb dX12_putSuffix_4 rfl (lv_at hl 1 rfl) ?_
  replace hm := ck_some hm
  obtain ⟨h1, hm⟩ := hm
  refine va_iald hx hb hKv hP 1 0 rfl rfl h1 dX12_putSuffix_5 ?_
  refine lv_bipush (v := (-9)) hx hb dX12_putSuffix_6 (by decide) ?_
  refine lv_icmp_eq (tgt := 21) hx hb dX12_putSuffix_8 (by decide) (fun c2 => ?_) (fun c2 => ?_)
  · replace hm := if_t c2 hm
    exact J21 M_ou M_om hm H locs ls hP hD hS (lv_sub hl [0] rfl)
  · replace hm := if_f c2 hm
    refine lv_aload_n hx hb dX12_putSuffix_11 rfl (lv_at hl 0 rfl) ?_
    refine lv_aload_n hx hb dX12_putSuffix_12 rfl (lv_at hl 0 rfl) ?_
    refine va_get (D := D) (ci := 12) (v := .ref aM_su) (C := RX12) (T := TX12) (N := 19) hx hb hts k2 hown hKv hP 0 rfl rfl 13 (by decide) k1 (fun _ h9 => h9) rfl dX12_putSuffix_13 ?_
    refine lv_iload_n hx hb dX12_putSuffix_16 rfl (lv_at hl 1 rfl) ?_
    replace hm := ck_some hm
    obtain ⟨h3, hm⟩ := hm
    refine va_iald hx hb hKv hP 1 0 rfl rfl h3 dX12_putSuffix_17 ?_
    replace hm := bd_some hm
    obtain ⟨e4, hc4, hm⟩ := hm
    refine kV_v (rest := []) (ws' := (w_X12_putSuffix cI aM aM_s aM_ke aM_te aM_re aM_bo aM_bn aM_sh aM_in aM_su aM_gr aM_tr aM_ou aM_ro M_km M_n M_be M_ma M_so M_su e4.1 e4.2)) S (c_X12_put l D cI cJ cZ cS aM aM_s aM_ke aM_te aM_re aM_bo aM_bn aM_sh aM_in aM_su aM_gr aM_tr aM_ou aM_ro M_km M_n M_be M_ma M_so M_ou M_om (M_su (Int32.toNatClampNeg x1)) e4 hc4) k3 hK hP hD hS hA 0 rfl rfl rfl rfl hl.1 rfl (Nat.le_of_ble_eq_true rfl) ⟨Nat.zero_le _, Nat.zero_le _⟩ dX12_putSuffix_18 [0, 2] rfl rfl wa_X12_put (sa_eq [(aM_su, .inl (cI, 8, .inl M_su))] [1] 3 rfl rfl rfl rfl rfl rfl rfl) (fun H locs hP hD hS => ?_)
    exact J21 e4.1 e4.2 hm H locs ls hP hD hS (lv_sub hl [0] rfl)
set_option maxHeartbeats 4000000 in
set_option maxRecDepth 100000 in
theorem c_X12_entryCharacter (l : Launch) (D : va_G) (cI cJ cZ cS : ClassId) (aM aM_s aM_ke aM_te aM_re aM_bo aM_bn aM_sh aM_in aM_su aM_gr aM_tr aM_ou aM_ro : Nat) (M_s : Nat → Int32) (M_km : Int32) (M_n : Int32) (M_be : Int32) (M_ma : Int32) (M_so : Int32) (M_bo : Nat → Int32) (M_bn : Nat → Int32) (M_sh : Nat → Int32) (M_in : Nat → Int32) (M_su : Nat → Int32) (M_gr : Nat → Int32) (M_tr : Nat → Int32) (M_ou : Nat → Int32) (M_om : Int32) (x1 : Int32) (x2 : Int32) (o : Int32 × (Nat → Int32) × (Nat → Int32) × (Nat → Int32) × (Nat → Int32) × (Nat → Int32) × (Nat → Int32) × (Nat → Int32) × (Nat → Int32) × Int32) (hm : m_X12_entryCharacter M_s M_bo M_bn M_sh M_in M_su M_gr M_tr M_ou M_om x1 x2 = some o) : MI l yX12_entryCharacter wsX12_entryCharacter rm_X12_entryCharacter D (TY cI cJ cZ cS) [.ref aM, .int x1, .int x2] (w_X12_entryCharacter cI cZ aM aM_s aM_ke aM_te aM_re aM_bo aM_bn aM_sh aM_in aM_su aM_gr aM_tr aM_ou aM_ro M_s M_km M_n M_be M_ma M_so M_bo M_bn M_sh M_in M_su M_gr M_tr M_ou M_om) (w_X12_entryCharacter cI cZ aM aM_s aM_ke aM_te aM_re aM_bo aM_bn aM_sh aM_in aM_su aM_gr aM_tr aM_ou aM_ro M_s M_km M_n M_be M_ma M_so o.2.1 o.2.2.1 o.2.2.2.1 o.2.2.2.2.1 o.2.2.2.2.2.1 o.2.2.2.2.2.2.1 o.2.2.2.2.2.2.2.1 o.2.2.2.2.2.2.2.2.1 o.2.2.2.2.2.2.2.2.2) (o.1) := by
  refine MI_of (cc := cX12_entryCharacter) (maxL := 4) (by decide) rfl (Nat.le_of_ble_eq_true rfl) ?_
  intro p e s m args below meth c A Q ls H locs hx hb hml hts hown hK hA hP hD hS hl hret
  have hown : s.vm.findClass RX12 = some m.cls := hown
  have hKv : va_K D vwCl (TY cI cJ cZ cS) s := hK.1
  have hl : lv_has ls 4 [(0, .ref aM), (1, .int x1), (2, .int x2)] := hl
  have S : CallFix p m c cX12_entryCharacter 4 s args wsX12_entryCharacter RX12 := ⟨hx, hb, hml, hown, hts⟩
  have k1 : CallW rm_X12_entryCharacter s args RX12 RX12 209 yX12_put cX12_put 2 none wsX12_put rm_X12_put 0 0 1 := cwV 1 hts gX12_entryCharacter_X12_put rfl rfl rfl (by decide +kernel) ⟨Nat.le_of_ble_eq_true rfl, Nat.le_of_ble_eq_true rfl⟩
  have k2 : CallW rm_X12_entryCharacter s args RX12 RX12 158 yX12_title cX12_title 2 (some .int) wsX12_title rm_X12_title 0 0 1 := cwV 1 hts gX12_entryCharacter_X12_title rfl rfl rfl (by decide +kernel) ⟨Nat.le_of_ble_eq_true rfl, Nat.le_of_ble_eq_true rfl⟩
  have k3 := hts (.fieldLink RX12 206 "CitationFormatterModel" "outMany" "I") (by decide +kernel)
  have k4 : ∀ w ∈ wsX120, w ∈ wsX12_entryCharacter := by decide +kernel
  have k5 := hts (.fieldLink RX12 44 "CitationFormatterModel" "out" "[I") (by decide +kernel)
  have k6 : CallW rm_X12_entryCharacter s args RX12 RX12 146 yX12_authors cX12_authors 2 (some .int) wsX12_authors rm_X12_authors 0 0 1 := cwV 1 hts gX12_entryCharacter_X12_authors rfl rfl rfl (by decide +kernel) ⟨Nat.le_of_ble_eq_true rfl, Nat.le_of_ble_eq_true rfl⟩
  have k7 : CallW rm_X12_entryCharacter s args RX12 RX12 212 yX12_putAuthors cX12_putAuthors 5 none wsX12_putAuthors rm_X12_putAuthors 0 0 3 := cwV 3 hts gX12_entryCharacter_X12_putAuthors rfl rfl rfl (by decide +kernel) ⟨Nat.le_of_ble_eq_true rfl, Nat.le_of_ble_eq_true rfl⟩
  have k8 : CallW rm_X12_entryCharacter s args RX12 RX12 222 yX12_putYear cX12_putYear 2 none wsX12_putYear rm_X12_putYear 0 0 1 := cwV 1 hts gX12_entryCharacter_X12_putYear rfl rfl rfl (by decide +kernel) ⟨Nat.le_of_ble_eq_true rfl, Nat.le_of_ble_eq_true rfl⟩
  have k9 := hts (.fieldLink RX12 7 "CitationFormatterModel" "s" "[I") (by decide +kernel)
  have k10 : CallW rm_X12_entryCharacter s args RX12 RX12 225 yX12_putSuffix cX12_putSuffix 2 none wsX12_putSuffix rm_X12_putSuffix 0 0 1 := cwV 1 hts gX12_entryCharacter_X12_putSuffix rfl rfl rfl (by decide +kernel) ⟨Nat.le_of_ble_eq_true rfl, Nat.le_of_ble_eq_true rfl⟩
  have k11 : CallB rm_X12_entryCharacter s args RX12 50 yX12_in cX12_in 6 (some .boolean) wsX12_in rm_X12_in 0 0 3 ∧ (Cond.static yX12_in).before args s = true := va_cwS 3 hts gX12_entryCharacter_X12_in rfl rfl rfl (by decide +kernel) ⟨Nat.le_of_ble_eq_true rfl, Nat.le_of_ble_eq_true rfl⟩
  have k12 : CallW rm_X12_entryCharacter s args RX12 RX12 203 yX12_layLabels cX12_layLabels 3 none wsX12_layLabels rm_X12_layLabels 0 0 0 := cwV 0 hts gX12_entryCharacter_X12_layLabels rfl rfl rfl (by decide +kernel) ⟨Nat.le_of_ble_eq_true rfl, Nat.le_of_ble_eq_true rfl⟩
  have k13 : CallW rm_X12_entryCharacter s args RX12 RX12 167 yX12_listed cX12_listed 2 (some .int) wsX12_listed rm_X12_listed 0 0 1 := cwV 1 hts gX12_entryCharacter_X12_listed rfl rfl rfl (by decide +kernel) ⟨Nat.le_of_ble_eq_true rfl, Nat.le_of_ble_eq_true rfl⟩
  have k14 := hts (.fieldLink RX12 25 "CitationFormatterModel" "byNumber" "[I") (by decide +kernel)
  have k15 : CallW rm_X12_entryCharacter s args RX12 RX12 170 yX12_placeIn cX12_placeIn 4 (some .int) wsX12_placeIn rm_X12_placeIn_bn 0 0 2 := cwV 2 hts gX12_entryCharacter_X12_placeIn rfl rfl rfl (by decide +kernel) ⟨Nat.le_of_ble_eq_true rfl, Nat.le_of_ble_eq_true rfl⟩
  have J22 : ∀ (M_bo_j22 : Nat → Int32) (M_bn_j22 : Nat → Int32) (M_sh_j22 : Nat → Int32) (M_in_j22 : Nat → Int32) (M_su_j22 : Nat → Int32) (M_gr_j22 : Nat → Int32) (M_tr_j22 : Nat → Int32) (M_ou_j22 : Nat → Int32) (M_om_j22 : Int32), (m_X12_entryCharacter_J22 M_bo_j22 M_bn_j22 M_sh_j22 M_in_j22 M_su_j22 M_gr_j22 M_tr_j22 M_ou_j22 M_om_j22 = some o) → ∀ (H : Heap) (locs : List Loc) (ls : Array Slot), va_P D vwCl (w_X12_entryCharacter cI cZ aM aM_s aM_ke aM_te aM_re aM_bo aM_bn aM_sh aM_in aM_su aM_gr aM_tr aM_ou aM_ro M_s M_km M_n M_be M_ma M_so M_bo_j22 M_bn_j22 M_sh_j22 M_in_j22 M_su_j22 M_gr_j22 M_tr_j22 M_ou_j22 M_om_j22) H → va_D A (w_X12_entryCharacter cI cZ aM aM_s aM_ke aM_te aM_re aM_bo aM_bn aM_sh aM_in aM_su aM_gr aM_tr aM_ou aM_ro M_s M_km M_n M_be M_ma M_so M_bo_j22 M_bn_j22 M_sh_j22 M_in_j22 M_su_j22 M_gr_j22 M_tr_j22 M_ou_j22 M_om_j22) → va_S A s.heap H locs → lv_has ls 4 [(0, .ref aM)] → W p l e rm_X12_entryCharacter s m args below meth c H locs 0 0 Q (F0 m 22 ls []) := by
    intro M_bo_j22 M_bn_j22 M_sh_j22 M_in_j22 M_su_j22 M_gr_j22 M_tr_j22 M_ou_j22 M_om_j22 hm H locs ls hP hD hS hl
    refine lv_iconst (v := (-1)) hx hb dX12_entryCharacter_22 (by decide) ?_
    have h9 := Option.some.inj hm
    subst h9
    exact hret H locs _ ls _ hP hD hS rfl dX12_entryCharacter_23
  have J160 : ∀ (y0_j160 : Int32) (M_bo_j160 : Nat → Int32) (M_bn_j160 : Nat → Int32) (M_sh_j160 : Nat → Int32) (M_in_j160 : Nat → Int32) (M_su_j160 : Nat → Int32) (M_gr_j160 : Nat → Int32) (M_tr_j160 : Nat → Int32) (M_ou_j160 : Nat → Int32) (M_om_j160 : Int32), (m_X12_entryCharacter_J160 y0_j160 M_bo_j160 M_bn_j160 M_sh_j160 M_in_j160 M_su_j160 M_gr_j160 M_tr_j160 M_ou_j160 M_om_j160 = some o) → ∀ (H : Heap) (locs : List Loc) (ls : Array Slot), va_P D vwCl (w_X12_entryCharacter cI cZ aM aM_s aM_ke aM_te aM_re aM_bo aM_bn aM_sh aM_in aM_su aM_gr aM_tr aM_ou aM_ro M_s M_km M_n M_be M_ma M_so M_bo_j160 M_bn_j160 M_sh_j160 M_in_j160 M_su_j160 M_gr_j160 M_tr_j160 M_ou_j160 M_om_j160) H → va_D A (w_X12_entryCharacter cI cZ aM aM_s aM_ke aM_te aM_re aM_bo aM_bn aM_sh aM_in aM_su aM_gr aM_tr aM_ou aM_ro M_s M_km M_n M_be M_ma M_so M_bo_j160 M_bn_j160 M_sh_j160 M_in_j160 M_su_j160 M_gr_j160 M_tr_j160 M_ou_j160 M_om_j160) → va_S A s.heap H locs → lv_has ls 4 [(0, .ref aM)] → W p l e rm_X12_entryCharacter s m args below meth c H locs 0 0 Q (F0 m 160 ls [.int y0_j160]) := by
    intro y0_j160 M_bo_j160 M_bn_j160 M_sh_j160 M_in_j160 M_su_j160 M_gr_j160 M_tr_j160 M_ou_j160 M_om_j160 hm H locs ls hP hD hS hl
    have h9 := Option.some.inj hm
    subst h9
    exact hret H locs _ ls _ hP hD hS rfl dX12_entryCharacter_160
  have J117 : ∀ (x3_j117 : Int32) (M_bo_j117 : Nat → Int32) (M_bn_j117 : Nat → Int32) (M_sh_j117 : Nat → Int32) (M_in_j117 : Nat → Int32) (M_su_j117 : Nat → Int32) (M_gr_j117 : Nat → Int32) (M_tr_j117 : Nat → Int32) (M_ou_j117 : Nat → Int32) (M_om_j117 : Int32), (m_X12_entryCharacter_J117 x2 x3_j117 M_s M_bo_j117 M_bn_j117 M_sh_j117 M_in_j117 M_su_j117 M_gr_j117 M_tr_j117 M_ou_j117 M_om_j117 = some o) → ∀ (H : Heap) (locs : List Loc) (ls : Array Slot), va_P D vwCl (w_X12_entryCharacter cI cZ aM aM_s aM_ke aM_te aM_re aM_bo aM_bn aM_sh aM_in aM_su aM_gr aM_tr aM_ou aM_ro M_s M_km M_n M_be M_ma M_so M_bo_j117 M_bn_j117 M_sh_j117 M_in_j117 M_su_j117 M_gr_j117 M_tr_j117 M_ou_j117 M_om_j117) H → va_D A (w_X12_entryCharacter cI cZ aM aM_s aM_ke aM_te aM_re aM_bo aM_bn aM_sh aM_in aM_su aM_gr aM_tr aM_ou aM_ro M_s M_km M_n M_be M_ma M_so M_bo_j117 M_bn_j117 M_sh_j117 M_in_j117 M_su_j117 M_gr_j117 M_tr_j117 M_ou_j117 M_om_j117) → va_S A s.heap H locs → lv_has ls 4 [(0, .ref aM), (2, .int x2), (3, .int x3_j117)] → W p l e rm_X12_entryCharacter s m args below meth c H locs 0 0 Q (F0 m 117 ls []) := by
    intro x3_j117 M_bo_j117 M_bn_j117 M_sh_j117 M_in_j117 M_su_j117 M_gr_j117 M_tr_j117 M_ou_j117 M_om_j117 hm H locs ls hP hD hS hl
    refine lv_aload_n hx hb dX12_entryCharacter_117 rfl (lv_at hl 0 rfl) ?_
    refine lv_bipush (v := 41) hx hb dX12_entryCharacter_118 (by decide) ?_
    replace hm := bd_some hm
    obtain ⟨e1, hc1, hm⟩ := hm
    refine kV_v (rest := []) (ws' := (w_X12_entryCharacter cI cZ aM aM_s aM_ke aM_te aM_re aM_bo aM_bn aM_sh aM_in aM_su aM_gr aM_tr aM_ou aM_ro M_s M_km M_n M_be M_ma M_so M_bo_j117 M_bn_j117 M_sh_j117 M_in_j117 M_su_j117 M_gr_j117 M_tr_j117 e1.1 e1.2)) S (c_X12_put l D cI cJ cZ cS aM aM_s aM_ke aM_te aM_re aM_bo aM_bn aM_sh aM_in aM_su aM_gr aM_tr aM_ou aM_ro M_km M_n M_be M_ma M_so M_ou_j117 M_om_j117 41 e1 hc1) k1 hK hP hD hS hA 0 rfl rfl rfl rfl hl.1 rfl (Nat.le_of_ble_eq_true rfl) ⟨Nat.zero_le _, Nat.zero_le _⟩ dX12_entryCharacter_120 [0, 9] rfl rfl wa_X12_put (sa_eq [(aM_s, .inl (cI, 131, .inl M_s)), (aM_bo, .inl (cI, 8, .inl M_bo_j117)), (aM_bn, .inl (cI, 8, .inl M_bn_j117)), (aM_sh, .inl (cI, 8, .inl M_sh_j117)), (aM_in, .inl (cZ, 8, .inl M_in_j117)), (aM_su, .inl (cI, 8, .inl M_su_j117)), (aM_gr, .inl (cI, 8, .inl M_gr_j117)), (aM_tr, .inl (cI, 8, .inl M_tr_j117))] [1, 2, 3, 4, 5, 6, 7, 8] 10 rfl rfl rfl rfl rfl rfl rfl) (fun H locs hP hD hS => ?_)
    refine lv_aload_n hx hb dX12_entryCharacter_123 rfl (lv_at hl 0 rfl) ?_
    refine lv_bipush (v := 97) hx hb dX12_entryCharacter_124 (by decide) ?_
    refine lv_aload_n hx hb dX12_entryCharacter_126 rfl (lv_at hl 0 rfl) ?_
    refine lv_iload_n hx hb dX12_entryCharacter_127 rfl (lv_at hl 2 rfl) ?_
    replace hm := bd_some hm
    obtain ⟨e2, hc2, hm⟩ := hm
    refine kV_i (rest := [.int 97, .ref aM]) (ws' := (w_X12_entryCharacter cI cZ aM aM_s aM_ke aM_te aM_re aM_bo aM_bn aM_sh aM_in aM_su aM_gr aM_tr aM_ou aM_ro M_s M_km M_n M_be M_ma M_so M_bo_j117 M_bn_j117 M_sh_j117 M_in_j117 M_su_j117 M_gr_j117 M_tr_j117 e1.1 e1.2)) S (c_X12_title l D cI cJ cZ cS aM aM_s aM_ke aM_te aM_re aM_bo aM_bn aM_sh aM_in aM_su aM_gr aM_tr aM_ou aM_ro M_s M_km M_n M_be M_ma M_so e1.2 x3_j117 e2 hc2) k2 hK hP hD hS hA 0 rfl rfl rfl rfl hl.1 rfl (Nat.le_of_ble_eq_true rfl) ⟨Nat.zero_le _, Nat.zero_le _⟩ dX12_entryCharacter_128 [0, 1] rfl rfl wa_X12_title (sa_eq [(aM_bo, .inl (cI, 8, .inl M_bo_j117)), (aM_bn, .inl (cI, 8, .inl M_bn_j117)), (aM_sh, .inl (cI, 8, .inl M_sh_j117)), (aM_in, .inl (cZ, 8, .inl M_in_j117)), (aM_su, .inl (cI, 8, .inl M_su_j117)), (aM_gr, .inl (cI, 8, .inl M_gr_j117)), (aM_tr, .inl (cI, 8, .inl M_tr_j117)), (aM_ou, .inl (cI, 300, .inl e1.1))] [2, 3, 4, 5, 6, 7, 8, 9] 10 rfl rfl rfl rfl rfl rfl rfl) (fun H locs hP hD hS => ?_)
    refine lv_iadd hx hb dX12_entryCharacter_131 ?_
    replace hm := bd_some hm
    obtain ⟨e3, hc3, hm⟩ := hm
    refine kV_v (rest := []) (ws' := (w_X12_entryCharacter cI cZ aM aM_s aM_ke aM_te aM_re aM_bo aM_bn aM_sh aM_in aM_su aM_gr aM_tr aM_ou aM_ro M_s M_km M_n M_be M_ma M_so M_bo_j117 M_bn_j117 M_sh_j117 M_in_j117 M_su_j117 M_gr_j117 M_tr_j117 e3.1 e3.2)) S (c_X12_put l D cI cJ cZ cS aM aM_s aM_ke aM_te aM_re aM_bo aM_bn aM_sh aM_in aM_su aM_gr aM_tr aM_ou aM_ro M_km M_n M_be M_ma M_so e1.1 e1.2 (97 + e2) e3 hc3) k1 hK hP hD hS hA 0 rfl rfl rfl rfl hl.1 rfl (Nat.le_of_ble_eq_true rfl) ⟨Nat.zero_le _, Nat.zero_le _⟩ dX12_entryCharacter_132 [0, 9] rfl rfl wa_X12_put (sa_eq [(aM_s, .inl (cI, 131, .inl M_s)), (aM_bo, .inl (cI, 8, .inl M_bo_j117)), (aM_bn, .inl (cI, 8, .inl M_bn_j117)), (aM_sh, .inl (cI, 8, .inl M_sh_j117)), (aM_in, .inl (cZ, 8, .inl M_in_j117)), (aM_su, .inl (cI, 8, .inl M_su_j117)), (aM_gr, .inl (cI, 8, .inl M_gr_j117)), (aM_tr, .inl (cI, 8, .inl M_tr_j117))] [1, 2, 3, 4, 5, 6, 7, 8] 10 rfl rfl rfl rfl rfl rfl rfl) (fun H locs hP hD hS => ?_)
    refine lv_aload_n hx hb dX12_entryCharacter_135 rfl (lv_at hl 0 rfl) ?_
    refine lv_bipush (v := 46) hx hb dX12_entryCharacter_136 (by decide) ?_
    replace hm := bd_some hm
    obtain ⟨e4, hc4, hm⟩ := hm
    refine kV_v (rest := []) (ws' := (w_X12_entryCharacter cI cZ aM aM_s aM_ke aM_te aM_re aM_bo aM_bn aM_sh aM_in aM_su aM_gr aM_tr aM_ou aM_ro M_s M_km M_n M_be M_ma M_so M_bo_j117 M_bn_j117 M_sh_j117 M_in_j117 M_su_j117 M_gr_j117 M_tr_j117 e4.1 e4.2)) S (c_X12_put l D cI cJ cZ cS aM aM_s aM_ke aM_te aM_re aM_bo aM_bn aM_sh aM_in aM_su aM_gr aM_tr aM_ou aM_ro M_km M_n M_be M_ma M_so e3.1 e3.2 46 e4 hc4) k1 hK hP hD hS hA 0 rfl rfl rfl rfl hl.1 rfl (Nat.le_of_ble_eq_true rfl) ⟨Nat.zero_le _, Nat.zero_le _⟩ dX12_entryCharacter_138 [0, 9] rfl rfl wa_X12_put (sa_eq [(aM_s, .inl (cI, 131, .inl M_s)), (aM_bo, .inl (cI, 8, .inl M_bo_j117)), (aM_bn, .inl (cI, 8, .inl M_bn_j117)), (aM_sh, .inl (cI, 8, .inl M_sh_j117)), (aM_in, .inl (cZ, 8, .inl M_in_j117)), (aM_su, .inl (cI, 8, .inl M_su_j117)), (aM_gr, .inl (cI, 8, .inl M_gr_j117)), (aM_tr, .inl (cI, 8, .inl M_tr_j117))] [1, 2, 3, 4, 5, 6, 7, 8] 10 rfl rfl rfl rfl rfl rfl rfl) (fun H locs hP hD hS => ?_)
    refine lv_iload_n hx hb dX12_entryCharacter_141 rfl (lv_at hl 1 rfl) ?_
    refine lv_aload_n hx hb dX12_entryCharacter_142 rfl (lv_at hl 0 rfl) ?_
    refine va_get (D := D) (ci := 12) (v := .int e4.2) (C := RX12) (T := TX12) (N := 19) hx hb hts k4 hown hKv hP 0 rfl rfl 17 (by decide) k3 (fun _ h9 => h9) rfl dX12_entryCharacter_143 ?_
    refine lv_icmp_ge (tgt := 158) hx hb dX12_entryCharacter_146 (by decide) (fun c5 => ?_) (fun c5 => ?_)
    · replace hm := if_t c5 hm
      refine lv_bipush (v := (-9)) hx hb dX12_entryCharacter_158 (by decide) ?_
      exact J160 (-9) M_bo_j117 M_bn_j117 M_sh_j117 M_in_j117 M_su_j117 M_gr_j117 M_tr_j117 e4.1 e4.2 hm H locs ls hP hD hS (lv_sub hl [0] rfl)
    · replace hm := if_f c5 hm
      refine lv_aload_n hx hb dX12_entryCharacter_149 rfl (lv_at hl 0 rfl) ?_
      refine va_get (D := D) (ci := 12) (v := .ref aM_ou) (C := RX12) (T := TX12) (N := 19) hx hb hts k4 hown hKv hP 0 rfl rfl 16 (by decide) k5 (fun _ h9 => h9) rfl dX12_entryCharacter_150 ?_
      refine lv_iload_n hx hb dX12_entryCharacter_153 rfl (lv_at hl 1 rfl) ?_
      replace hm := ck_some hm
      obtain ⟨h6, hm⟩ := hm
      refine va_iald hx hb hKv hP 9 0 rfl rfl h6 dX12_entryCharacter_154 ?_
      refine lv_goto (tgt := 160) hx hb dX12_entryCharacter_155 (by decide) ?_
      exact J160 (e4.1 (Int32.toNatClampNeg x2)) M_bo_j117 M_bn_j117 M_sh_j117 M_in_j117 M_su_j117 M_gr_j117 M_tr_j117 e4.1 e4.2 hm H locs ls hP hD hS (lv_sub hl [0] rfl)
  have J80 : ∀ (x3_j80 : Int32) (M_bo_j80 : Nat → Int32) (M_bn_j80 : Nat → Int32) (M_sh_j80 : Nat → Int32) (M_in_j80 : Nat → Int32) (M_su_j80 : Nat → Int32) (M_gr_j80 : Nat → Int32) (M_tr_j80 : Nat → Int32) (M_ou_j80 : Nat → Int32) (M_om_j80 : Int32), (m_X12_entryCharacter_J80 x2 x3_j80 M_s M_bo_j80 M_bn_j80 M_sh_j80 M_in_j80 M_su_j80 M_gr_j80 M_tr_j80 M_ou_j80 M_om_j80 = some o) → ∀ (H : Heap) (locs : List Loc) (ls : Array Slot), va_P D vwCl (w_X12_entryCharacter cI cZ aM aM_s aM_ke aM_te aM_re aM_bo aM_bn aM_sh aM_in aM_su aM_gr aM_tr aM_ou aM_ro M_s M_km M_n M_be M_ma M_so M_bo_j80 M_bn_j80 M_sh_j80 M_in_j80 M_su_j80 M_gr_j80 M_tr_j80 M_ou_j80 M_om_j80) H → va_D A (w_X12_entryCharacter cI cZ aM aM_s aM_ke aM_te aM_re aM_bo aM_bn aM_sh aM_in aM_su aM_gr aM_tr aM_ou aM_ro M_s M_km M_n M_be M_ma M_so M_bo_j80 M_bn_j80 M_sh_j80 M_in_j80 M_su_j80 M_gr_j80 M_tr_j80 M_ou_j80 M_om_j80) → va_S A s.heap H locs → lv_has ls 4 [(0, .ref aM), (2, .int x2), (3, .int x3_j80)] → W p l e rm_X12_entryCharacter s m args below meth c H locs 0 0 Q (F0 m 80 ls []) := by
    intro x3_j80 M_bo_j80 M_bn_j80 M_sh_j80 M_in_j80 M_su_j80 M_gr_j80 M_tr_j80 M_ou_j80 M_om_j80 hm H locs ls hP hD hS hl
    refine lv_aload_n hx hb dX12_entryCharacter_80 rfl (lv_at hl 0 rfl) ?_
    refine lv_iload_n hx hb dX12_entryCharacter_81 rfl (lv_at hl 2 rfl) ?_
    refine lv_aload_n hx hb dX12_entryCharacter_82 rfl (lv_at hl 0 rfl) ?_
    refine lv_iload_n hx hb dX12_entryCharacter_83 rfl (lv_at hl 2 rfl) ?_
    replace hm := bd_some hm
    obtain ⟨e7, hc7, hm⟩ := hm
    refine kV_i (rest := [.int x3_j80, .ref aM]) (ws' := (w_X12_entryCharacter cI cZ aM aM_s aM_ke aM_te aM_re aM_bo aM_bn aM_sh aM_in aM_su aM_gr aM_tr aM_ou aM_ro M_s M_km M_n M_be M_ma M_so M_bo_j80 M_bn_j80 M_sh_j80 M_in_j80 M_su_j80 M_gr_j80 M_tr_j80 M_ou_j80 M_om_j80)) S (c_X12_authors l D cI cJ cZ cS aM aM_s aM_ke aM_te aM_re aM_bo aM_bn aM_sh aM_in aM_su aM_gr aM_tr aM_ou aM_ro M_s M_km M_n M_be M_ma M_so M_om_j80 x3_j80 e7 hc7) k6 hK hP hD hS hA 0 rfl rfl rfl rfl hl.1 rfl (Nat.le_of_ble_eq_true rfl) ⟨Nat.zero_le _, Nat.zero_le _⟩ dX12_entryCharacter_84 [0, 1] rfl rfl wa_X12_authors (sa_eq [(aM_bo, .inl (cI, 8, .inl M_bo_j80)), (aM_bn, .inl (cI, 8, .inl M_bn_j80)), (aM_sh, .inl (cI, 8, .inl M_sh_j80)), (aM_in, .inl (cZ, 8, .inl M_in_j80)), (aM_su, .inl (cI, 8, .inl M_su_j80)), (aM_gr, .inl (cI, 8, .inl M_gr_j80)), (aM_tr, .inl (cI, 8, .inl M_tr_j80)), (aM_ou, .inl (cI, 300, .inl M_ou_j80))] [2, 3, 4, 5, 6, 7, 8, 9] 10 rfl rfl rfl rfl rfl rfl rfl) (fun H locs hP hD hS => ?_)
    refine lv_iconst (v := 1) hx hb dX12_entryCharacter_87 (by decide) ?_
    replace hm := bd_some hm
    obtain ⟨e8, hc8, hm⟩ := hm
    refine kV_v (rest := []) (ws' := (w_X12_entryCharacter cI cZ aM aM_s aM_ke aM_te aM_re aM_bo aM_bn aM_sh aM_in aM_su aM_gr aM_tr aM_ou aM_ro M_s M_km M_n M_be M_ma M_so M_bo_j80 M_bn_j80 M_sh_j80 M_in_j80 M_su_j80 M_gr_j80 M_tr_j80 e8.1 e8.2)) S (c_X12_putAuthors l D cI cJ cZ cS aM aM_s aM_ke aM_te aM_re aM_bo aM_bn aM_sh aM_in aM_su aM_gr aM_tr aM_ou aM_ro M_s M_km M_n M_be M_ma M_so M_ou_j80 M_om_j80 x3_j80 e7 1 e8 hc8) k7 hK hP hD hS hA 0 rfl rfl rfl rfl hl.1 rfl (Nat.le_of_ble_eq_true rfl) ⟨Nat.zero_le _, Nat.zero_le _⟩ dX12_entryCharacter_88 [0, 1, 9] rfl rfl wa_X12_putAuthors (sa_eq [(aM_bo, .inl (cI, 8, .inl M_bo_j80)), (aM_bn, .inl (cI, 8, .inl M_bn_j80)), (aM_sh, .inl (cI, 8, .inl M_sh_j80)), (aM_in, .inl (cZ, 8, .inl M_in_j80)), (aM_su, .inl (cI, 8, .inl M_su_j80)), (aM_gr, .inl (cI, 8, .inl M_gr_j80)), (aM_tr, .inl (cI, 8, .inl M_tr_j80))] [2, 3, 4, 5, 6, 7, 8] 10 rfl rfl rfl rfl rfl rfl rfl) (fun H locs hP hD hS => ?_)
    refine lv_aload_n hx hb dX12_entryCharacter_91 rfl (lv_at hl 0 rfl) ?_
    refine lv_bipush (v := 40) hx hb dX12_entryCharacter_92 (by decide) ?_
    replace hm := bd_some hm
    obtain ⟨e9, hc9, hm⟩ := hm
    refine kV_v (rest := []) (ws' := (w_X12_entryCharacter cI cZ aM aM_s aM_ke aM_te aM_re aM_bo aM_bn aM_sh aM_in aM_su aM_gr aM_tr aM_ou aM_ro M_s M_km M_n M_be M_ma M_so M_bo_j80 M_bn_j80 M_sh_j80 M_in_j80 M_su_j80 M_gr_j80 M_tr_j80 e9.1 e9.2)) S (c_X12_put l D cI cJ cZ cS aM aM_s aM_ke aM_te aM_re aM_bo aM_bn aM_sh aM_in aM_su aM_gr aM_tr aM_ou aM_ro M_km M_n M_be M_ma M_so e8.1 e8.2 40 e9 hc9) k1 hK hP hD hS hA 0 rfl rfl rfl rfl hl.1 rfl (Nat.le_of_ble_eq_true rfl) ⟨Nat.zero_le _, Nat.zero_le _⟩ dX12_entryCharacter_94 [0, 9] rfl rfl wa_X12_put (sa_eq [(aM_s, .inl (cI, 131, .inl M_s)), (aM_bo, .inl (cI, 8, .inl M_bo_j80)), (aM_bn, .inl (cI, 8, .inl M_bn_j80)), (aM_sh, .inl (cI, 8, .inl M_sh_j80)), (aM_in, .inl (cZ, 8, .inl M_in_j80)), (aM_su, .inl (cI, 8, .inl M_su_j80)), (aM_gr, .inl (cI, 8, .inl M_gr_j80)), (aM_tr, .inl (cI, 8, .inl M_tr_j80))] [1, 2, 3, 4, 5, 6, 7, 8] 10 rfl rfl rfl rfl rfl rfl rfl) (fun H locs hP hD hS => ?_)
    refine lv_aload_n hx hb dX12_entryCharacter_97 rfl (lv_at hl 0 rfl) ?_
    refine lv_iload_n hx hb dX12_entryCharacter_98 rfl (lv_at hl 2 rfl) ?_
    replace hm := bd_some hm
    obtain ⟨e10, hc10, hm⟩ := hm
    refine kV_v (rest := []) (ws' := (w_X12_entryCharacter cI cZ aM aM_s aM_ke aM_te aM_re aM_bo aM_bn aM_sh aM_in aM_su aM_gr aM_tr aM_ou aM_ro M_s M_km M_n M_be M_ma M_so M_bo_j80 M_bn_j80 M_sh_j80 M_in_j80 M_su_j80 M_gr_j80 M_tr_j80 e10.1 e10.2)) S (c_X12_putYear l D cI cJ cZ cS aM aM_s aM_ke aM_te aM_re aM_bo aM_bn aM_sh aM_in aM_su aM_gr aM_tr aM_ou aM_ro M_s M_km M_n M_be M_ma M_so e9.1 e9.2 x3_j80 e10 hc10) k8 hK hP hD hS hA 0 rfl rfl rfl rfl hl.1 rfl (Nat.le_of_ble_eq_true rfl) ⟨Nat.zero_le _, Nat.zero_le _⟩ dX12_entryCharacter_99 [0, 1, 9] rfl rfl wa_X12_putYear (sa_eq [(aM_bo, .inl (cI, 8, .inl M_bo_j80)), (aM_bn, .inl (cI, 8, .inl M_bn_j80)), (aM_sh, .inl (cI, 8, .inl M_sh_j80)), (aM_in, .inl (cZ, 8, .inl M_in_j80)), (aM_su, .inl (cI, 8, .inl M_su_j80)), (aM_gr, .inl (cI, 8, .inl M_gr_j80)), (aM_tr, .inl (cI, 8, .inl M_tr_j80))] [2, 3, 4, 5, 6, 7, 8] 10 rfl rfl rfl rfl rfl rfl rfl) (fun H locs hP hD hS => ?_)
    refine lv_aload_n hx hb dX12_entryCharacter_102 rfl (lv_at hl 0 rfl) ?_
    refine va_get (D := D) (ci := 12) (v := .ref aM_s) (C := RX12) (T := TX12) (N := 19) hx hb hts k4 hown hKv hP 0 rfl rfl 0 (by decide) k9 (fun _ h9 => h9) rfl dX12_entryCharacter_103 ?_
    refine lv_bipush (v := 57) hx hb dX12_entryCharacter_106 (by decide) ?_
    replace hm := ck_some hm
    obtain ⟨h11, hm⟩ := hm
    refine va_iald hx hb hKv hP 1 0 rfl rfl h11 dX12_entryCharacter_108 ?_
    refine lv_if_ne (tgt := 117) hx hb dX12_entryCharacter_109 (by decide) (fun c12 => ?_) (fun c12 => ?_)
    · replace hm := if_f c12 hm
      exact J117 x3_j80 M_bo_j80 M_bn_j80 M_sh_j80 M_in_j80 M_su_j80 M_gr_j80 M_tr_j80 e10.1 e10.2 hm H locs ls hP hD hS (lv_sub hl [0, 1, 2] rfl)
    · replace hm := if_t c12 hm
      refine lv_aload_n hx hb dX12_entryCharacter_112 rfl (lv_at hl 0 rfl) ?_
      refine lv_iload_n hx hb dX12_entryCharacter_113 rfl (lv_at hl 2 rfl) ?_
      replace hm := bd_some hm
      obtain ⟨e13, hc13, hm⟩ := hm
      refine kV_v (rest := []) (ws' := (w_X12_entryCharacter cI cZ aM aM_s aM_ke aM_te aM_re aM_bo aM_bn aM_sh aM_in aM_su aM_gr aM_tr aM_ou aM_ro M_s M_km M_n M_be M_ma M_so M_bo_j80 M_bn_j80 M_sh_j80 M_in_j80 M_su_j80 M_gr_j80 M_tr_j80 e13.1 e13.2)) S (c_X12_putSuffix l D cI cJ cZ cS aM aM_s aM_ke aM_te aM_re aM_bo aM_bn aM_sh aM_in aM_su aM_gr aM_tr aM_ou aM_ro M_km M_n M_be M_ma M_so M_su_j80 e10.1 e10.2 x3_j80 e13 hc13) k10 hK hP hD hS hA 0 rfl rfl rfl rfl hl.1 rfl (Nat.le_of_ble_eq_true rfl) ⟨Nat.zero_le _, Nat.zero_le _⟩ dX12_entryCharacter_114 [0, 6, 9] rfl rfl wa_X12_putSuffix (sa_eq [(aM_s, .inl (cI, 131, .inl M_s)), (aM_bo, .inl (cI, 8, .inl M_bo_j80)), (aM_bn, .inl (cI, 8, .inl M_bn_j80)), (aM_sh, .inl (cI, 8, .inl M_sh_j80)), (aM_in, .inl (cZ, 8, .inl M_in_j80)), (aM_gr, .inl (cI, 8, .inl M_gr_j80)), (aM_tr, .inl (cI, 8, .inl M_tr_j80))] [1, 2, 3, 4, 5, 7, 8] 10 rfl rfl rfl rfl rfl rfl rfl) (fun H locs hP hD hS => ?_)
      exact J117 x3_j80 M_bo_j80 M_bn_j80 M_sh_j80 M_in_j80 M_su_j80 M_gr_j80 M_tr_j80 e13.1 e13.2 hm H locs ls hP hD hS (lv_sub hl [0, 1, 2] rfl)
  refine lv_iload_n hx hb dX12_entryCharacter_0 rfl (lv_at hl 1 rfl) ?_
  refine lv_i2l hx hb dX12_entryCharacter_1 rfl ?_
  refine lv_lconst (v := 0) hx hb dX12_entryCharacter_2 (by decide) ?_
  refine lv_aload_n hx hb dX12_entryCharacter_3 rfl (lv_at hl 0 rfl) ?_
  refine va_get (D := D) (ci := 12) (v := .ref aM_s) (C := RX12) (T := TX12) (N := 19) hx hb hts k4 hown hKv hP 0 rfl rfl 0 (by decide) k9 (fun _ h9 => h9) rfl dX12_entryCharacter_4 ?_
  refine lv_iconst (v := 0) hx hb dX12_entryCharacter_7 (by decide) ?_
  replace hm := ck_some hm
  obtain ⟨h14, hm⟩ := hm
  refine va_iald hx hb hKv hP 1 0 rfl rfl h14 dX12_entryCharacter_8 ?_
  refine lv_iconst (v := 1) hx hb dX12_entryCharacter_9 (by decide) ?_
  refine lv_isub hx hb dX12_entryCharacter_10 ?_
  refine lv_i2l hx hb dX12_entryCharacter_11 rfl ?_
  replace hm := bd_some hm
  obtain ⟨e15, hc15, hm⟩ := hm
  refine kS_i (rest := []) S (c_X12_in l D cI cJ cZ cS (Int32.toInt64 x1) 0 (Int32.toInt64 ((M_s (Int32.toNatClampNeg 0)) - 1)) e15 hc15) k11 hK hP hD hS hA rfl hl.1 rfl (Nat.le_of_ble_eq_true rfl) ⟨Nat.zero_le _, Nat.zero_le _⟩ dX12_entryCharacter_12 (fun H locs hP hD hS => ?_)
  refine lv_if_eq (tgt := 22) hx hb dX12_entryCharacter_15 (by decide) (fun c16 => ?_) (fun c16 => ?_)
  · replace hm := if_t c16 hm
    exact J22 M_bo M_bn M_sh M_in M_su M_gr M_tr M_ou M_om hm H locs ls hP hD hS (lv_sub hl [0] rfl)
  · replace hm := if_f c16 hm
    refine lv_iload_n hx hb dX12_entryCharacter_18 rfl (lv_at hl 2 rfl) ?_
    refine lv_if_ge (tgt := 24) hx hb dX12_entryCharacter_19 (by decide) (fun c17 => ?_) (fun c17 => ?_)
    · replace hm := if_t c17 hm
      refine lv_aload_n hx hb dX12_entryCharacter_24 rfl (lv_at hl 0 rfl) ?_
      replace hm := bd_some hm
      obtain ⟨e18, hc18, hm⟩ := hm
      obtain ⟨e18_0, e18_1, e18_2, e18_3, e18_4, e18_5, e18_6⟩ := e18
      refine kV_v (rest := []) (ws' := (w_X12_entryCharacter cI cZ aM aM_s aM_ke aM_te aM_re aM_bo aM_bn aM_sh aM_in aM_su aM_gr aM_tr aM_ou aM_ro M_s M_km M_n M_be M_ma M_so e18_0 e18_1 e18_2 e18_3 e18_4 e18_5 e18_6 M_ou M_om)) S (c_X12_layLabels l D cI cJ cZ cS aM aM_s aM_ke aM_te aM_re aM_bo aM_bn aM_sh aM_in aM_su aM_gr aM_tr aM_ou aM_ro M_s M_km M_n M_be M_ma M_so M_bo M_bn M_sh M_in M_su M_gr M_tr M_om (e18_0, e18_1, e18_2, e18_3, e18_4, e18_5, e18_6) hc18) k12 hK hP hD hS hA 0 rfl rfl rfl rfl hl.1 rfl (Nat.le_of_ble_eq_true rfl) ⟨Nat.zero_le _, Nat.zero_le _⟩ dX12_entryCharacter_25 [0, 1, 2, 3, 4, 5, 6, 7, 8] rfl rfl wa_X12_layLabels (sa_eq [(aM_ou, .inl (cI, 300, .inl M_ou))] [9] 10 rfl rfl rfl rfl rfl rfl rfl) (fun H locs hP hD hS => ?_)
      refine lv_aload_n hx hb dX12_entryCharacter_28 rfl (lv_at hl 0 rfl) ?_
      refine lv_iconst (v := 0) hx hb dX12_entryCharacter_29 (by decide) ?_
      refine va_put (D := D) (ci := 12) (v := .int 0) (ty := .int) (C := RX12) (T := TX12) (N := 19) hx hb hts k4 tyX12 tyX12_ok nmX12 hown hKv hP hD hS 0 rfl rfl 17 (by decide) k3 (fun _ h9 => h9) rfl (by decide +kernel) rfl rfl (Nat.le_of_ble_eq_true rfl) dX12_entryCharacter_30 (fun H locs hP hD hS => ?_)
      replace hP : va_P D vwCl (w_X12_entryCharacter cI cZ aM aM_s aM_ke aM_te aM_re aM_bo aM_bn aM_sh aM_in aM_su aM_gr aM_tr aM_ou aM_ro M_s M_km M_n M_be M_ma M_so e18_0 e18_1 e18_2 e18_3 e18_4 e18_5 e18_6 M_ou 0) H := hP
      replace hD : va_D A (w_X12_entryCharacter cI cZ aM aM_s aM_ke aM_te aM_re aM_bo aM_bn aM_sh aM_in aM_su aM_gr aM_tr aM_ou aM_ro M_s M_km M_n M_be M_ma M_so e18_0 e18_1 e18_2 e18_3 e18_4 e18_5 e18_6 M_ou 0) := hD
      refine lv_aload_n hx hb dX12_entryCharacter_33 rfl (lv_at hl 0 rfl) ?_
      refine lv_iload_n hx hb dX12_entryCharacter_34 rfl (lv_at hl 1 rfl) ?_
      replace hm := bd_some hm
      obtain ⟨e19, hc19, hm⟩ := hm
      refine kV_i (rest := []) (ws' := (w_X12_entryCharacter cI cZ aM aM_s aM_ke aM_te aM_re aM_bo aM_bn aM_sh aM_in aM_su aM_gr aM_tr aM_ou aM_ro M_s M_km M_n M_be M_ma M_so e18_0 e18_1 e18_2 e18_3 e18_4 e18_5 e18_6 M_ou 0)) S (c_X12_listed l D cI cJ cZ cS aM aM_s aM_ke aM_te aM_re aM_bo aM_bn aM_sh aM_in aM_su aM_gr aM_tr aM_ou aM_ro M_s M_km M_n M_be M_ma M_so e18_0 e18_1 0 x1 e19 hc19) k13 hK hP hD hS hA 0 rfl rfl rfl rfl hl.1 rfl (Nat.le_of_ble_eq_true rfl) ⟨Nat.zero_le _, Nat.zero_le _⟩ dX12_entryCharacter_35 [0, 1, 2, 3] rfl rfl wa_X12_listed (sa_eq [(aM_sh, .inl (cI, 8, .inl e18_2)), (aM_in, .inl (cZ, 8, .inl e18_3)), (aM_su, .inl (cI, 8, .inl e18_4)), (aM_gr, .inl (cI, 8, .inl e18_5)), (aM_tr, .inl (cI, 8, .inl e18_6)), (aM_ou, .inl (cI, 300, .inl M_ou))] [4, 5, 6, 7, 8, 9] 10 rfl rfl rfl rfl rfl rfl rfl) (fun H locs hP hD hS => ?_)
      refine lv_istore_n (lv' := [(3, .int e19), (0, .ref aM), (1, .int x1), (2, .int x2)]) hx hb dX12_entryCharacter_38 rfl hl (by decide) rfl (fun ls hl => ?_)
      refine lv_aload_n hx hb dX12_entryCharacter_39 rfl (lv_at hl 1 rfl) ?_
      refine va_get (D := D) (ci := 12) (v := .ref aM_s) (C := RX12) (T := TX12) (N := 19) hx hb hts k4 hown hKv hP 0 rfl rfl 0 (by decide) k9 (fun _ h9 => h9) rfl dX12_entryCharacter_40 ?_
      refine lv_bipush (v := 57) hx hb dX12_entryCharacter_43 (by decide) ?_
      replace hm := ck_some hm
      obtain ⟨h20, hm⟩ := hm
      refine va_iald hx hb hKv hP 1 0 rfl rfl h20 dX12_entryCharacter_45 ?_
      refine lv_iconst (v := 1) hx hb dX12_entryCharacter_46 (by decide) ?_
      refine lv_icmp_ne (tgt := 80) hx hb dX12_entryCharacter_47 (by decide) (fun c21 => ?_) (fun c21 => ?_)
      · replace hm := if_f c21 hm
        exact J80 e19 e18_0 e18_1 e18_2 e18_3 e18_4 e18_5 e18_6 M_ou 0 hm H locs ls hP hD hS (lv_sub hl [1, 3, 0] rfl)
      · replace hm := if_t c21 hm
        refine lv_aload_n hx hb dX12_entryCharacter_50 rfl (lv_at hl 1 rfl) ?_
        refine lv_bipush (v := 91) hx hb dX12_entryCharacter_51 (by decide) ?_
        replace hm := bd_some hm
        obtain ⟨e22, hc22, hm⟩ := hm
        refine kV_v (rest := []) (ws' := (w_X12_entryCharacter cI cZ aM aM_s aM_ke aM_te aM_re aM_bo aM_bn aM_sh aM_in aM_su aM_gr aM_tr aM_ou aM_ro M_s M_km M_n M_be M_ma M_so e18_0 e18_1 e18_2 e18_3 e18_4 e18_5 e18_6 e22.1 e22.2)) S (c_X12_put l D cI cJ cZ cS aM aM_s aM_ke aM_te aM_re aM_bo aM_bn aM_sh aM_in aM_su aM_gr aM_tr aM_ou aM_ro M_km M_n M_be M_ma M_so M_ou 0 91 e22 hc22) k1 hK hP hD hS hA 0 rfl rfl rfl rfl hl.1 rfl (Nat.le_of_ble_eq_true rfl) ⟨Nat.zero_le _, Nat.zero_le _⟩ dX12_entryCharacter_53 [0, 9] rfl rfl wa_X12_put (sa_eq [(aM_s, .inl (cI, 131, .inl M_s)), (aM_bo, .inl (cI, 8, .inl e18_0)), (aM_bn, .inl (cI, 8, .inl e18_1)), (aM_sh, .inl (cI, 8, .inl e18_2)), (aM_in, .inl (cZ, 8, .inl e18_3)), (aM_su, .inl (cI, 8, .inl e18_4)), (aM_gr, .inl (cI, 8, .inl e18_5)), (aM_tr, .inl (cI, 8, .inl e18_6))] [1, 2, 3, 4, 5, 6, 7, 8] 10 rfl rfl rfl rfl rfl rfl rfl) (fun H locs hP hD hS => ?_)
        refine lv_aload_n hx hb dX12_entryCharacter_56 rfl (lv_at hl 1 rfl) ?_
        refine lv_bipush (v := 48) hx hb dX12_entryCharacter_57 (by decide) ?_
        refine lv_aload_n hx hb dX12_entryCharacter_59 rfl (lv_at hl 1 rfl) ?_
        refine lv_aload_n hx hb dX12_entryCharacter_60 rfl (lv_at hl 1 rfl) ?_
        refine va_get (D := D) (ci := 12) (v := .ref aM_bn) (C := RX12) (T := TX12) (N := 19) hx hb hts k4 hown hKv hP 0 rfl rfl 10 (by decide) k14 (fun _ h9 => h9) rfl dX12_entryCharacter_61 ?_
        refine lv_iload_n hx hb dX12_entryCharacter_64 rfl (lv_at hl 0 rfl) ?_
        replace hm := bd_some hm
        obtain ⟨e23, hc23, hm⟩ := hm
        refine kV_i (rest := [.int 48, .ref aM]) (ws' := (w_X12_entryCharacter cI cZ aM aM_s aM_ke aM_te aM_re aM_bo aM_bn aM_sh aM_in aM_su aM_gr aM_tr aM_ou aM_ro M_s M_km M_n M_be M_ma M_so e18_0 e18_1 e18_2 e18_3 e18_4 e18_5 e18_6 e22.1 e22.2)) S (c_X12_placeIn_bn l D cI cJ cZ cS aM aM_s aM_ke aM_te aM_re aM_bo aM_bn aM_sh aM_in aM_su aM_gr aM_tr aM_ou aM_ro M_km M_n M_be M_ma M_so e18_1 e22.2 e19 e23 hc23) k15 hK hP hD hS hA 0 rfl rfl rfl rfl hl.1 rfl (Nat.le_of_ble_eq_true rfl) ⟨Nat.zero_le _, Nat.zero_le _⟩ dX12_entryCharacter_65 [0, 3] rfl rfl wa_X12_placeIn_bn (sa_eq [(aM_s, .inl (cI, 131, .inl M_s)), (aM_bo, .inl (cI, 8, .inl e18_0)), (aM_sh, .inl (cI, 8, .inl e18_2)), (aM_in, .inl (cZ, 8, .inl e18_3)), (aM_su, .inl (cI, 8, .inl e18_4)), (aM_gr, .inl (cI, 8, .inl e18_5)), (aM_tr, .inl (cI, 8, .inl e18_6)), (aM_ou, .inl (cI, 300, .inl e22.1))] [1, 2, 4, 5, 6, 7, 8, 9] 10 rfl rfl rfl rfl rfl rfl rfl) (fun H locs hP hD hS => ?_)
        refine lv_iadd hx hb dX12_entryCharacter_68 ?_
        refine lv_iconst (v := 1) hx hb dX12_entryCharacter_69 (by decide) ?_
        refine lv_iadd hx hb dX12_entryCharacter_70 ?_
        replace hm := bd_some hm
        obtain ⟨e24, hc24, hm⟩ := hm
        refine kV_v (rest := []) (ws' := (w_X12_entryCharacter cI cZ aM aM_s aM_ke aM_te aM_re aM_bo aM_bn aM_sh aM_in aM_su aM_gr aM_tr aM_ou aM_ro M_s M_km M_n M_be M_ma M_so e18_0 e18_1 e18_2 e18_3 e18_4 e18_5 e18_6 e24.1 e24.2)) S (c_X12_put l D cI cJ cZ cS aM aM_s aM_ke aM_te aM_re aM_bo aM_bn aM_sh aM_in aM_su aM_gr aM_tr aM_ou aM_ro M_km M_n M_be M_ma M_so e22.1 e22.2 ((48 + e23) + 1) e24 hc24) k1 hK hP hD hS hA 0 rfl rfl rfl rfl hl.1 rfl (Nat.le_of_ble_eq_true rfl) ⟨Nat.zero_le _, Nat.zero_le _⟩ dX12_entryCharacter_71 [0, 9] rfl rfl wa_X12_put (sa_eq [(aM_s, .inl (cI, 131, .inl M_s)), (aM_bo, .inl (cI, 8, .inl e18_0)), (aM_bn, .inl (cI, 8, .inl e18_1)), (aM_sh, .inl (cI, 8, .inl e18_2)), (aM_in, .inl (cZ, 8, .inl e18_3)), (aM_su, .inl (cI, 8, .inl e18_4)), (aM_gr, .inl (cI, 8, .inl e18_5)), (aM_tr, .inl (cI, 8, .inl e18_6))] [1, 2, 3, 4, 5, 6, 7, 8] 10 rfl rfl rfl rfl rfl rfl rfl) (fun H locs hP hD hS => ?_)
        refine lv_aload_n hx hb dX12_entryCharacter_74 rfl (lv_at hl 1 rfl) ?_
        refine lv_bipush (v := 93) hx hb dX12_entryCharacter_75 (by decide) ?_
        replace hm := bd_some hm
        obtain ⟨e25, hc25, hm⟩ := hm
        refine kV_v (rest := []) (ws' := (w_X12_entryCharacter cI cZ aM aM_s aM_ke aM_te aM_re aM_bo aM_bn aM_sh aM_in aM_su aM_gr aM_tr aM_ou aM_ro M_s M_km M_n M_be M_ma M_so e18_0 e18_1 e18_2 e18_3 e18_4 e18_5 e18_6 e25.1 e25.2)) S (c_X12_put l D cI cJ cZ cS aM aM_s aM_ke aM_te aM_re aM_bo aM_bn aM_sh aM_in aM_su aM_gr aM_tr aM_ou aM_ro M_km M_n M_be M_ma M_so e24.1 e24.2 93 e25 hc25) k1 hK hP hD hS hA 0 rfl rfl rfl rfl hl.1 rfl (Nat.le_of_ble_eq_true rfl) ⟨Nat.zero_le _, Nat.zero_le _⟩ dX12_entryCharacter_77 [0, 9] rfl rfl wa_X12_put (sa_eq [(aM_s, .inl (cI, 131, .inl M_s)), (aM_bo, .inl (cI, 8, .inl e18_0)), (aM_bn, .inl (cI, 8, .inl e18_1)), (aM_sh, .inl (cI, 8, .inl e18_2)), (aM_in, .inl (cZ, 8, .inl e18_3)), (aM_su, .inl (cI, 8, .inl e18_4)), (aM_gr, .inl (cI, 8, .inl e18_5)), (aM_tr, .inl (cI, 8, .inl e18_6))] [1, 2, 3, 4, 5, 6, 7, 8] 10 rfl rfl rfl rfl rfl rfl rfl) (fun H locs hP hD hS => ?_)
        exact J80 e19 e18_0 e18_1 e18_2 e18_3 e18_4 e18_5 e18_6 e25.1 e25.2 hm H locs ls hP hD hS (lv_sub hl [1, 3, 0] rfl)
    · replace hm := if_f c17 hm
      exact J22 M_bo M_bn M_sh M_in M_su M_gr M_tr M_ou M_om hm H locs ls hP hD hS (lv_sub hl [0] rfl)
set_option maxHeartbeats 4000000 in
set_option maxRecDepth 100000 in
theorem c_X12_workOf (l : Launch) (D : va_G) (cI cJ cZ cS : ClassId) (aM aM_s aM_ke aM_te aM_re aM_bo aM_bn aM_sh aM_in aM_su aM_gr aM_tr aM_ou aM_ro : Nat) (M_km : Int32) (M_n : Int32) (M_be : Int32) (M_ma : Int32) (M_so : Int32) (M_bn : Nat → Int32) (M_om : Int32) (x1 : Int32) (o : Int32) (hm : m_X12_workOf M_bn x1 = some o) : MI l yX12_workOf wsX12_workOf rm_X12_workOf D (TY cI cJ cZ cS) [.ref aM, .int x1] (w_X12_workOf cI aM aM_s aM_ke aM_te aM_re aM_bo aM_bn aM_sh aM_in aM_su aM_gr aM_tr aM_ou aM_ro M_km M_n M_be M_ma M_so M_bn M_om) (w_X12_workOf cI aM aM_s aM_ke aM_te aM_re aM_bo aM_bn aM_sh aM_in aM_su aM_gr aM_tr aM_ou aM_ro M_km M_n M_be M_ma M_so M_bn M_om) (o) := by
  refine MI_of (cc := cX12_workOf) (maxL := 2) (by decide) rfl (Nat.le_of_ble_eq_true rfl) ?_
  intro p e s m args below meth c A Q ls H locs hx hb hml hts hown hK hA hP hD hS hl hret
  have hown : s.vm.findClass RX12 = some m.cls := hown
  have hKv : va_K D vwCl (TY cI cJ cZ cS) s := hK.1
  have hl : lv_has ls 2 [(0, .ref aM), (1, .int x1)] := hl
  have S : CallFix p m c cX12_workOf 2 s args wsX12_workOf RX12 := ⟨hx, hb, hml, hown, hts⟩
  have k1 := hts (.fieldLink RX12 25 "CitationFormatterModel" "byNumber" "[I") (by decide +kernel)
  have k2 : ∀ w ∈ wsX120, w ∈ wsX12_workOf := by decide +kernel
  refine lv_aload_n hx hb dX12_workOf_0 rfl (lv_at hl 0 rfl) ?_
  refine va_get (D := D) (ci := 12) (v := .ref aM_bn) (C := RX12) (T := TX12) (N := 19) hx hb hts k2 hown hKv hP 0 rfl rfl 10 (by decide) k1 (fun _ h9 => h9) rfl dX12_workOf_1 ?_
  refine lv_iload_n hx hb dX12_workOf_4 rfl (lv_at hl 1 rfl) ?_
  refine lv_iconst (v := 1) hx hb dX12_workOf_5 (by decide) ?_
  refine lv_isub hx hb dX12_workOf_6 ?_
  replace hm := ck_some hm
  obtain ⟨h1, hm⟩ := hm
  refine va_iald hx hb hKv hP 1 0 rfl rfl h1 dX12_workOf_7 ?_
  have h9 := Option.some.inj hm
  subst h9
  exact hret H locs _ ls _ hP hD hS rfl dX12_workOf_8
set_option maxHeartbeats 4000000 in
set_option maxRecDepth 100000 in
theorem c_X12_expandNumbers (l : Launch) (D : va_G) (cI cJ cZ cS : ClassId) (aM aM_s aM_ke aM_te aM_re aM_bo aM_bn aM_sh aM_in aM_su aM_gr aM_tr aM_ou aM_ro : Nat) (M_s : Nat → Int32) (M_km : Int32) (M_te : Nat → Int32) (M_n : Int32) (M_be : Int32) (M_ma : Int32) (M_so : Int32) (M_bo : Nat → Int32) (M_bn : Nat → Int32) (M_om : Int32) (o : Int32 × Int32 × (Nat → Int32) × (Nat → Int32)) (hm : m_X12_expandNumbers M_s M_te M_n M_bo M_bn = some o) : MI l yX12_expandNumbers wsX12_expandNumbers rm_X12_expandNumbers D (TY cI cJ cZ cS) [.ref aM] (w_X12_expandNumbers cI aM aM_s aM_ke aM_te aM_re aM_bo aM_bn aM_sh aM_in aM_su aM_gr aM_tr aM_ou aM_ro M_s M_km M_te M_n M_be M_ma M_so M_bo M_bn M_om) (w_X12_expandNumbers cI aM aM_s aM_ke aM_te aM_re aM_bo aM_bn aM_sh aM_in aM_su aM_gr aM_tr aM_ou aM_ro M_s M_km M_te o.2.1 M_be M_ma M_so o.2.2.1 o.2.2.2 M_om) (o.1) := by
  refine MI_of (cc := cX12_expandNumbers) (maxL := 9) (by decide) rfl (Nat.le_of_ble_eq_true rfl) ?_
  intro p e s m args below meth c A Q ls H locs hx hb hml hts hown hK hA hP hD hS hl hret
  have hown : s.vm.findClass RX12 = some m.cls := hown
  have hKv : va_K D vwCl (TY cI cJ cZ cS) s := hK.1
  have hl : lv_has ls 9 [(0, .ref aM)] := hl
  have S : CallFix p m c cX12_expandNumbers 9 s args wsX12_expandNumbers RX12 := ⟨hx, hb, hml, hown, hts⟩
  have k1 : CallW rm_X12_expandNumbers s args RX12 RX12 108 yX12_layNumbers cX12_layNumbers 6 none wsX12_layNumbers rm_X12_layNumbers 0 0 0 := cwV 0 hts gX12_expandNumbers_X12_layNumbers rfl rfl rfl (by decide +kernel) ⟨Nat.le_of_ble_eq_true rfl, Nat.le_of_ble_eq_true rfl⟩
  have k2 := hts (.fieldLink RX12 60 "CitationFormatterModel" "length" "I") (by decide +kernel)
  have k3 : ∀ w ∈ wsX120, w ∈ wsX12_expandNumbers := by decide +kernel
  have k4 : CallW rm_X12_expandNumbers s args RX12 RX12 113 yX12_workOf cX12_workOf 2 (some .int) wsX12_workOf rm_X12_workOf 0 0 1 := cwV 1 hts gX12_expandNumbers_X12_workOf rfl rfl rfl (by decide +kernel) ⟨Nat.le_of_ble_eq_true rfl, Nat.le_of_ble_eq_true rfl⟩
  have k5 := hts (.fieldLink RX12 16 "CitationFormatterModel" "text" "[I") (by decide +kernel)
  have k6 := hts (.constantLong RX12 111 49) (by decide +kernel)
  have k7 := hts (.fieldLink RX12 7 "CitationFormatterModel" "s" "[I") (by decide +kernel)
  have k8 : CallB rm_X12_expandNumbers s args RX12 50 yX12_in cX12_in 6 (some .boolean) wsX12_in rm_X12_in 0 0 3 ∧ (Cond.static yX12_in).before args s = true := va_cwS 3 hts gX12_expandNumbers_X12_in rfl rfl rfl (by decide +kernel) ⟨Nat.le_of_ble_eq_true rfl, Nat.le_of_ble_eq_true rfl⟩
  refine lv_aload_n hx hb dX12_expandNumbers_0 rfl (lv_at hl 0 rfl) ?_
  replace hm := bd_some hm
  obtain ⟨e1, hc1, hm⟩ := hm
  refine kV_v (rest := []) (ws' := (w_X12_expandNumbers cI aM aM_s aM_ke aM_te aM_re aM_bo aM_bn aM_sh aM_in aM_su aM_gr aM_tr aM_ou aM_ro M_s M_km M_te M_n M_be M_ma M_so e1.1 e1.2 M_om)) S (c_X12_layNumbers l D cI cJ cZ cS aM aM_s aM_ke aM_te aM_re aM_bo aM_bn aM_sh aM_in aM_su aM_gr aM_tr aM_ou aM_ro M_s M_km M_n M_be M_ma M_so M_bo M_bn M_om e1 hc1) k1 hK hP hD hS hA 0 rfl rfl rfl rfl hl.1 rfl (Nat.le_of_ble_eq_true rfl) ⟨Nat.zero_le _, Nat.zero_le _⟩ dX12_expandNumbers_1 [0, 1, 3, 4] rfl rfl wa_X12_layNumbers (sa_eq [(aM_te, .inl (cI, 150, .inl M_te))] [2] 5 rfl rfl rfl rfl rfl rfl rfl) (fun H locs hP hD hS => ?_)
  refine lv_iconst (v := 0) hx hb dX12_expandNumbers_4 (by decide) ?_
  refine lv_istore_n (lv' := [(1, .int 0), (0, .ref aM)]) hx hb dX12_expandNumbers_5 rfl hl (by decide) rfl (fun ls hl => ?_)
  refine lv_iconst (v := 0) hx hb dX12_expandNumbers_6 (by decide) ?_
  refine lv_istore_n (lv' := [(2, .int 0), (1, .int 0), (0, .ref aM)]) hx hb dX12_expandNumbers_7 rfl hl (by decide) rfl (fun ls hl => ?_)
  refine lv_iconst (v := 0) hx hb dX12_expandNumbers_8 (by decide) ?_
  refine lv_istore_n (lv' := [(3, .int 0), (2, .int 0), (1, .int 0), (0, .ref aM)]) hx hb dX12_expandNumbers_9 rfl hl (by decide) rfl (fun ls hl => ?_)
  refine lv_iconst (v := 0) hx hb dX12_expandNumbers_10 (by decide) ?_
  refine lv_istore (lv' := [(4, .int 0), (3, .int 0), (2, .int 0), (1, .int 0), (0, .ref aM)]) hx hb dX12_expandNumbers_11 hl (by decide) rfl (fun ls hl => ?_)
  replace hm := bd_some hm
  obtain ⟨e2, hc2, hm⟩ := hm
  have X2_0 : ∀ v2_0, e2 = Sum.inl v2_0 → ∀ (H : Heap) (locs : List Loc) (ls : Array Slot), va_P D vwCl (w_X12_expandNumbers cI aM aM_s aM_ke aM_te aM_re aM_bo aM_bn aM_sh aM_in aM_su aM_gr aM_tr aM_ou aM_ro M_s M_km M_te M_n M_be M_ma M_so e1.1 e1.2 M_om) H → va_D A (w_X12_expandNumbers cI aM aM_s aM_ke aM_te aM_re aM_bo aM_bn aM_sh aM_in aM_su aM_gr aM_tr aM_ou aM_ro M_s M_km M_te M_n M_be M_ma M_so e1.1 e1.2 M_om) → va_S A s.heap H locs → lv_has ls 9 [(0, .ref aM), (4, .int v2_0)] → W p l e rm_X12_expandNumbers s m args below meth c H locs 0 0 Q (F0 m 220 ls []) := by
    intro v2_0 h9 H locs ls hP hD hS hl
    subst h9
    replace hm := el_l hm
    refine lv_bipush (v := (-10)) hx hb dX12_expandNumbers_220 (by decide) ?_
    refine lv_iload hx hb dX12_expandNumbers_222 (lv_at hl 1 rfl) ?_
    refine lv_isub hx hb dX12_expandNumbers_224 ?_
    have h9 := Option.some.inj hm
    subst h9
    exact hret H locs _ ls _ hP hD hS rfl dX12_expandNumbers_225
  have X2_1 : ∀ v2_1, e2 = Sum.inr (v2_1) → ∀ (H : Heap) (locs : List Loc) (ls : Array Slot), va_P D vwCl (w_X12_expandNumbers cI aM aM_s aM_ke aM_te aM_re aM_bo aM_bn aM_sh aM_in aM_su aM_gr aM_tr aM_ou aM_ro M_s M_km M_te M_n M_be M_ma M_so e1.1 e1.2 M_om) H → va_D A (w_X12_expandNumbers cI aM aM_s aM_ke aM_te aM_re aM_bo aM_bn aM_sh aM_in aM_su aM_gr aM_tr aM_ou aM_ro M_s M_km M_te M_n M_be M_ma M_so e1.1 e1.2 M_om) → va_S A s.heap H locs → lv_has ls 9 [(0, .ref aM), (1, .int v2_1.1), (3, .int v2_1.2)] → W p l e rm_X12_expandNumbers s m args below meth c H locs 0 0 Q (F0 m 235 ls []) := by
    intro v2_1 h9 H locs ls hP hD hS hl
    subst h9
    replace hm := el_r hm
    refine lv_iload_n hx hb dX12_expandNumbers_235 rfl (lv_at hl 2 rfl) ?_
    refine lv_iconst (v := 5) hx hb dX12_expandNumbers_236 (by decide) ?_
    refine lv_icmp_eq (tgt := 248) hx hb dX12_expandNumbers_237 (by decide) (fun c3 => ?_) (fun c3 => ?_)
    · replace hm := if_t c3 hm
      refine lv_aload_n hx hb dX12_expandNumbers_248 rfl (lv_at hl 0 rfl) ?_
      refine lv_iconst (v := 0) hx hb dX12_expandNumbers_249 (by decide) ?_
      refine va_put (D := D) (ci := 12) (v := .int 0) (ty := .int) (C := RX12) (T := TX12) (N := 19) hx hb hts k3 tyX12 tyX12_ok nmX12 hown hKv hP hD hS 0 rfl rfl 4 (by decide) k2 (fun _ h9 => h9) rfl (by decide +kernel) rfl rfl (Nat.le_of_ble_eq_true rfl) dX12_expandNumbers_250 (fun H locs hP hD hS => ?_)
      replace hP : va_P D vwCl (w_X12_expandNumbers cI aM aM_s aM_ke aM_te aM_re aM_bo aM_bn aM_sh aM_in aM_su aM_gr aM_tr aM_ou aM_ro M_s M_km M_te 0 M_be M_ma M_so e1.1 e1.2 M_om) H := hP
      replace hD : va_D A (w_X12_expandNumbers cI aM aM_s aM_ke aM_te aM_re aM_bo aM_bn aM_sh aM_in aM_su aM_gr aM_tr aM_ou aM_ro M_s M_km M_te 0 M_be M_ma M_so e1.1 e1.2 M_om) := hD
      refine lv_iload_n hx hb dX12_expandNumbers_253 rfl (lv_at hl 1 rfl) ?_
      have h9 := Option.some.inj hm
      subst h9
      exact hret H locs _ ls _ hP hD hS rfl dX12_expandNumbers_254
    · replace hm := if_f c3 hm
      refine lv_bipush (v := (-10)) hx hb dX12_expandNumbers_240 (by decide) ?_
      refine lv_aload_n hx hb dX12_expandNumbers_242 rfl (lv_at hl 0 rfl) ?_
      refine va_get (D := D) (ci := 12) (v := .int M_n) (C := RX12) (T := TX12) (N := 19) hx hb hts k3 hown hKv hP 0 rfl rfl 4 (by decide) k2 (fun _ h9 => h9) rfl dX12_expandNumbers_243 ?_
      refine lv_isub hx hb dX12_expandNumbers_246 ?_
      have h9 := Option.some.inj hm
      subst h9
      exact hret H locs _ ls _ hP hD hS rfl dX12_expandNumbers_247
  refine it_W (G := fun (st13 : Int32 × Int32 × Int32 × Int32) => ∀ (H : Heap) (locs : List Loc) (ls : Array Slot), va_P D vwCl (w_X12_expandNumbers cI aM aM_s aM_ke aM_te aM_re aM_bo aM_bn aM_sh aM_in aM_su aM_gr aM_tr aM_ou aM_ro M_s M_km M_te M_n M_be M_ma M_so e1.1 e1.2 M_om) H → va_D A (w_X12_expandNumbers cI aM aM_s aM_ke aM_te aM_re aM_bo aM_bn aM_sh aM_in aM_su aM_gr aM_tr aM_ou aM_ro M_s M_km M_te M_n M_be M_ma M_so e1.1 e1.2 M_om) → va_S A s.heap H locs → lv_has ls 9 [(0, .ref aM), (1, .int st13.1), (2, .int st13.2.1), (3, .int st13.2.2.1), (4, .int st13.2.2.2)] → W p l e rm_X12_expandNumbers s m args below meth c H locs 0 0 Q (F0 m 13 ls [])) (e := e2) (fun st13 x hm hG hE => ?_) fu _ hc2 H locs ls hP hD hS (lv_sub hl [4, 3, 2, 1, 0] rfl)
  intro H locs ls hP hD hS hl
  have J215 : ∀ (x1_j215 : Int32) (x2_j215 : Int32) (x4_j215 : Int32) (x7_j215 : Int32), (m_X12_expandNumbers_J215 x1_j215 x2_j215 x4_j215 x7_j215 = some x) → ∀ (H : Heap) (locs : List Loc) (ls : Array Slot), va_P D vwCl (w_X12_expandNumbers cI aM aM_s aM_ke aM_te aM_re aM_bo aM_bn aM_sh aM_in aM_su aM_gr aM_tr aM_ou aM_ro M_s M_km M_te M_n M_be M_ma M_so e1.1 e1.2 M_om) H → va_D A (w_X12_expandNumbers cI aM aM_s aM_ke aM_te aM_re aM_bo aM_bn aM_sh aM_in aM_su aM_gr aM_tr aM_ou aM_ro M_s M_km M_te M_n M_be M_ma M_so e1.1 e1.2 M_om) → va_S A s.heap H locs → lv_has ls 9 [(0, .ref aM), (1, .int x1_j215), (2, .int x2_j215), (4, .int x4_j215), (7, .int x7_j215)] → W p l e rm_X12_expandNumbers s m args below meth c H locs 0 0 Q (F0 m 215 ls []) := by
    intro x1_j215 x2_j215 x4_j215 x7_j215 hm H locs ls hP hD hS hl
    refine lv_iload hx hb dX12_expandNumbers_215 (lv_at hl 4 rfl) ?_
    refine lv_if_ge (tgt := 226) hx hb dX12_expandNumbers_217 (by decide) (fun c4 => ?_) (fun c4 => ?_)
    · replace hm := if_t c4 hm
      refine lv_iload hx hb dX12_expandNumbers_226 (lv_at hl 4 rfl) ?_
      refine lv_istore_n (lv' := [(3, .int x7_j215), (0, .ref aM), (1, .int x1_j215), (2, .int x2_j215), (4, .int x4_j215), (7, .int x7_j215)]) hx hb dX12_expandNumbers_228 rfl hl (by decide) rfl (fun ls hl => ?_)
      refine lv_iinc (v := (x4_j215 + 1)) (lv' := [(4, .int (x4_j215 + 1)), (3, .int x7_j215), (0, .ref aM), (1, .int x1_j215), (2, .int x2_j215), (7, .int x7_j215)]) hx hb dX12_expandNumbers_229 hl (k := 4) rfl rfl (by decide) rfl (fun ls hl => ?_)
      refine lv_goto (tgt := 13) hx hb dX12_expandNumbers_232 (by decide) ?_
      exact hG _ (Option.some.inj hm).symm H locs ls hP hD hS (lv_sub hl [2, 3, 4, 1, 0] rfl)
    · replace hm := if_f c4 hm
      exact X2_0 _ (hE _ (Option.some.inj hm).symm).symm H locs ls hP hD hS (lv_sub hl [0, 3] rfl)
  have J213 : ∀ (x1_j213 : Int32) (x2_j213 : Int32) (x4_j213 : Int32) (y0_j213 : Int32), (m_X12_expandNumbers_J213 x1_j213 x2_j213 x4_j213 y0_j213 = some x) → ∀ (H : Heap) (locs : List Loc) (ls : Array Slot), va_P D vwCl (w_X12_expandNumbers cI aM aM_s aM_ke aM_te aM_re aM_bo aM_bn aM_sh aM_in aM_su aM_gr aM_tr aM_ou aM_ro M_s M_km M_te M_n M_be M_ma M_so e1.1 e1.2 M_om) H → va_D A (w_X12_expandNumbers cI aM aM_s aM_ke aM_te aM_re aM_bo aM_bn aM_sh aM_in aM_su aM_gr aM_tr aM_ou aM_ro M_s M_km M_te M_n M_be M_ma M_so e1.1 e1.2 M_om) → va_S A s.heap H locs → lv_has ls 9 [(0, .ref aM), (1, .int x1_j213), (2, .int x2_j213), (4, .int x4_j213)] → W p l e rm_X12_expandNumbers s m args below meth c H locs 0 0 Q (F0 m 213 ls [.int y0_j213]) := by
    intro x1_j213 x2_j213 x4_j213 y0_j213 hm H locs ls hP hD hS hl
    refine lv_istore (lv' := [(7, .int y0_j213), (0, .ref aM), (1, .int x1_j213), (2, .int x2_j213), (4, .int x4_j213)]) hx hb dX12_expandNumbers_213 hl (by decide) rfl (fun ls hl => ?_)
    exact J215 x1_j213 x2_j213 x4_j213 y0_j213 hm H locs ls hP hD hS (lv_sub hl [1, 2, 3, 4, 0] rfl)
  have J201 : ∀ (x1_j201 : Int32) (x2_j201 : Int32) (x4_j201 : Int32) (x5_j201 : Int32), (m_X12_expandNumbers_J201 x1_j201 x2_j201 x4_j201 x5_j201 = some x) → ∀ (H : Heap) (locs : List Loc) (ls : Array Slot), va_P D vwCl (w_X12_expandNumbers cI aM aM_s aM_ke aM_te aM_re aM_bo aM_bn aM_sh aM_in aM_su aM_gr aM_tr aM_ou aM_ro M_s M_km M_te M_n M_be M_ma M_so e1.1 e1.2 M_om) H → va_D A (w_X12_expandNumbers cI aM aM_s aM_ke aM_te aM_re aM_bo aM_bn aM_sh aM_in aM_su aM_gr aM_tr aM_ou aM_ro M_s M_km M_te M_n M_be M_ma M_so e1.1 e1.2 M_om) → va_S A s.heap H locs → lv_has ls 9 [(0, .ref aM), (1, .int x1_j201), (2, .int x2_j201), (4, .int x4_j201), (5, .int x5_j201)] → W p l e rm_X12_expandNumbers s m args below meth c H locs 0 0 Q (F0 m 201 ls []) := by
    intro x1_j201 x2_j201 x4_j201 x5_j201 hm H locs ls hP hD hS hl
    refine lv_iload hx hb dX12_expandNumbers_201 (lv_at hl 4 rfl) ?_
    refine lv_bipush (v := 44) hx hb dX12_expandNumbers_203 (by decide) ?_
    refine lv_icmp_ne (tgt := 212) hx hb dX12_expandNumbers_205 (by decide) (fun c5 => ?_) (fun c5 => ?_)
    · replace hm := if_f c5 hm
      refine lv_iconst (v := 5) hx hb dX12_expandNumbers_212 (by decide) ?_
      exact J213 x1_j201 x2_j201 x4_j201 5 hm H locs ls hP hD hS (lv_sub hl [0, 1, 2, 3] rfl)
    · replace hm := if_t c5 hm
      refine lv_iconst (v := 1) hx hb dX12_expandNumbers_208 (by decide) ?_
      refine lv_goto (tgt := 213) hx hb dX12_expandNumbers_209 (by decide) ?_
      exact J213 x1_j201 x2_j201 x4_j201 1 hm H locs ls hP hD hS (lv_sub hl [0, 1, 2, 3] rfl)
  have J187 : ∀ (x1_j187 : Int32) (x2_j187 : Int32) (x4_j187 : Int32) (x5_j187 : Int32) (x7_j187 : Int32), (m_X12_expandNumbers_J187 x1_j187 x2_j187 x4_j187 x5_j187 x7_j187 = some x) → ∀ (H : Heap) (locs : List Loc) (ls : Array Slot), va_P D vwCl (w_X12_expandNumbers cI aM aM_s aM_ke aM_te aM_re aM_bo aM_bn aM_sh aM_in aM_su aM_gr aM_tr aM_ou aM_ro M_s M_km M_te M_n M_be M_ma M_so e1.1 e1.2 M_om) H → va_D A (w_X12_expandNumbers cI aM aM_s aM_ke aM_te aM_re aM_bo aM_bn aM_sh aM_in aM_su aM_gr aM_tr aM_ou aM_ro M_s M_km M_te M_n M_be M_ma M_so e1.1 e1.2 M_om) → va_S A s.heap H locs → lv_has ls 9 [(0, .ref aM), (1, .int x1_j187), (2, .int x2_j187), (4, .int x4_j187), (5, .int x5_j187), (7, .int x7_j187)] → W p l e rm_X12_expandNumbers s m args below meth c H locs 0 0 Q (F0 m 187 ls []) := by
    intro x1_j187 x2_j187 x4_j187 x5_j187 x7_j187 hm H locs ls hP hD hS hl
    refine lv_iload hx hb dX12_expandNumbers_187 (lv_at hl 4 rfl) ?_
    refine lv_bipush (v := 44) hx hb dX12_expandNumbers_189 (by decide) ?_
    refine lv_icmp_eq (tgt := 201) hx hb dX12_expandNumbers_191 (by decide) (fun c6 => ?_) (fun c6 => ?_)
    · replace hm := if_t c6 hm
      exact J201 x1_j187 x2_j187 x4_j187 x5_j187 hm H locs ls hP hD hS (lv_sub hl [0, 1, 2, 3, 4] rfl)
    · replace hm := if_f c6 hm
      refine lv_iload hx hb dX12_expandNumbers_194 (lv_at hl 4 rfl) ?_
      refine lv_bipush (v := 93) hx hb dX12_expandNumbers_196 (by decide) ?_
      refine lv_icmp_ne (tgt := 215) hx hb dX12_expandNumbers_198 (by decide) (fun c7 => ?_) (fun c7 => ?_)
      · replace hm := if_f c7 hm
        exact J215 x1_j187 x2_j187 x4_j187 x7_j187 hm H locs ls hP hD hS (lv_sub hl [0, 1, 2, 3, 5] rfl)
      · replace hm := if_t c7 hm
        exact J201 x1_j187 x2_j187 x4_j187 x5_j187 hm H locs ls hP hD hS (lv_sub hl [0, 1, 2, 3, 4] rfl)
  have J177 : ∀ (x1_j177 : Int32) (x2_j177 : Int32) (x3_j177 : Int32) (x4_j177 : Int32) (x5_j177 : Int32) (x7_j177 : Int32), (m_X12_expandNumbers_J177 x1_j177 x2_j177 x3_j177 x4_j177 x5_j177 x7_j177 = some x) → ∀ (H : Heap) (locs : List Loc) (ls : Array Slot), va_P D vwCl (w_X12_expandNumbers cI aM aM_s aM_ke aM_te aM_re aM_bo aM_bn aM_sh aM_in aM_su aM_gr aM_tr aM_ou aM_ro M_s M_km M_te M_n M_be M_ma M_so e1.1 e1.2 M_om) H → va_D A (w_X12_expandNumbers cI aM aM_s aM_ke aM_te aM_re aM_bo aM_bn aM_sh aM_in aM_su aM_gr aM_tr aM_ou aM_ro M_s M_km M_te M_n M_be M_ma M_so e1.1 e1.2 M_om) → va_S A s.heap H locs → lv_has ls 9 [(0, .ref aM), (1, .int x1_j177), (2, .int x2_j177), (3, .int x3_j177), (4, .int x4_j177), (5, .int x5_j177), (7, .int x7_j177)] → W p l e rm_X12_expandNumbers s m args below meth c H locs 0 0 Q (F0 m 177 ls []) := by
    intro x1_j177 x2_j177 x3_j177 x4_j177 x5_j177 x7_j177 hm H locs ls hP hD hS hl
    refine lv_iload_n hx hb dX12_expandNumbers_177 rfl (lv_at hl 3 rfl) ?_
    refine lv_iconst (v := 2) hx hb dX12_expandNumbers_178 (by decide) ?_
    refine lv_icmp_eq (tgt := 187) hx hb dX12_expandNumbers_179 (by decide) (fun c8 => ?_) (fun c8 => ?_)
    · replace hm := if_t c8 hm
      exact J187 x1_j177 x2_j177 x4_j177 x5_j177 x7_j177 hm H locs ls hP hD hS (lv_sub hl [0, 1, 2, 4, 5, 6] rfl)
    · replace hm := if_f c8 hm
      refine lv_iload_n hx hb dX12_expandNumbers_182 rfl (lv_at hl 3 rfl) ?_
      refine lv_iconst (v := 4) hx hb dX12_expandNumbers_183 (by decide) ?_
      refine lv_icmp_ne (tgt := 215) hx hb dX12_expandNumbers_184 (by decide) (fun c9 => ?_) (fun c9 => ?_)
      · replace hm := if_f c9 hm
        exact J215 x1_j177 x2_j177 x4_j177 x7_j177 hm H locs ls hP hD hS (lv_sub hl [0, 1, 2, 4, 6] rfl)
      · replace hm := if_t c9 hm
        exact J187 x1_j177 x2_j177 x4_j177 x5_j177 x7_j177 hm H locs ls hP hD hS (lv_sub hl [0, 1, 2, 4, 5, 6] rfl)
  have J159 : ∀ (x1_j159 : Int32) (x2_j159 : Int32) (x3_j159 : Int32) (x4_j159 : Int32) (x5_j159 : Int32) (x7_j159 : Int32), (m_X12_expandNumbers_J159 x1_j159 x2_j159 x3_j159 x4_j159 x5_j159 x7_j159 = some x) → ∀ (H : Heap) (locs : List Loc) (ls : Array Slot), va_P D vwCl (w_X12_expandNumbers cI aM aM_s aM_ke aM_te aM_re aM_bo aM_bn aM_sh aM_in aM_su aM_gr aM_tr aM_ou aM_ro M_s M_km M_te M_n M_be M_ma M_so e1.1 e1.2 M_om) H → va_D A (w_X12_expandNumbers cI aM aM_s aM_ke aM_te aM_re aM_bo aM_bn aM_sh aM_in aM_su aM_gr aM_tr aM_ou aM_ro M_s M_km M_te M_n M_be M_ma M_so e1.1 e1.2 M_om) → va_S A s.heap H locs → lv_has ls 9 [(0, .ref aM), (1, .int x1_j159), (2, .int x2_j159), (3, .int x3_j159), (4, .int x4_j159), (5, .int x5_j159), (7, .int x7_j159)] → W p l e rm_X12_expandNumbers s m args below meth c H locs 0 0 Q (F0 m 159 ls []) := by
    intro x1_j159 x2_j159 x3_j159 x4_j159 x5_j159 x7_j159 hm H locs ls hP hD hS hl
    refine lv_iload_n hx hb dX12_expandNumbers_159 rfl (lv_at hl 3 rfl) ?_
    refine lv_iconst (v := 2) hx hb dX12_expandNumbers_160 (by decide) ?_
    refine lv_icmp_ne (tgt := 177) hx hb dX12_expandNumbers_161 (by decide) (fun c10 => ?_) (fun c10 => ?_)
    · replace hm := if_f c10 hm
      exact J177 x1_j159 x2_j159 x3_j159 x4_j159 x5_j159 x7_j159 hm H locs ls hP hD hS (lv_sub hl [0, 1, 2, 3, 4, 5, 6] rfl)
    · replace hm := if_t c10 hm
      refine lv_iload hx hb dX12_expandNumbers_164 (lv_at hl 5 rfl) ?_
      refine lv_bipush (v := 45) hx hb dX12_expandNumbers_166 (by decide) ?_
      refine lv_icmp_ne (tgt := 177) hx hb dX12_expandNumbers_168 (by decide) (fun c11 => ?_) (fun c11 => ?_)
      · replace hm := if_f c11 hm
        exact J177 x1_j159 x2_j159 x3_j159 x4_j159 x5_j159 x7_j159 hm H locs ls hP hD hS (lv_sub hl [0, 1, 2, 3, 4, 5, 6] rfl)
      · replace hm := if_t c11 hm
        refine lv_iconst (v := 3) hx hb dX12_expandNumbers_171 (by decide) ?_
        refine lv_istore (lv' := [(7, .int 3), (0, .ref aM), (1, .int x1_j159), (2, .int x2_j159), (3, .int x3_j159), (4, .int x4_j159), (5, .int x5_j159)]) hx hb dX12_expandNumbers_172 hl (by decide) rfl (fun ls hl => ?_)
        refine lv_goto (tgt := 215) hx hb dX12_expandNumbers_174 (by decide) ?_
        exact J215 x1_j159 x2_j159 x4_j159 3 hm H locs ls hP hD hS (lv_sub hl [1, 2, 3, 5, 0] rfl)
  have J104 : ∀ (x1_j104 : Int32) (x2_j104 : Int32) (x3_j104 : Int32) (x4_j104 : Int32) (x5_j104 : Int32) (x6_j104 : Int32) (x7_j104 : Int32), (m_X12_expandNumbers_J104 x1_j104 x2_j104 x3_j104 x4_j104 x5_j104 x6_j104 x7_j104 e1.2 = some x) → ∀ (H : Heap) (locs : List Loc) (ls : Array Slot), va_P D vwCl (w_X12_expandNumbers cI aM aM_s aM_ke aM_te aM_re aM_bo aM_bn aM_sh aM_in aM_su aM_gr aM_tr aM_ou aM_ro M_s M_km M_te M_n M_be M_ma M_so e1.1 e1.2 M_om) H → va_D A (w_X12_expandNumbers cI aM aM_s aM_ke aM_te aM_re aM_bo aM_bn aM_sh aM_in aM_su aM_gr aM_tr aM_ou aM_ro M_s M_km M_te M_n M_be M_ma M_so e1.1 e1.2 M_om) → va_S A s.heap H locs → lv_has ls 9 [(0, .ref aM), (1, .int x1_j104), (2, .int x2_j104), (3, .int x3_j104), (4, .int x4_j104), (5, .int x5_j104), (6, .int x6_j104), (7, .int x7_j104)] → W p l e rm_X12_expandNumbers s m args below meth c H locs 0 0 Q (F0 m 104 ls []) := by
    intro x1_j104 x2_j104 x3_j104 x4_j104 x5_j104 x6_j104 x7_j104 hm H locs ls hP hD hS hl
    refine lv_iload_n hx hb dX12_expandNumbers_104 rfl (lv_at hl 3 rfl) ?_
    refine lv_iconst (v := 3) hx hb dX12_expandNumbers_105 (by decide) ?_
    refine lv_icmp_ne (tgt := 159) hx hb dX12_expandNumbers_106 (by decide) (fun c12 => ?_) (fun c12 => ?_)
    · replace hm := if_f c12 hm
      exact J159 x1_j104 x2_j104 x3_j104 x4_j104 x5_j104 x7_j104 hm H locs ls hP hD hS (lv_sub hl [0, 1, 2, 3, 4, 5, 7] rfl)
    · replace hm := if_t c12 hm
      refine lv_iload hx hb dX12_expandNumbers_109 (lv_at hl 6 rfl) ?_
      refine lv_if_eq (tgt := 159) hx hb dX12_expandNumbers_111 (by decide) (fun c13 => ?_) (fun c13 => ?_)
      · replace hm := if_t c13 hm
        exact J159 x1_j104 x2_j104 x3_j104 x4_j104 x5_j104 x7_j104 hm H locs ls hP hD hS (lv_sub hl [0, 1, 2, 3, 4, 5, 7] rfl)
      · replace hm := if_f c13 hm
        refine lv_iload hx hb dX12_expandNumbers_114 (lv_at hl 5 rfl) ?_
        refine lv_bipush (v := 48) hx hb dX12_expandNumbers_116 (by decide) ?_
        refine lv_isub hx hb dX12_expandNumbers_118 ?_
        refine lv_iload_n hx hb dX12_expandNumbers_119 rfl (lv_at hl 2 rfl) ?_
        refine lv_icmp_le (tgt := 159) hx hb dX12_expandNumbers_120 (by decide) (fun c14 => ?_) (fun c14 => ?_)
        · replace hm := if_t c14 hm
          exact J159 x1_j104 x2_j104 x3_j104 x4_j104 x5_j104 x7_j104 hm H locs ls hP hD hS (lv_sub hl [0, 1, 2, 3, 4, 5, 7] rfl)
        · replace hm := if_f c14 hm
          refine lv_iconst (v := 4) hx hb dX12_expandNumbers_123 (by decide) ?_
          refine lv_istore (lv' := [(7, .int 4), (0, .ref aM), (1, .int x1_j104), (2, .int x2_j104), (3, .int x3_j104), (4, .int x4_j104), (5, .int x5_j104), (6, .int x6_j104)]) hx hb dX12_expandNumbers_124 hl (by decide) rfl (fun ls hl => ?_)
          refine lv_iload_n hx hb dX12_expandNumbers_126 rfl (lv_at hl 3 rfl) ?_
          refine lv_istore (lv' := [(8, .int x2_j104), (7, .int 4), (0, .ref aM), (1, .int x1_j104), (2, .int x2_j104), (3, .int x3_j104), (4, .int x4_j104), (5, .int x5_j104), (6, .int x6_j104)]) hx hb dX12_expandNumbers_127 hl (by decide) rfl (fun ls hl => ?_)
          replace hm := bd_some hm
          obtain ⟨e15, hc15, hm⟩ := hm
          have X15_0 : ∀ (H : Heap) (locs : List Loc) (ls : Array Slot), va_P D vwCl (w_X12_expandNumbers cI aM aM_s aM_ke aM_te aM_re aM_bo aM_bn aM_sh aM_in aM_su aM_gr aM_tr aM_ou aM_ro M_s M_km M_te M_n M_be M_ma M_so e1.1 e1.2 M_om) H → va_D A (w_X12_expandNumbers cI aM aM_s aM_ke aM_te aM_re aM_bo aM_bn aM_sh aM_in aM_su aM_gr aM_tr aM_ou aM_ro M_s M_km M_te M_n M_be M_ma M_so e1.1 e1.2 M_om) → va_S A s.heap H locs → lv_has ls 9 [(0, .ref aM), (1, .int e15), (2, .int x2_j104), (4, .int x4_j104), (7, .int 4)] → W p l e rm_X12_expandNumbers s m args below meth c H locs 0 0 Q (F0 m 156 ls []) := by
            intro H locs ls hP hD hS hl
            refine lv_goto (tgt := 215) hx hb dX12_expandNumbers_156 (by decide) ?_
            exact J215 e15 x2_j104 x4_j104 4 hm H locs ls hP hD hS (lv_sub hl [0, 1, 2, 3, 4] rfl)
          refine it_W (G := fun (st129 : Int32 × Int32) => ∀ (H : Heap) (locs : List Loc) (ls : Array Slot), va_P D vwCl (w_X12_expandNumbers cI aM aM_s aM_ke aM_te aM_re aM_bo aM_bn aM_sh aM_in aM_su aM_gr aM_tr aM_ou aM_ro M_s M_km M_te M_n M_be M_ma M_so e1.1 e1.2 M_om) H → va_D A (w_X12_expandNumbers cI aM aM_s aM_ke aM_te aM_re aM_bo aM_bn aM_sh aM_in aM_su aM_gr aM_tr aM_ou aM_ro M_s M_km M_te M_n M_be M_ma M_so e1.1 e1.2 M_om) → va_S A s.heap H locs → lv_has ls 9 [(0, .ref aM), (1, .int st129.1), (2, .int x2_j104), (4, .int x4_j104), (5, .int x5_j104), (7, .int 4), (8, .int st129.2)] → W p l e rm_X12_expandNumbers s m args below meth c H locs 0 0 Q (F0 m 129 ls [])) (e := e15) (fun st129 x hm hG hE => ?_) fu _ hc15 H locs ls hP hD hS (lv_sub hl [2, 3, 4, 6, 7, 1, 0] rfl)
          intro H locs ls hP hD hS hl
          refine lv_iload hx hb dX12_expandNumbers_129 (lv_at hl 6 rfl) ?_
          refine lv_iload hx hb dX12_expandNumbers_131 (lv_at hl 4 rfl) ?_
          refine lv_bipush (v := 48) hx hb dX12_expandNumbers_133 (by decide) ?_
          refine lv_isub hx hb dX12_expandNumbers_135 ?_
          refine lv_icmp_gt (tgt := 156) hx hb dX12_expandNumbers_136 (by decide) (fun c16 => ?_) (fun c16 => ?_)
          · replace hm := if_t c16 hm
            have h9 := hE _ (Option.some.inj hm).symm
            subst h9
            exact X15_0 H locs ls hP hD hS (lv_sub hl [0, 1, 2, 3, 5] rfl)
          · replace hm := if_f c16 hm
            refine lv_iload_n hx hb dX12_expandNumbers_139 rfl (lv_at hl 1 rfl) ?_
            refine lv_iconst (v := 1) hx hb dX12_expandNumbers_140 (by decide) ?_
            refine lv_aload_n hx hb dX12_expandNumbers_141 rfl (lv_at hl 0 rfl) ?_
            refine lv_iload hx hb dX12_expandNumbers_142 (lv_at hl 6 rfl) ?_
            replace hm := bd_some hm
            obtain ⟨e17, hc17, hm⟩ := hm
            refine kV_i (rest := [.int 1, .int st129.1]) (ws' := (w_X12_expandNumbers cI aM aM_s aM_ke aM_te aM_re aM_bo aM_bn aM_sh aM_in aM_su aM_gr aM_tr aM_ou aM_ro M_s M_km M_te M_n M_be M_ma M_so e1.1 e1.2 M_om)) S (c_X12_workOf l D cI cJ cZ cS aM aM_s aM_ke aM_te aM_re aM_bo aM_bn aM_sh aM_in aM_su aM_gr aM_tr aM_ou aM_ro M_km M_n M_be M_ma M_so e1.2 M_om st129.2 e17 hc17) k4 hK hP hD hS hA 0 rfl rfl rfl rfl hl.1 rfl (Nat.le_of_ble_eq_true rfl) ⟨Nat.zero_le _, Nat.zero_le _⟩ dX12_expandNumbers_144 [0, 4] rfl rfl wa_X12_workOf (sa_eq [(aM_s, .inl (cI, 131, .inl M_s)), (aM_te, .inl (cI, 150, .inl M_te)), (aM_bo, .inl (cI, 8, .inl e1.1))] [1, 2, 3] 5 rfl rfl rfl rfl rfl rfl rfl) (fun H locs hP hD hS => ?_)
            refine lv_ishl hx hb dX12_expandNumbers_147 ?_
            refine lv_ior hx hb dX12_expandNumbers_148 ?_
            refine lv_istore_n (lv' := [(1, .int (st129.1 ||| (1 <<< (e17 &&& 31)))), (0, .ref aM), (2, .int x2_j104), (4, .int x4_j104), (5, .int x5_j104), (7, .int 4), (8, .int st129.2)]) hx hb dX12_expandNumbers_149 rfl hl (by decide) rfl (fun ls hl => ?_)
            refine lv_iinc (v := (st129.2 + 1)) (lv' := [(8, .int (st129.2 + 1)), (1, .int (st129.1 ||| (1 <<< (e17 &&& 31)))), (0, .ref aM), (2, .int x2_j104), (4, .int x4_j104), (5, .int x5_j104), (7, .int 4)]) hx hb dX12_expandNumbers_150 hl (k := 6) rfl rfl (by decide) rfl (fun ls hl => ?_)
            refine lv_goto (tgt := 129) hx hb dX12_expandNumbers_153 (by decide) ?_
            exact hG _ (Option.some.inj hm).symm H locs ls hP hD hS (lv_sub hl [2, 1, 3, 4, 5, 6, 0] rfl)
  have J72 : ∀ (x1_j72 : Int32) (x2_j72 : Int32) (x3_j72 : Int32) (x4_j72 : Int32) (x5_j72 : Int32) (x6_j72 : Int32) (x7_j72 : Int32), (m_X12_expandNumbers_J72 x1_j72 x2_j72 x3_j72 x4_j72 x5_j72 x6_j72 x7_j72 e1.2 = some x) → ∀ (H : Heap) (locs : List Loc) (ls : Array Slot), va_P D vwCl (w_X12_expandNumbers cI aM aM_s aM_ke aM_te aM_re aM_bo aM_bn aM_sh aM_in aM_su aM_gr aM_tr aM_ou aM_ro M_s M_km M_te M_n M_be M_ma M_so e1.1 e1.2 M_om) H → va_D A (w_X12_expandNumbers cI aM aM_s aM_ke aM_te aM_re aM_bo aM_bn aM_sh aM_in aM_su aM_gr aM_tr aM_ou aM_ro M_s M_km M_te M_n M_be M_ma M_so e1.1 e1.2 M_om) → va_S A s.heap H locs → lv_has ls 9 [(0, .ref aM), (1, .int x1_j72), (2, .int x2_j72), (3, .int x3_j72), (4, .int x4_j72), (5, .int x5_j72), (6, .int x6_j72), (7, .int x7_j72)] → W p l e rm_X12_expandNumbers s m args below meth c H locs 0 0 Q (F0 m 72 ls []) := by
    intro x1_j72 x2_j72 x3_j72 x4_j72 x5_j72 x6_j72 x7_j72 hm H locs ls hP hD hS hl
    refine lv_iload_n hx hb dX12_expandNumbers_72 rfl (lv_at hl 3 rfl) ?_
    refine lv_iconst (v := 1) hx hb dX12_expandNumbers_73 (by decide) ?_
    refine lv_icmp_ne (tgt := 104) hx hb dX12_expandNumbers_74 (by decide) (fun c18 => ?_) (fun c18 => ?_)
    · replace hm := if_f c18 hm
      exact J104 x1_j72 x2_j72 x3_j72 x4_j72 x5_j72 x6_j72 x7_j72 hm H locs ls hP hD hS (lv_sub hl [0, 1, 2, 3, 4, 5, 6, 7] rfl)
    · replace hm := if_t c18 hm
      refine lv_iload hx hb dX12_expandNumbers_77 (lv_at hl 6 rfl) ?_
      refine lv_if_eq (tgt := 104) hx hb dX12_expandNumbers_79 (by decide) (fun c19 => ?_) (fun c19 => ?_)
      · replace hm := if_t c19 hm
        exact J104 x1_j72 x2_j72 x3_j72 x4_j72 x5_j72 x6_j72 x7_j72 hm H locs ls hP hD hS (lv_sub hl [0, 1, 2, 3, 4, 5, 6, 7] rfl)
      · replace hm := if_f c19 hm
        refine lv_iconst (v := 2) hx hb dX12_expandNumbers_82 (by decide) ?_
        refine lv_istore (lv' := [(7, .int 2), (0, .ref aM), (1, .int x1_j72), (2, .int x2_j72), (3, .int x3_j72), (4, .int x4_j72), (5, .int x5_j72), (6, .int x6_j72)]) hx hb dX12_expandNumbers_83 hl (by decide) rfl (fun ls hl => ?_)
        refine lv_iload hx hb dX12_expandNumbers_85 (lv_at hl 6 rfl) ?_
        refine lv_bipush (v := 48) hx hb dX12_expandNumbers_87 (by decide) ?_
        refine lv_isub hx hb dX12_expandNumbers_89 ?_
        refine lv_istore_n (lv' := [(2, .int (x5_j72 - 48)), (7, .int 2), (0, .ref aM), (1, .int x1_j72), (3, .int x3_j72), (4, .int x4_j72), (5, .int x5_j72), (6, .int x6_j72)]) hx hb dX12_expandNumbers_90 rfl hl (by decide) rfl (fun ls hl => ?_)
        refine lv_iload_n hx hb dX12_expandNumbers_91 rfl (lv_at hl 3 rfl) ?_
        refine lv_iconst (v := 1) hx hb dX12_expandNumbers_92 (by decide) ?_
        refine lv_aload_n hx hb dX12_expandNumbers_93 rfl (lv_at hl 2 rfl) ?_
        refine lv_iload_n hx hb dX12_expandNumbers_94 rfl (lv_at hl 0 rfl) ?_
        replace hm := bd_some hm
        obtain ⟨e20, hc20, hm⟩ := hm
        refine kV_i (rest := [.int 1, .int x1_j72]) (ws' := (w_X12_expandNumbers cI aM aM_s aM_ke aM_te aM_re aM_bo aM_bn aM_sh aM_in aM_su aM_gr aM_tr aM_ou aM_ro M_s M_km M_te M_n M_be M_ma M_so e1.1 e1.2 M_om)) S (c_X12_workOf l D cI cJ cZ cS aM aM_s aM_ke aM_te aM_re aM_bo aM_bn aM_sh aM_in aM_su aM_gr aM_tr aM_ou aM_ro M_km M_n M_be M_ma M_so e1.2 M_om (x5_j72 - 48) e20 hc20) k4 hK hP hD hS hA 0 rfl rfl rfl rfl hl.1 rfl (Nat.le_of_ble_eq_true rfl) ⟨Nat.zero_le _, Nat.zero_le _⟩ dX12_expandNumbers_95 [0, 4] rfl rfl wa_X12_workOf (sa_eq [(aM_s, .inl (cI, 131, .inl M_s)), (aM_te, .inl (cI, 150, .inl M_te)), (aM_bo, .inl (cI, 8, .inl e1.1))] [1, 2, 3] 5 rfl rfl rfl rfl rfl rfl rfl) (fun H locs hP hD hS => ?_)
        refine lv_ishl hx hb dX12_expandNumbers_98 ?_
        refine lv_ior hx hb dX12_expandNumbers_99 ?_
        refine lv_istore_n (lv' := [(1, .int (x1_j72 ||| (1 <<< (e20 &&& 31)))), (2, .int (x5_j72 - 48)), (7, .int 2), (0, .ref aM), (3, .int x3_j72), (4, .int x4_j72), (5, .int x5_j72), (6, .int x6_j72)]) hx hb dX12_expandNumbers_100 rfl hl (by decide) rfl (fun ls hl => ?_)
        refine lv_goto (tgt := 215) hx hb dX12_expandNumbers_101 (by decide) ?_
        exact J215 (x1_j72 ||| (1 <<< (e20 &&& 31))) (x5_j72 - 48) x4_j72 2 hm H locs ls hP hD hS (lv_sub hl [3, 0, 1, 5, 2] rfl)
  refine lv_iload hx hb dX12_expandNumbers_13 (lv_at hl 4 rfl) ?_
  refine lv_aload_n hx hb dX12_expandNumbers_15 rfl (lv_at hl 0 rfl) ?_
  refine va_get (D := D) (ci := 12) (v := .int M_n) (C := RX12) (T := TX12) (N := 19) hx hb hts k3 hown hKv hP 0 rfl rfl 4 (by decide) k2 (fun _ h9 => h9) rfl dX12_expandNumbers_16 ?_
  refine lv_icmp_ge (tgt := 235) hx hb dX12_expandNumbers_19 (by decide) (fun c21 => ?_) (fun c21 => ?_)
  · replace hm := if_t c21 hm
    exact X2_1 _ (hE _ (Option.some.inj hm).symm).symm H locs ls hP hD hS (lv_sub hl [0, 1, 3] rfl)
  · replace hm := if_f c21 hm
    refine lv_aload_n hx hb dX12_expandNumbers_22 rfl (lv_at hl 0 rfl) ?_
    refine va_get (D := D) (ci := 12) (v := .ref aM_te) (C := RX12) (T := TX12) (N := 19) hx hb hts k3 hown hKv hP 0 rfl rfl 3 (by decide) k5 (fun _ h9 => h9) rfl dX12_expandNumbers_23 ?_
    refine lv_iload hx hb dX12_expandNumbers_26 (lv_at hl 4 rfl) ?_
    replace hm := ck_some hm
    obtain ⟨h22, hm⟩ := hm
    refine va_iald hx hb hKv hP 2 0 rfl rfl h22 dX12_expandNumbers_28 ?_
    refine lv_istore (lv' := [(5, .int (M_te (Int32.toNatClampNeg st13.2.2.2))), (0, .ref aM), (1, .int st13.1), (2, .int st13.2.1), (3, .int st13.2.2.1), (4, .int st13.2.2.2)]) hx hb dX12_expandNumbers_29 hl (by decide) rfl (fun ls hl => ?_)
    refine lv_iload hx hb dX12_expandNumbers_31 (lv_at hl 0 rfl) ?_
    refine lv_i2l hx hb dX12_expandNumbers_33 rfl ?_
    refine lv_ldc2 hx hb hown k6 dX12_expandNumbers_34 ?_
    refine lv_bipush (v := 48) hx hb dX12_expandNumbers_37 (by decide) ?_
    refine lv_aload_n hx hb dX12_expandNumbers_39 rfl (lv_at hl 1 rfl) ?_
    refine va_get (D := D) (ci := 12) (v := .ref aM_s) (C := RX12) (T := TX12) (N := 19) hx hb hts k3 hown hKv hP 0 rfl rfl 0 (by decide) k7 (fun _ h9 => h9) rfl dX12_expandNumbers_40 ?_
    refine lv_iconst (v := 0) hx hb dX12_expandNumbers_43 (by decide) ?_
    replace hm := ck_some hm
    obtain ⟨h23, hm⟩ := hm
    refine va_iald hx hb hKv hP 1 0 rfl rfl h23 dX12_expandNumbers_44 ?_
    refine lv_iadd hx hb dX12_expandNumbers_45 ?_
    refine lv_i2l hx hb dX12_expandNumbers_46 rfl ?_
    replace hm := bd_some hm
    obtain ⟨e24, hc24, hm⟩ := hm
    refine kS_i (rest := []) S (c_X12_in l D cI cJ cZ cS (Int32.toInt64 (M_te (Int32.toNatClampNeg st13.2.2.2))) 49 (Int32.toInt64 (48 + (M_s (Int32.toNatClampNeg 0)))) e24 hc24) k8 hK hP hD hS hA rfl hl.1 rfl (Nat.le_of_ble_eq_true rfl) ⟨Nat.zero_le _, Nat.zero_le _⟩ dX12_expandNumbers_47 (fun H locs hP hD hS => ?_)
    refine lv_istore (lv' := [(6, .int e24), (5, .int (M_te (Int32.toNatClampNeg st13.2.2.2))), (0, .ref aM), (1, .int st13.1), (2, .int st13.2.1), (3, .int st13.2.2.1), (4, .int st13.2.2.2)]) hx hb dX12_expandNumbers_50 hl (by decide) rfl (fun ls hl => ?_)
    refine lv_iconst (v := (-1)) hx hb dX12_expandNumbers_52 (by decide) ?_
    refine lv_istore (lv' := [(7, .int (-1)), (6, .int e24), (5, .int (M_te (Int32.toNatClampNeg st13.2.2.2))), (0, .ref aM), (1, .int st13.1), (2, .int st13.2.1), (3, .int st13.2.2.1), (4, .int st13.2.2.2)]) hx hb dX12_expandNumbers_53 hl (by decide) rfl (fun ls hl => ?_)
    refine lv_iload_n hx hb dX12_expandNumbers_55 rfl (lv_at hl 6 rfl) ?_
    refine lv_if_ne (tgt := 72) hx hb dX12_expandNumbers_56 (by decide) (fun c25 => ?_) (fun c25 => ?_)
    · replace hm := if_f c25 hm
      exact J72 st13.1 st13.2.1 st13.2.2.1 st13.2.2.2 (M_te (Int32.toNatClampNeg st13.2.2.2)) e24 (-1) hm H locs ls hP hD hS (lv_sub hl [3, 4, 5, 6, 7, 2, 1, 0] rfl)
    · replace hm := if_t c25 hm
      refine lv_iload hx hb dX12_expandNumbers_59 (lv_at hl 2 rfl) ?_
      refine lv_bipush (v := 91) hx hb dX12_expandNumbers_61 (by decide) ?_
      refine lv_icmp_ne (tgt := 72) hx hb dX12_expandNumbers_63 (by decide) (fun c26 => ?_) (fun c26 => ?_)
      · replace hm := if_f c26 hm
        exact J72 st13.1 st13.2.1 st13.2.2.1 st13.2.2.2 (M_te (Int32.toNatClampNeg st13.2.2.2)) e24 (-1) hm H locs ls hP hD hS (lv_sub hl [3, 4, 5, 6, 7, 2, 1, 0] rfl)
      · replace hm := if_t c26 hm
        refine lv_iconst (v := 1) hx hb dX12_expandNumbers_66 (by decide) ?_
        refine lv_istore (lv' := [(7, .int 1), (6, .int e24), (5, .int (M_te (Int32.toNatClampNeg st13.2.2.2))), (0, .ref aM), (1, .int st13.1), (2, .int st13.2.1), (3, .int st13.2.2.1), (4, .int st13.2.2.2)]) hx hb dX12_expandNumbers_67 hl (by decide) rfl (fun ls hl => ?_)
        refine lv_goto (tgt := 215) hx hb dX12_expandNumbers_69 (by decide) ?_
        exact J215 st13.1 st13.2.1 st13.2.2.2 1 hm H locs ls hP hD hS (lv_sub hl [3, 4, 5, 7, 0] rfl)
set_option maxHeartbeats 4000000 in
set_option maxRecDepth 100000 in
theorem c_X12_letterAt (l : Launch) (D : va_G) (cI cJ cZ cS : ClassId) (aM aM_s aM_ke aM_te aM_re aM_bo aM_bn aM_sh aM_in aM_su aM_gr aM_tr aM_ou aM_ro : Nat) (M_km : Int32) (M_te : Nat → Int32) (M_n : Int32) (M_be : Int32) (M_ma : Int32) (M_so : Int32) (M_om : Int32) (x1 : Int32) (o : Int32) (hm : m_X12_letterAt M_te M_n x1 = some o) : MI l yX12_letterAt wsX12_letterAt rm_X12_letterAt D (TY cI cJ cZ cS) [.ref aM, .int x1] (w_X12_letterAt cI aM aM_s aM_ke aM_te aM_re aM_bo aM_bn aM_sh aM_in aM_su aM_gr aM_tr aM_ou aM_ro M_km M_te M_n M_be M_ma M_so M_om) (w_X12_letterAt cI aM aM_s aM_ke aM_te aM_re aM_bo aM_bn aM_sh aM_in aM_su aM_gr aM_tr aM_ou aM_ro M_km M_te M_n M_be M_ma M_so M_om) (o) := by
  refine MI_of (cc := cX12_letterAt) (maxL := 2) (by decide) rfl (Nat.le_of_ble_eq_true rfl) ?_
  intro p e s m args below meth c A Q ls H locs hx hb hml hts hown hK hA hP hD hS hl hret
  have hown : s.vm.findClass RX12 = some m.cls := hown
  have hKv : va_K D vwCl (TY cI cJ cZ cS) s := hK.1
  have hl : lv_has ls 2 [(0, .ref aM), (1, .int x1)] := hl
  have S : CallFix p m c cX12_letterAt 2 s args wsX12_letterAt RX12 := ⟨hx, hb, hml, hown, hts⟩
  have k1 := hts (.fieldLink RX12 60 "CitationFormatterModel" "length" "I") (by decide +kernel)
  have k2 : ∀ w ∈ wsX120, w ∈ wsX12_letterAt := by decide +kernel
  have k3 := hts (.fieldLink RX12 16 "CitationFormatterModel" "text" "[I") (by decide +kernel)
  have J18 : ∀ (y0_j18 : Int32), (m_X12_letterAt_J18 y0_j18 = some o) → ∀ (H : Heap) (locs : List Loc) (ls : Array Slot), va_P D vwCl (w_X12_letterAt cI aM aM_s aM_ke aM_te aM_re aM_bo aM_bn aM_sh aM_in aM_su aM_gr aM_tr aM_ou aM_ro M_km M_te M_n M_be M_ma M_so M_om) H → va_D A (w_X12_letterAt cI aM aM_s aM_ke aM_te aM_re aM_bo aM_bn aM_sh aM_in aM_su aM_gr aM_tr aM_ou aM_ro M_km M_te M_n M_be M_ma M_so M_om) → va_S A s.heap H locs → lv_has ls 2 [(0, .ref aM)] → W p l e rm_X12_letterAt s m args below meth c H locs 0 0 Q (F0 m 18 ls [.int y0_j18]) := by
    intro y0_j18 hm H locs ls hP hD hS hl
    have h9 := Option.some.inj hm
    subst h9
    exact hret H locs _ ls _ hP hD hS rfl dX12_letterAt_18
  refine lv_iload_n hx hb dX12_letterAt_0 rfl (lv_at hl 1 rfl) ?_
  refine lv_aload_n hx hb dX12_letterAt_1 rfl (lv_at hl 0 rfl) ?_
  refine va_get (D := D) (ci := 12) (v := .int M_n) (C := RX12) (T := TX12) (N := 19) hx hb hts k2 hown hKv hP 0 rfl rfl 4 (by decide) k1 (fun _ h9 => h9) rfl dX12_letterAt_2 ?_
  refine lv_icmp_ge (tgt := 17) hx hb dX12_letterAt_5 (by decide) (fun c1 => ?_) (fun c1 => ?_)
  · replace hm := if_t c1 hm
    refine lv_iconst (v := (-1)) hx hb dX12_letterAt_17 (by decide) ?_
    exact J18 (-1) hm H locs ls hP hD hS (lv_sub hl [0] rfl)
  · replace hm := if_f c1 hm
    refine lv_aload_n hx hb dX12_letterAt_8 rfl (lv_at hl 0 rfl) ?_
    refine va_get (D := D) (ci := 12) (v := .ref aM_te) (C := RX12) (T := TX12) (N := 19) hx hb hts k2 hown hKv hP 0 rfl rfl 3 (by decide) k3 (fun _ h9 => h9) rfl dX12_letterAt_9 ?_
    refine lv_iload_n hx hb dX12_letterAt_12 rfl (lv_at hl 1 rfl) ?_
    replace hm := ck_some hm
    obtain ⟨h2, hm⟩ := hm
    refine va_iald hx hb hKv hP 1 0 rfl rfl h2 dX12_letterAt_13 ?_
    refine lv_goto (tgt := 18) hx hb dX12_letterAt_14 (by decide) ?_
    exact J18 (M_te (Int32.toNatClampNeg x1)) hm H locs ls hP hD hS (lv_sub hl [0] rfl)
set_option maxHeartbeats 4000000 in
set_option maxRecDepth 100000 in
theorem c_X12_isFigure (l : Launch) (D : va_G) (cI cJ cZ cS : ClassId) (aM aM_s aM_ke aM_te aM_re aM_bo aM_bn aM_sh aM_in aM_su aM_gr aM_tr aM_ou aM_ro : Nat) (M_km : Int32) (M_te : Nat → Int32) (M_n : Int32) (M_be : Int32) (M_ma : Int32) (M_so : Int32) (M_om : Int32) (x1 : Int32) (o : Int32) (hm : m_X12_isFigure M_te M_n x1 = some o) : MI l yX12_isFigure wsX12_isFigure rm_X12_isFigure D (TY cI cJ cZ cS) [.ref aM, .int x1] (w_X12_isFigure cI aM aM_s aM_ke aM_te aM_re aM_bo aM_bn aM_sh aM_in aM_su aM_gr aM_tr aM_ou aM_ro M_km M_te M_n M_be M_ma M_so M_om) (w_X12_isFigure cI aM aM_s aM_ke aM_te aM_re aM_bo aM_bn aM_sh aM_in aM_su aM_gr aM_tr aM_ou aM_ro M_km M_te M_n M_be M_ma M_so M_om) (o) := by
  refine MZ_of (cc := cX12_isFigure) (maxL := 2) (by decide) rfl (Nat.le_of_ble_eq_true rfl) ?_
  intro p e s m args below meth c A Q ls H locs hx hb hml hts hown hK hA hP hD hS hl hret
  have hown : s.vm.findClass RX12 = some m.cls := hown
  have hKv : va_K D vwCl (TY cI cJ cZ cS) s := hK.1
  have hl : lv_has ls 2 [(0, .ref aM), (1, .int x1)] := hl
  have S : CallFix p m c cX12_isFigure 2 s args wsX12_isFigure RX12 := ⟨hx, hb, hml, hown, hts⟩
  have k1 : CallW rm_X12_isFigure s args RX12 RX12 63 yX12_letterAt cX12_letterAt 2 (some .int) wsX12_letterAt rm_X12_letterAt 0 0 1 := cwV 1 hts gX12_isFigure_X12_letterAt rfl rfl rfl (by decide +kernel) ⟨Nat.le_of_ble_eq_true rfl, Nat.le_of_ble_eq_true rfl⟩
  have k2 := hts (.constantLong RX12 71 48) (by decide +kernel)
  have k3 := hts (.constantLong RX12 73 57) (by decide +kernel)
  have k4 : CallB rm_X12_isFigure s args RX12 50 yX12_in cX12_in 6 (some .boolean) wsX12_in rm_X12_in 0 0 3 ∧ (Cond.static yX12_in).before args s = true := va_cwS 3 hts gX12_isFigure_X12_in rfl rfl rfl (by decide +kernel) ⟨Nat.le_of_ble_eq_true rfl, Nat.le_of_ble_eq_true rfl⟩
  refine lv_aload_n hx hb dX12_isFigure_0 rfl (lv_at hl 0 rfl) ?_
  refine lv_iload_n hx hb dX12_isFigure_1 rfl (lv_at hl 1 rfl) ?_
  replace hm := bd_some hm
  obtain ⟨e1, hc1, hm⟩ := hm
  refine kV_i (rest := []) (ws' := (w_X12_isFigure cI aM aM_s aM_ke aM_te aM_re aM_bo aM_bn aM_sh aM_in aM_su aM_gr aM_tr aM_ou aM_ro M_km M_te M_n M_be M_ma M_so M_om)) S (c_X12_letterAt l D cI cJ cZ cS aM aM_s aM_ke aM_te aM_re aM_bo aM_bn aM_sh aM_in aM_su aM_gr aM_tr aM_ou aM_ro M_km M_te M_n M_be M_ma M_so M_om x1 e1 hc1) k1 hK hP hD hS hA 0 rfl rfl rfl rfl hl.1 rfl (Nat.le_of_ble_eq_true rfl) ⟨Nat.zero_le _, Nat.zero_le _⟩ dX12_isFigure_2 [0, 1] rfl rfl wa_X12_letterAt (sa_eq [] [] 2 rfl rfl rfl rfl rfl rfl rfl) (fun H locs hP hD hS => ?_)
  refine lv_i2l hx hb dX12_isFigure_5 rfl ?_
  refine lv_ldc2 hx hb hown k2 dX12_isFigure_6 ?_
  refine lv_ldc2 hx hb hown k3 dX12_isFigure_9 ?_
  replace hm := bd_some hm
  obtain ⟨e2, hc2, hm⟩ := hm
  refine kS_i (rest := []) S (c_X12_in l D cI cJ cZ cS (Int32.toInt64 e1) 48 57 e2 hc2) k4 hK hP hD hS hA rfl hl.1 rfl (Nat.le_of_ble_eq_true rfl) ⟨Nat.zero_le _, Nat.zero_le _⟩ dX12_isFigure_12 (fun H locs hP hD hS => ?_)
  replace hm := ckb_some hm
  obtain ⟨h3, hm⟩ := hm
  have h9 := Option.some.inj hm
  subst h9
  exact hret H locs _ ls _ h3 hP hD hS rfl dX12_isFigure_15
set_option maxHeartbeats 4000000 in
set_option maxRecDepth 100000 in
theorem c_X12_isLow (l : Launch) (D : va_G) (cI cJ cZ cS : ClassId) (aM aM_s aM_ke aM_te aM_re aM_bo aM_bn aM_sh aM_in aM_su aM_gr aM_tr aM_ou aM_ro : Nat) (M_km : Int32) (M_te : Nat → Int32) (M_n : Int32) (M_be : Int32) (M_ma : Int32) (M_so : Int32) (M_om : Int32) (x1 : Int32) (o : Int32) (hm : m_X12_isLow M_te M_n x1 = some o) : MI l yX12_isLow wsX12_isLow rm_X12_isLow D (TY cI cJ cZ cS) [.ref aM, .int x1] (w_X12_isLow cI aM aM_s aM_ke aM_te aM_re aM_bo aM_bn aM_sh aM_in aM_su aM_gr aM_tr aM_ou aM_ro M_km M_te M_n M_be M_ma M_so M_om) (w_X12_isLow cI aM aM_s aM_ke aM_te aM_re aM_bo aM_bn aM_sh aM_in aM_su aM_gr aM_tr aM_ou aM_ro M_km M_te M_n M_be M_ma M_so M_om) (o) := by
  refine MZ_of (cc := cX12_isLow) (maxL := 2) (by decide) rfl (Nat.le_of_ble_eq_true rfl) ?_
  intro p e s m args below meth c A Q ls H locs hx hb hml hts hown hK hA hP hD hS hl hret
  have hown : s.vm.findClass RX12 = some m.cls := hown
  have hKv : va_K D vwCl (TY cI cJ cZ cS) s := hK.1
  have hl : lv_has ls 2 [(0, .ref aM), (1, .int x1)] := hl
  have S : CallFix p m c cX12_isLow 2 s args wsX12_isLow RX12 := ⟨hx, hb, hml, hown, hts⟩
  have k1 : CallW rm_X12_isLow s args RX12 RX12 63 yX12_letterAt cX12_letterAt 2 (some .int) wsX12_letterAt rm_X12_letterAt 0 0 1 := cwV 1 hts gX12_isLow_X12_letterAt rfl rfl rfl (by decide +kernel) ⟨Nat.le_of_ble_eq_true rfl, Nat.le_of_ble_eq_true rfl⟩
  have k2 := hts (.constantLong RX12 67 97) (by decide +kernel)
  have k3 := hts (.constantLong RX12 69 122) (by decide +kernel)
  have k4 : CallB rm_X12_isLow s args RX12 50 yX12_in cX12_in 6 (some .boolean) wsX12_in rm_X12_in 0 0 3 ∧ (Cond.static yX12_in).before args s = true := va_cwS 3 hts gX12_isLow_X12_in rfl rfl rfl (by decide +kernel) ⟨Nat.le_of_ble_eq_true rfl, Nat.le_of_ble_eq_true rfl⟩
  refine lv_aload_n hx hb dX12_isLow_0 rfl (lv_at hl 0 rfl) ?_
  refine lv_iload_n hx hb dX12_isLow_1 rfl (lv_at hl 1 rfl) ?_
  replace hm := bd_some hm
  obtain ⟨e1, hc1, hm⟩ := hm
  refine kV_i (rest := []) (ws' := (w_X12_isLow cI aM aM_s aM_ke aM_te aM_re aM_bo aM_bn aM_sh aM_in aM_su aM_gr aM_tr aM_ou aM_ro M_km M_te M_n M_be M_ma M_so M_om)) S (c_X12_letterAt l D cI cJ cZ cS aM aM_s aM_ke aM_te aM_re aM_bo aM_bn aM_sh aM_in aM_su aM_gr aM_tr aM_ou aM_ro M_km M_te M_n M_be M_ma M_so M_om x1 e1 hc1) k1 hK hP hD hS hA 0 rfl rfl rfl rfl hl.1 rfl (Nat.le_of_ble_eq_true rfl) ⟨Nat.zero_le _, Nat.zero_le _⟩ dX12_isLow_2 [0, 1] rfl rfl wa_X12_letterAt (sa_eq [] [] 2 rfl rfl rfl rfl rfl rfl rfl) (fun H locs hP hD hS => ?_)
  refine lv_i2l hx hb dX12_isLow_5 rfl ?_
  refine lv_ldc2 hx hb hown k2 dX12_isLow_6 ?_
  refine lv_ldc2 hx hb hown k3 dX12_isLow_9 ?_
  replace hm := bd_some hm
  obtain ⟨e2, hc2, hm⟩ := hm
  refine kS_i (rest := []) S (c_X12_in l D cI cJ cZ cS (Int32.toInt64 e1) 97 122 e2 hc2) k4 hK hP hD hS hA rfl hl.1 rfl (Nat.le_of_ble_eq_true rfl) ⟨Nat.zero_le _, Nat.zero_le _⟩ dX12_isLow_12 (fun H locs hP hD hS => ?_)
  replace hm := ckb_some hm
  obtain ⟨h3, hm⟩ := hm
  have h9 := Option.some.inj hm
  subst h9
  exact hret H locs _ ls _ h3 hP hD hS rfl dX12_isLow_15
set_option maxHeartbeats 4000000 in
set_option maxRecDepth 100000 in
theorem c_X12_isWordWork (l : Launch) (D : va_G) (cI cJ cZ cS : ClassId) (aM aM_s aM_ke aM_te aM_re aM_bo aM_bn aM_sh aM_in aM_su aM_gr aM_tr aM_ou aM_ro : Nat) (M_km : Int32) (M_te : Nat → Int32) (M_n : Int32) (M_be : Int32) (M_ma : Int32) (M_so : Int32) (M_om : Int32) (o : Int32) (hm : m_X12_isWordWork M_te M_be M_ma M_so = some o) : MI l yX12_isWordWork wsX12_isWordWork rm_X12_isWordWork D (TY cI cJ cZ cS) [.ref aM] (w_X12_isWordWork cI aM aM_s aM_ke aM_te aM_re aM_bo aM_bn aM_sh aM_in aM_su aM_gr aM_tr aM_ou aM_ro M_km M_te M_n M_be M_ma M_so M_om) (w_X12_isWordWork cI aM aM_s aM_ke aM_te aM_re aM_bo aM_bn aM_sh aM_in aM_su aM_gr aM_tr aM_ou aM_ro M_km M_te M_n M_be M_ma M_so M_om) (o) := by
  refine MZ_of (cc := cX12_isWordWork) (maxL := 1) (by decide) rfl (Nat.le_of_ble_eq_true rfl) ?_
  intro p e s m args below meth c A Q ls H locs hx hb hml hts hown hK hA hP hD hS hl hret
  have hown : s.vm.findClass RX12 = some m.cls := hown
  have hKv : va_K D vwCl (TY cI cJ cZ cS) s := hK.1
  have hl : lv_has ls 1 [(0, .ref aM)] := hl
  have S : CallFix p m c cX12_isWordWork 1 s args wsX12_isWordWork RX12 := ⟨hx, hb, hml, hown, hts⟩
  have k1 := hts (.fieldLink RX12 81 "CitationFormatterModel" "sort" "I") (by decide +kernel)
  have k2 : ∀ w ∈ wsX120, w ∈ wsX12_isWordWork := by decide +kernel
  have k3 := hts (.fieldLink RX12 78 "CitationFormatterModel" "many" "I") (by decide +kernel)
  have k4 := hts (.fieldLink RX12 16 "CitationFormatterModel" "text" "[I") (by decide +kernel)
  have k5 := hts (.fieldLink RX12 75 "CitationFormatterModel" "begins" "I") (by decide +kernel)
  have J83 : ∀ (y0_j83 : Int32), (m_X12_isWordWork_J83 y0_j83 = some o) → ∀ (H : Heap) (locs : List Loc) (ls : Array Slot), va_P D vwCl (w_X12_isWordWork cI aM aM_s aM_ke aM_te aM_re aM_bo aM_bn aM_sh aM_in aM_su aM_gr aM_tr aM_ou aM_ro M_km M_te M_n M_be M_ma M_so M_om) H → va_D A (w_X12_isWordWork cI aM aM_s aM_ke aM_te aM_re aM_bo aM_bn aM_sh aM_in aM_su aM_gr aM_tr aM_ou aM_ro M_km M_te M_n M_be M_ma M_so M_om) → va_S A s.heap H locs → lv_has ls 1 [(0, .ref aM)] → W p l e rm_X12_isWordWork s m args below meth c H locs 0 0 Q (F0 m 83 ls [.int y0_j83]) := by
    intro y0_j83 hm H locs ls hP hD hS hl
    replace hm := ckb_some hm
    obtain ⟨h1, hm⟩ := hm
    have h9 := Option.some.inj hm
    subst h9
    exact hret H locs _ ls _ h1 hP hD hS rfl dX12_isWordWork_83
  have J82 : (m_X12_isWordWork_J82 = some o) → ∀ (H : Heap) (locs : List Loc) (ls : Array Slot), va_P D vwCl (w_X12_isWordWork cI aM aM_s aM_ke aM_te aM_re aM_bo aM_bn aM_sh aM_in aM_su aM_gr aM_tr aM_ou aM_ro M_km M_te M_n M_be M_ma M_so M_om) H → va_D A (w_X12_isWordWork cI aM aM_s aM_ke aM_te aM_re aM_bo aM_bn aM_sh aM_in aM_su aM_gr aM_tr aM_ou aM_ro M_km M_te M_n M_be M_ma M_so M_om) → va_S A s.heap H locs → lv_has ls 1 [(0, .ref aM)] → W p l e rm_X12_isWordWork s m args below meth c H locs 0 0 Q (F0 m 82 ls []) := by
    intro  hm H locs ls hP hD hS hl
    refine lv_iconst (v := 0) hx hb dX12_isWordWork_82 (by decide) ?_
    exact J83 0 hm H locs ls hP hD hS (lv_sub hl [0] rfl)
  refine lv_aload_n hx hb dX12_isWordWork_0 rfl (lv_at hl 0 rfl) ?_
  refine va_get (D := D) (ci := 12) (v := .int M_so) (C := RX12) (T := TX12) (N := 19) hx hb hts k2 hown hKv hP 0 rfl rfl 8 (by decide) k1 (fun _ h9 => h9) rfl dX12_isWordWork_1 ?_
  refine lv_iconst (v := 1) hx hb dX12_isWordWork_4 (by decide) ?_
  refine lv_icmp_ne (tgt := 82) hx hb dX12_isWordWork_5 (by decide) (fun c2 => ?_) (fun c2 => ?_)
  · replace hm := if_f c2 hm
    exact J82  hm H locs ls hP hD hS (lv_sub hl [0] rfl)
  · replace hm := if_t c2 hm
    refine lv_aload_n hx hb dX12_isWordWork_8 rfl (lv_at hl 0 rfl) ?_
    refine va_get (D := D) (ci := 12) (v := .int M_ma) (C := RX12) (T := TX12) (N := 19) hx hb hts k2 hown hKv hP 0 rfl rfl 7 (by decide) k3 (fun _ h9 => h9) rfl dX12_isWordWork_9 ?_
    refine lv_iconst (v := 4) hx hb dX12_isWordWork_12 (by decide) ?_
    refine lv_icmp_ne (tgt := 82) hx hb dX12_isWordWork_13 (by decide) (fun c3 => ?_) (fun c3 => ?_)
    · replace hm := if_f c3 hm
      exact J82  hm H locs ls hP hD hS (lv_sub hl [0] rfl)
    · replace hm := if_t c3 hm
      refine lv_aload_n hx hb dX12_isWordWork_16 rfl (lv_at hl 0 rfl) ?_
      refine va_get (D := D) (ci := 12) (v := .ref aM_te) (C := RX12) (T := TX12) (N := 19) hx hb hts k2 hown hKv hP 0 rfl rfl 3 (by decide) k4 (fun _ h9 => h9) rfl dX12_isWordWork_17 ?_
      refine lv_aload_n hx hb dX12_isWordWork_20 rfl (lv_at hl 0 rfl) ?_
      refine va_get (D := D) (ci := 12) (v := .int M_be) (C := RX12) (T := TX12) (N := 19) hx hb hts k2 hown hKv hP 0 rfl rfl 6 (by decide) k5 (fun _ h9 => h9) rfl dX12_isWordWork_21 ?_
      replace hm := ck_some hm
      obtain ⟨h4, hm⟩ := hm
      refine va_iald hx hb hKv hP 1 0 rfl rfl h4 dX12_isWordWork_24 ?_
      refine lv_bipush (v := 119) hx hb dX12_isWordWork_25 (by decide) ?_
      refine lv_icmp_ne (tgt := 82) hx hb dX12_isWordWork_27 (by decide) (fun c5 => ?_) (fun c5 => ?_)
      · replace hm := if_f c5 hm
        exact J82  hm H locs ls hP hD hS (lv_sub hl [0] rfl)
      · replace hm := if_t c5 hm
        refine lv_aload_n hx hb dX12_isWordWork_30 rfl (lv_at hl 0 rfl) ?_
        refine va_get (D := D) (ci := 12) (v := .ref aM_te) (C := RX12) (T := TX12) (N := 19) hx hb hts k2 hown hKv hP 0 rfl rfl 3 (by decide) k4 (fun _ h9 => h9) rfl dX12_isWordWork_31 ?_
        refine lv_aload_n hx hb dX12_isWordWork_34 rfl (lv_at hl 0 rfl) ?_
        refine va_get (D := D) (ci := 12) (v := .int M_be) (C := RX12) (T := TX12) (N := 19) hx hb hts k2 hown hKv hP 0 rfl rfl 6 (by decide) k5 (fun _ h9 => h9) rfl dX12_isWordWork_35 ?_
        refine lv_iconst (v := 1) hx hb dX12_isWordWork_38 (by decide) ?_
        refine lv_iadd hx hb dX12_isWordWork_39 ?_
        replace hm := ck_some hm
        obtain ⟨h6, hm⟩ := hm
        refine va_iald hx hb hKv hP 1 0 rfl rfl h6 dX12_isWordWork_40 ?_
        refine lv_bipush (v := 111) hx hb dX12_isWordWork_41 (by decide) ?_
        refine lv_icmp_ne (tgt := 82) hx hb dX12_isWordWork_43 (by decide) (fun c7 => ?_) (fun c7 => ?_)
        · replace hm := if_f c7 hm
          exact J82  hm H locs ls hP hD hS (lv_sub hl [0] rfl)
        · replace hm := if_t c7 hm
          refine lv_aload_n hx hb dX12_isWordWork_46 rfl (lv_at hl 0 rfl) ?_
          refine va_get (D := D) (ci := 12) (v := .ref aM_te) (C := RX12) (T := TX12) (N := 19) hx hb hts k2 hown hKv hP 0 rfl rfl 3 (by decide) k4 (fun _ h9 => h9) rfl dX12_isWordWork_47 ?_
          refine lv_aload_n hx hb dX12_isWordWork_50 rfl (lv_at hl 0 rfl) ?_
          refine va_get (D := D) (ci := 12) (v := .int M_be) (C := RX12) (T := TX12) (N := 19) hx hb hts k2 hown hKv hP 0 rfl rfl 6 (by decide) k5 (fun _ h9 => h9) rfl dX12_isWordWork_51 ?_
          refine lv_iconst (v := 2) hx hb dX12_isWordWork_54 (by decide) ?_
          refine lv_iadd hx hb dX12_isWordWork_55 ?_
          replace hm := ck_some hm
          obtain ⟨h8, hm⟩ := hm
          refine va_iald hx hb hKv hP 1 0 rfl rfl h8 dX12_isWordWork_56 ?_
          refine lv_bipush (v := 114) hx hb dX12_isWordWork_57 (by decide) ?_
          refine lv_icmp_ne (tgt := 82) hx hb dX12_isWordWork_59 (by decide) (fun c9 => ?_) (fun c9 => ?_)
          · replace hm := if_f c9 hm
            exact J82  hm H locs ls hP hD hS (lv_sub hl [0] rfl)
          · replace hm := if_t c9 hm
            refine lv_aload_n hx hb dX12_isWordWork_62 rfl (lv_at hl 0 rfl) ?_
            refine va_get (D := D) (ci := 12) (v := .ref aM_te) (C := RX12) (T := TX12) (N := 19) hx hb hts k2 hown hKv hP 0 rfl rfl 3 (by decide) k4 (fun _ h9 => h9) rfl dX12_isWordWork_63 ?_
            refine lv_aload_n hx hb dX12_isWordWork_66 rfl (lv_at hl 0 rfl) ?_
            refine va_get (D := D) (ci := 12) (v := .int M_be) (C := RX12) (T := TX12) (N := 19) hx hb hts k2 hown hKv hP 0 rfl rfl 6 (by decide) k5 (fun _ h9 => h9) rfl dX12_isWordWork_67 ?_
            refine lv_iconst (v := 3) hx hb dX12_isWordWork_70 (by decide) ?_
            refine lv_iadd hx hb dX12_isWordWork_71 ?_
            replace hm := ck_some hm
            obtain ⟨h10, hm⟩ := hm
            refine va_iald hx hb hKv hP 1 0 rfl rfl h10 dX12_isWordWork_72 ?_
            refine lv_bipush (v := 107) hx hb dX12_isWordWork_73 (by decide) ?_
            refine lv_icmp_ne (tgt := 82) hx hb dX12_isWordWork_75 (by decide) (fun c11 => ?_) (fun c11 => ?_)
            · replace hm := if_f c11 hm
              exact J82  hm H locs ls hP hD hS (lv_sub hl [0] rfl)
            · replace hm := if_t c11 hm
              refine lv_iconst (v := 1) hx hb dX12_isWordWork_78 (by decide) ?_
              refine lv_goto (tgt := 83) hx hb dX12_isWordWork_79 (by decide) ?_
              exact J83 1 hm H locs ls hP hD hS (lv_sub hl [0] rfl)
set_option maxHeartbeats 4000000 in
set_option maxRecDepth 100000 in
theorem c_X12_placeIn_bo (l : Launch) (D : va_G) (cI cJ cZ cS : ClassId) (aM aM_s aM_ke aM_te aM_re aM_bo aM_bn aM_sh aM_in aM_su aM_gr aM_tr aM_ou aM_ro : Nat) (M_km : Int32) (M_n : Int32) (M_be : Int32) (M_ma : Int32) (M_so : Int32) (M_bo : Nat → Int32) (M_om : Int32) (x2 : Int32) (o : Int32) (hm : m_X12_placeIn_bo M_bo x2 = some o) : MI l yX12_placeIn wsX12_placeIn rm_X12_placeIn_bo D (TY cI cJ cZ cS) [.ref aM, .ref aM_bo, .int x2] (w_X12_placeIn_bo cI aM aM_s aM_ke aM_te aM_re aM_bo aM_bn aM_sh aM_in aM_su aM_gr aM_tr aM_ou aM_ro M_km M_n M_be M_ma M_so M_bo M_om) (w_X12_placeIn_bo cI aM aM_s aM_ke aM_te aM_re aM_bo aM_bn aM_sh aM_in aM_su aM_gr aM_tr aM_ou aM_ro M_km M_n M_be M_ma M_so M_bo M_om) (o) := by
  refine MI_of (cc := cX12_placeIn) (maxL := 4) (by decide) rfl (Nat.le_of_ble_eq_true rfl) ?_
  intro p e s m args below meth c A Q ls H locs hx hb hml hts hown hK hA hP hD hS hl hret
  have hown : s.vm.findClass RX12 = some m.cls := hown
  have hKv : va_K D vwCl (TY cI cJ cZ cS) s := hK.1
  have hl : lv_has ls 4 [(0, .ref aM), (1, .ref aM_bo), (2, .int x2)] := hl
  have S : CallFix p m c cX12_placeIn 4 s args wsX12_placeIn RX12 := ⟨hx, hb, hml, hown, hts⟩
  refine lv_iconst (v := 0) hx hb dX12_placeIn_0 (by decide) ?_
  refine lv_istore_n (lv' := [(3, .int 0), (0, .ref aM), (1, .ref aM_bo), (2, .int x2)]) hx hb dX12_placeIn_1 rfl hl (by decide) rfl (fun ls hl => ?_)
  replace hm := bd_some hm
  obtain ⟨e1, hc1, hm⟩ := hm
  have X1_0 : ∀ (H : Heap) (locs : List Loc) (ls : Array Slot), va_P D vwCl (w_X12_placeIn_bo cI aM aM_s aM_ke aM_te aM_re aM_bo aM_bn aM_sh aM_in aM_su aM_gr aM_tr aM_ou aM_ro M_km M_n M_be M_ma M_so M_bo M_om) H → va_D A (w_X12_placeIn_bo cI aM aM_s aM_ke aM_te aM_re aM_bo aM_bn aM_sh aM_in aM_su aM_gr aM_tr aM_ou aM_ro M_km M_n M_be M_ma M_so M_bo M_om) → va_S A s.heap H locs → lv_has ls 4 [(0, .ref aM), (3, .int e1)] → W p l e rm_X12_placeIn_bo s m args below meth c H locs 0 0 Q (F0 m 15 ls []) := by
    intro H locs ls hP hD hS hl
    refine lv_iload_n hx hb dX12_placeIn_15 rfl (lv_at hl 1 rfl) ?_
    have h9 := Option.some.inj hm
    subst h9
    exact hret H locs _ ls _ hP hD hS rfl dX12_placeIn_16
  refine it_W (G := fun (st2 : Int32) => ∀ (H : Heap) (locs : List Loc) (ls : Array Slot), va_P D vwCl (w_X12_placeIn_bo cI aM aM_s aM_ke aM_te aM_re aM_bo aM_bn aM_sh aM_in aM_su aM_gr aM_tr aM_ou aM_ro M_km M_n M_be M_ma M_so M_bo M_om) H → va_D A (w_X12_placeIn_bo cI aM aM_s aM_ke aM_te aM_re aM_bo aM_bn aM_sh aM_in aM_su aM_gr aM_tr aM_ou aM_ro M_km M_n M_be M_ma M_so M_bo M_om) → va_S A s.heap H locs → lv_has ls 4 [(0, .ref aM), (1, .ref aM_bo), (2, .int x2), (3, .int st2)] → W p l e rm_X12_placeIn_bo s m args below meth c H locs 0 0 Q (F0 m 2 ls [])) (e := e1) (fun st2 x hm hG hE => ?_) fu _ hc1 H locs ls hP hD hS (lv_sub hl [1, 2, 3, 0] rfl)
  intro H locs ls hP hD hS hl
  refine lv_aload_n hx hb dX12_placeIn_2 rfl (lv_at hl 1 rfl) ?_
  refine lv_iload_n hx hb dX12_placeIn_3 rfl (lv_at hl 3 rfl) ?_
  replace hm := ck_some hm
  obtain ⟨h2, hm⟩ := hm
  refine va_iald hx hb hKv hP 1 0 rfl rfl h2 dX12_placeIn_4 ?_
  refine lv_iload_n hx hb dX12_placeIn_5 rfl (lv_at hl 2 rfl) ?_
  refine lv_icmp_eq (tgt := 15) hx hb dX12_placeIn_6 (by decide) (fun c3 => ?_) (fun c3 => ?_)
  · replace hm := if_t c3 hm
    have h9 := hE _ (Option.some.inj hm).symm
    subst h9
    exact X1_0 H locs ls hP hD hS (lv_sub hl [0, 3] rfl)
  · replace hm := if_f c3 hm
    refine lv_iinc (v := (st2 + 1)) (lv' := [(3, .int (st2 + 1)), (0, .ref aM), (1, .ref aM_bo), (2, .int x2)]) hx hb dX12_placeIn_9 hl (k := 3) rfl rfl (by decide) rfl (fun ls hl => ?_)
    refine lv_goto (tgt := 2) hx hb dX12_placeIn_12 (by decide) ?_
    exact hG _ (Option.some.inj hm).symm H locs ls hP hD hS (lv_sub hl [1, 2, 3, 0] rfl)
set_option maxHeartbeats 4000000 in
set_option maxRecDepth 100000 in
theorem c_X12_rankOf (l : Launch) (D : va_G) (cI cJ cZ cS : ClassId) (aM aM_s aM_ke aM_te aM_re aM_bo aM_bn aM_sh aM_in aM_su aM_gr aM_tr aM_ou aM_ro : Nat) (M_s : Nat → Int32) (M_km : Int32) (M_n : Int32) (M_be : Int32) (M_ma : Int32) (M_so : Int32) (M_bo : Nat → Int32) (M_bn : Nat → Int32) (M_om : Int32) (x1 : Int32) (o : Int32) (hm : m_X12_rankOf M_s M_bo M_bn x1 = some o) : MI l yX12_rankOf wsX12_rankOf rm_X12_rankOf D (TY cI cJ cZ cS) [.ref aM, .int x1] (w_X12_rankOf cI aM aM_s aM_ke aM_te aM_re aM_bo aM_bn aM_sh aM_in aM_su aM_gr aM_tr aM_ou aM_ro M_s M_km M_n M_be M_ma M_so M_bo M_bn M_om) (w_X12_rankOf cI aM aM_s aM_ke aM_te aM_re aM_bo aM_bn aM_sh aM_in aM_su aM_gr aM_tr aM_ou aM_ro M_s M_km M_n M_be M_ma M_so M_bo M_bn M_om) (o) := by
  refine MI_of (cc := cX12_rankOf) (maxL := 2) (by decide) rfl (Nat.le_of_ble_eq_true rfl) ?_
  intro p e s m args below meth c A Q ls H locs hx hb hml hts hown hK hA hP hD hS hl hret
  have hown : s.vm.findClass RX12 = some m.cls := hown
  have hKv : va_K D vwCl (TY cI cJ cZ cS) s := hK.1
  have hl : lv_has ls 2 [(0, .ref aM), (1, .int x1)] := hl
  have S : CallFix p m c cX12_rankOf 2 s args wsX12_rankOf RX12 := ⟨hx, hb, hml, hown, hts⟩
  have k1 := hts (.fieldLink RX12 7 "CitationFormatterModel" "s" "[I") (by decide +kernel)
  have k2 : ∀ w ∈ wsX120, w ∈ wsX12_rankOf := by decide +kernel
  have k3 := hts (.fieldLink RX12 22 "CitationFormatterModel" "byOrder" "[I") (by decide +kernel)
  have k4 : CallW rm_X12_rankOf s args RX12 RX12 170 yX12_placeIn cX12_placeIn 4 (some .int) wsX12_placeIn rm_X12_placeIn_bo 0 0 2 := cwV 2 hts gX12_rankOf_X12_placeIn rfl rfl rfl (by decide +kernel) ⟨Nat.le_of_ble_eq_true rfl, Nat.le_of_ble_eq_true rfl⟩
  have k5 := hts (.fieldLink RX12 25 "CitationFormatterModel" "byNumber" "[I") (by decide +kernel)
  have J32 : ∀ (y0_j32 : Int32), (m_X12_rankOf_J32 y0_j32 = some o) → ∀ (H : Heap) (locs : List Loc) (ls : Array Slot), va_P D vwCl (w_X12_rankOf cI aM aM_s aM_ke aM_te aM_re aM_bo aM_bn aM_sh aM_in aM_su aM_gr aM_tr aM_ou aM_ro M_s M_km M_n M_be M_ma M_so M_bo M_bn M_om) H → va_D A (w_X12_rankOf cI aM aM_s aM_ke aM_te aM_re aM_bo aM_bn aM_sh aM_in aM_su aM_gr aM_tr aM_ou aM_ro M_s M_km M_n M_be M_ma M_so M_bo M_bn M_om) → va_S A s.heap H locs → lv_has ls 2 [(0, .ref aM)] → W p l e rm_X12_rankOf s m args below meth c H locs 0 0 Q (F0 m 32 ls [.int y0_j32]) := by
    intro y0_j32 hm H locs ls hP hD hS hl
    have h9 := Option.some.inj hm
    subst h9
    exact hret H locs _ ls _ hP hD hS rfl dX12_rankOf_32
  refine lv_aload_n hx hb dX12_rankOf_0 rfl (lv_at hl 0 rfl) ?_
  refine va_get (D := D) (ci := 12) (v := .ref aM_s) (C := RX12) (T := TX12) (N := 19) hx hb hts k2 hown hKv hP 0 rfl rfl 0 (by decide) k1 (fun _ h9 => h9) rfl dX12_rankOf_1 ?_
  refine lv_bipush (v := 57) hx hb dX12_rankOf_4 (by decide) ?_
  replace hm := ck_some hm
  obtain ⟨h1, hm⟩ := hm
  refine va_iald hx hb hKv hP 1 0 rfl rfl h1 dX12_rankOf_6 ?_
  refine lv_iconst (v := 1) hx hb dX12_rankOf_7 (by decide) ?_
  refine lv_icmp_ne (tgt := 23) hx hb dX12_rankOf_8 (by decide) (fun c2 => ?_) (fun c2 => ?_)
  · replace hm := if_f c2 hm
    refine lv_aload_n hx hb dX12_rankOf_23 rfl (lv_at hl 0 rfl) ?_
    refine lv_aload_n hx hb dX12_rankOf_24 rfl (lv_at hl 0 rfl) ?_
    refine va_get (D := D) (ci := 12) (v := .ref aM_bo) (C := RX12) (T := TX12) (N := 19) hx hb hts k2 hown hKv hP 0 rfl rfl 9 (by decide) k3 (fun _ h9 => h9) rfl dX12_rankOf_25 ?_
    refine lv_iload_n hx hb dX12_rankOf_28 rfl (lv_at hl 1 rfl) ?_
    replace hm := bd_some hm
    obtain ⟨e3, hc3, hm⟩ := hm
    refine kV_i (rest := []) (ws' := (w_X12_rankOf cI aM aM_s aM_ke aM_te aM_re aM_bo aM_bn aM_sh aM_in aM_su aM_gr aM_tr aM_ou aM_ro M_s M_km M_n M_be M_ma M_so M_bo M_bn M_om)) S (c_X12_placeIn_bo l D cI cJ cZ cS aM aM_s aM_ke aM_te aM_re aM_bo aM_bn aM_sh aM_in aM_su aM_gr aM_tr aM_ou aM_ro M_km M_n M_be M_ma M_so M_bo M_om x1 e3 hc3) k4 hK hP hD hS hA 0 rfl rfl rfl rfl hl.1 rfl (Nat.le_of_ble_eq_true rfl) ⟨Nat.zero_le _, Nat.zero_le _⟩ dX12_rankOf_29 [0, 2] rfl rfl wa_X12_placeIn_bo (sa_eq [(aM_s, .inl (cI, 131, .inl M_s)), (aM_bn, .inl (cI, 8, .inl M_bn))] [1, 3] 4 rfl rfl rfl rfl rfl rfl rfl) (fun H locs hP hD hS => ?_)
    exact J32 e3 hm H locs ls hP hD hS (lv_sub hl [0] rfl)
  · replace hm := if_t c2 hm
    refine lv_aload_n hx hb dX12_rankOf_11 rfl (lv_at hl 0 rfl) ?_
    refine lv_aload_n hx hb dX12_rankOf_12 rfl (lv_at hl 0 rfl) ?_
    refine va_get (D := D) (ci := 12) (v := .ref aM_bn) (C := RX12) (T := TX12) (N := 19) hx hb hts k2 hown hKv hP 0 rfl rfl 10 (by decide) k5 (fun _ h9 => h9) rfl dX12_rankOf_13 ?_
    refine lv_iload_n hx hb dX12_rankOf_16 rfl (lv_at hl 1 rfl) ?_
    replace hm := bd_some hm
    obtain ⟨e4, hc4, hm⟩ := hm
    refine kV_i (rest := []) (ws' := (w_X12_rankOf cI aM aM_s aM_ke aM_te aM_re aM_bo aM_bn aM_sh aM_in aM_su aM_gr aM_tr aM_ou aM_ro M_s M_km M_n M_be M_ma M_so M_bo M_bn M_om)) S (c_X12_placeIn_bn l D cI cJ cZ cS aM aM_s aM_ke aM_te aM_re aM_bo aM_bn aM_sh aM_in aM_su aM_gr aM_tr aM_ou aM_ro M_km M_n M_be M_ma M_so M_bn M_om x1 e4 hc4) k4 hK hP hD hS hA 0 rfl rfl rfl rfl hl.1 rfl (Nat.le_of_ble_eq_true rfl) ⟨Nat.zero_le _, Nat.zero_le _⟩ dX12_rankOf_17 [0, 3] rfl rfl wa_X12_placeIn_bn (sa_eq [(aM_s, .inl (cI, 131, .inl M_s)), (aM_bo, .inl (cI, 8, .inl M_bo))] [1, 2] 4 rfl rfl rfl rfl rfl rfl rfl) (fun H locs hP hD hS => ?_)
    refine lv_goto (tgt := 32) hx hb dX12_rankOf_20 (by decide) ?_
    exact J32 e4 hm H locs ls hP hD hS (lv_sub hl [0] rfl)
set_option maxHeartbeats 4000000 in
set_option maxRecDepth 100000 in
theorem c_X12_layRow (l : Launch) (D : va_G) (cI cJ cZ cS : ClassId) (aM aM_s aM_ke aM_te aM_re aM_bo aM_bn aM_sh aM_in aM_su aM_gr aM_tr aM_ou aM_ro : Nat) (M_s : Nat → Int32) (M_km : Int32) (M_n : Int32) (M_be : Int32) (M_ma : Int32) (M_so : Int32) (M_bo : Nat → Int32) (M_bn : Nat → Int32) (M_om : Int32) (M_ro : Nat → Int32) (x1 : Int32) (o : (Nat → Int32)) (hm : m_X12_layRow M_s M_bo M_bn M_ro x1 = some o) : MV l yX12_layRow wsX12_layRow rm_X12_layRow D (TY cI cJ cZ cS) [.ref aM, .int x1] (w_X12_layRow cI aM aM_s aM_ke aM_te aM_re aM_bo aM_bn aM_sh aM_in aM_su aM_gr aM_tr aM_ou aM_ro M_s M_km M_n M_be M_ma M_so M_bo M_bn M_om M_ro) (w_X12_layRow cI aM aM_s aM_ke aM_te aM_re aM_bo aM_bn aM_sh aM_in aM_su aM_gr aM_tr aM_ou aM_ro M_s M_km M_n M_be M_ma M_so M_bo M_bn M_om o) := by
  refine MV_of (cc := cX12_layRow) (maxL := 4) (by decide) rfl (Nat.le_of_ble_eq_true rfl) ?_
  intro p e s m args below meth c A Q ls H locs hx hb hml hts hown hK hA hP hD hS hl hret
  have hown : s.vm.findClass RX12 = some m.cls := hown
  have hKv : va_K D vwCl (TY cI cJ cZ cS) s := hK.1
  have hl : lv_has ls 4 [(0, .ref aM), (1, .int x1)] := hl
  have S : CallFix p m c cX12_layRow 4 s args wsX12_layRow RX12 := ⟨hx, hb, hml, hown, hts⟩
  have k1 : CallW rm_X12_layRow s args RX12 RX12 119 yX12_cites cX12_cites 2 (some .int) wsX12_cites rm_X12_cites 0 0 1 := cwV 1 hts gX12_layRow_X12_cites rfl rfl rfl (by decide +kernel) ⟨Nat.le_of_ble_eq_true rfl, Nat.le_of_ble_eq_true rfl⟩
  have k2 := hts (.fieldLink RX12 47 "CitationFormatterModel" "row" "[I") (by decide +kernel)
  have k3 : ∀ w ∈ wsX120, w ∈ wsX12_layRow := by decide +kernel
  have k4 : CallW rm_X12_layRow s args RX12 RX12 122 yX12_cited cX12_cited 3 (some .int) wsX12_cited rm_X12_cited 0 0 2 := cwV 2 hts gX12_layRow_X12_cited rfl rfl rfl (by decide +kernel) ⟨Nat.le_of_ble_eq_true rfl, Nat.le_of_ble_eq_true rfl⟩
  have k5 := hts (.fieldLink RX12 7 "CitationFormatterModel" "s" "[I") (by decide +kernel)
  have k6 : CallW rm_X12_layRow s args RX12 RX12 216 yX12_rankOf cX12_rankOf 2 (some .int) wsX12_rankOf rm_X12_rankOf 0 0 1 := cwV 1 hts gX12_layRow_X12_rankOf rfl rfl rfl (by decide +kernel) ⟨Nat.le_of_ble_eq_true rfl, Nat.le_of_ble_eq_true rfl⟩
  refine lv_iconst (v := 0) hx hb dX12_layRow_0 (by decide) ?_
  refine lv_istore_n (lv' := [(2, .int 0), (0, .ref aM), (1, .int x1)]) hx hb dX12_layRow_1 rfl hl (by decide) rfl (fun ls hl => ?_)
  replace hm := bd_some hm
  obtain ⟨e1, hc1, hm⟩ := hm
  have X1_0 : ∀ (H : Heap) (locs : List Loc) (ls : Array Slot), va_P D vwCl (w_X12_layRow cI aM aM_s aM_ke aM_te aM_re aM_bo aM_bn aM_sh aM_in aM_su aM_gr aM_tr aM_ou aM_ro M_s M_km M_n M_be M_ma M_so M_bo M_bn M_om e1) H → va_D A (w_X12_layRow cI aM aM_s aM_ke aM_te aM_re aM_bo aM_bn aM_sh aM_in aM_su aM_gr aM_tr aM_ou aM_ro M_s M_km M_n M_be M_ma M_so M_bo M_bn M_om e1) → va_S A s.heap H locs → lv_has ls 4 [(0, .ref aM)] → W p l e rm_X12_layRow s m args below meth c H locs 0 0 Q (F0 m 91 ls []) := by
    intro H locs ls hP hD hS hl
    have h9 := Option.some.inj hm
    subst h9
    exact hret H locs _ ls hP hD hS dX12_layRow_91
  refine it_W (G := fun (st2 : Int32 × (Nat → Int32)) => ∀ (H : Heap) (locs : List Loc) (ls : Array Slot), va_P D vwCl (w_X12_layRow cI aM aM_s aM_ke aM_te aM_re aM_bo aM_bn aM_sh aM_in aM_su aM_gr aM_tr aM_ou aM_ro M_s M_km M_n M_be M_ma M_so M_bo M_bn M_om st2.2) H → va_D A (w_X12_layRow cI aM aM_s aM_ke aM_te aM_re aM_bo aM_bn aM_sh aM_in aM_su aM_gr aM_tr aM_ou aM_ro M_s M_km M_n M_be M_ma M_so M_bo M_bn M_om st2.2) → va_S A s.heap H locs → lv_has ls 4 [(0, .ref aM), (1, .int x1), (2, .int st2.1)] → W p l e rm_X12_layRow s m args below meth c H locs 0 0 Q (F0 m 2 ls [])) (e := e1) (fun st2 x hm hG hE => ?_) fu _ hc1 H locs ls hP hD hS (lv_sub hl [1, 2, 0] rfl)
  intro H locs ls hP hD hS hl
  refine lv_iload_n hx hb dX12_layRow_2 rfl (lv_at hl 2 rfl) ?_
  refine lv_aload_n hx hb dX12_layRow_3 rfl (lv_at hl 0 rfl) ?_
  refine lv_iload_n hx hb dX12_layRow_4 rfl (lv_at hl 1 rfl) ?_
  replace hm := bd_some hm
  obtain ⟨e2, hc2, hm⟩ := hm
  refine kV_i (rest := [.int st2.1]) (ws' := (w_X12_layRow cI aM aM_s aM_ke aM_te aM_re aM_bo aM_bn aM_sh aM_in aM_su aM_gr aM_tr aM_ou aM_ro M_s M_km M_n M_be M_ma M_so M_bo M_bn M_om st2.2)) S (c_X12_cites l D cI cJ cZ cS aM aM_s aM_ke aM_te aM_re aM_bo aM_bn aM_sh aM_in aM_su aM_gr aM_tr aM_ou aM_ro M_s M_km M_n M_be M_ma M_so M_om x1 e2 hc2) k1 hK hP hD hS hA 0 rfl rfl rfl rfl hl.1 rfl (Nat.le_of_ble_eq_true rfl) ⟨Nat.zero_le _, Nat.zero_le _⟩ dX12_layRow_5 [0, 1] rfl rfl wa_X12_cites (sa_eq [(aM_bo, .inl (cI, 8, .inl M_bo)), (aM_bn, .inl (cI, 8, .inl M_bn)), (aM_ro, .inl (cI, 5, .inl st2.2))] [2, 3, 4] 5 rfl rfl rfl rfl rfl rfl rfl) (fun H locs hP hD hS => ?_)
  refine lv_icmp_ge (tgt := 91) hx hb dX12_layRow_8 (by decide) (fun c3 => ?_) (fun c3 => ?_)
  · replace hm := if_t c3 hm
    have h9 := hE _ (Option.some.inj hm).symm
    subst h9
    exact X1_0 H locs ls hP hD hS (lv_sub hl [0] rfl)
  · replace hm := if_f c3 hm
    refine lv_iload_n hx hb dX12_layRow_11 rfl (lv_at hl 2 rfl) ?_
    refine lv_istore_n (lv' := [(3, .int st2.1), (0, .ref aM), (1, .int x1), (2, .int st2.1)]) hx hb dX12_layRow_12 rfl hl (by decide) rfl (fun ls hl => ?_)
    replace hm := bd_some hm
    obtain ⟨e4, hc4, hm⟩ := hm
    have X4_0 : ∀ (H : Heap) (locs : List Loc) (ls : Array Slot), va_P D vwCl (w_X12_layRow cI aM aM_s aM_ke aM_te aM_re aM_bo aM_bn aM_sh aM_in aM_su aM_gr aM_tr aM_ou aM_ro M_s M_km M_n M_be M_ma M_so M_bo M_bn M_om e4.2) H → va_D A (w_X12_layRow cI aM aM_s aM_ke aM_te aM_re aM_bo aM_bn aM_sh aM_in aM_su aM_gr aM_tr aM_ou aM_ro M_s M_km M_n M_be M_ma M_so M_bo M_bn M_om e4.2) → va_S A s.heap H locs → lv_has ls 4 [(0, .ref aM), (1, .int x1), (2, .int st2.1), (3, .int e4.1)] → W p l e rm_X12_layRow s m args below meth c H locs 0 0 Q (F0 m 73 ls []) := by
      intro H locs ls hP hD hS hl
      refine lv_aload_n hx hb dX12_layRow_73 rfl (lv_at hl 0 rfl) ?_
      refine va_get (D := D) (ci := 12) (v := .ref aM_ro) (C := RX12) (T := TX12) (N := 19) hx hb hts k3 hown hKv hP 0 rfl rfl 18 (by decide) k2 (fun _ h9 => h9) rfl dX12_layRow_74 ?_
      refine lv_iload_n hx hb dX12_layRow_77 rfl (lv_at hl 3 rfl) ?_
      refine lv_aload_n hx hb dX12_layRow_78 rfl (lv_at hl 0 rfl) ?_
      refine lv_iload_n hx hb dX12_layRow_79 rfl (lv_at hl 1 rfl) ?_
      refine lv_iload_n hx hb dX12_layRow_80 rfl (lv_at hl 2 rfl) ?_
      replace hm := bd_some hm
      obtain ⟨e5, hc5, hm⟩ := hm
      refine kV_i (rest := [.int e4.1, .ref aM_ro]) (ws' := (w_X12_layRow cI aM aM_s aM_ke aM_te aM_re aM_bo aM_bn aM_sh aM_in aM_su aM_gr aM_tr aM_ou aM_ro M_s M_km M_n M_be M_ma M_so M_bo M_bn M_om e4.2)) S (c_X12_cited l D cI cJ cZ cS aM aM_s aM_ke aM_te aM_re aM_bo aM_bn aM_sh aM_in aM_su aM_gr aM_tr aM_ou aM_ro M_s M_km M_n M_be M_ma M_so M_om x1 st2.1 e5 hc5) k4 hK hP hD hS hA 0 rfl rfl rfl rfl hl.1 rfl (Nat.le_of_ble_eq_true rfl) ⟨Nat.zero_le _, Nat.zero_le _⟩ dX12_layRow_81 [0, 1] rfl rfl wa_X12_cited (sa_eq [(aM_bo, .inl (cI, 8, .inl M_bo)), (aM_bn, .inl (cI, 8, .inl M_bn)), (aM_ro, .inl (cI, 5, .inl e4.2))] [2, 3, 4] 5 rfl rfl rfl rfl rfl rfl rfl) (fun H locs hP hD hS => ?_)
      replace hm := ck_some hm
      obtain ⟨h6, hm⟩ := hm
      refine va_iast hx hb hKv hP hD hS 4 0 rfl rfl h6 dX12_layRow_84 (fun H locs hP hD hS => ?_)
      replace hP : va_P D vwCl (w_X12_layRow cI aM aM_s aM_ke aM_te aM_re aM_bo aM_bn aM_sh aM_in aM_su aM_gr aM_tr aM_ou aM_ro M_s M_km M_n M_be M_ma M_so M_bo M_bn M_om (upd e4.2 (Int32.toNatClampNeg e4.1) e5)) H := hP
      replace hD : va_D A (w_X12_layRow cI aM aM_s aM_ke aM_te aM_re aM_bo aM_bn aM_sh aM_in aM_su aM_gr aM_tr aM_ou aM_ro M_s M_km M_n M_be M_ma M_so M_bo M_bn M_om (upd e4.2 (Int32.toNatClampNeg e4.1) e5)) := hD
      refine lv_iinc (v := (st2.1 + 1)) (lv' := [(2, .int (st2.1 + 1)), (0, .ref aM), (1, .int x1), (3, .int e4.1)]) hx hb dX12_layRow_85 hl (k := 2) rfl rfl (by decide) rfl (fun ls hl => ?_)
      refine lv_goto (tgt := 2) hx hb dX12_layRow_88 (by decide) ?_
      exact hG _ (Option.some.inj hm).symm H locs ls hP hD hS (lv_sub hl [1, 2, 0] rfl)
    refine it_W (G := fun (st13 : Int32 × (Nat → Int32)) => ∀ (H : Heap) (locs : List Loc) (ls : Array Slot), va_P D vwCl (w_X12_layRow cI aM aM_s aM_ke aM_te aM_re aM_bo aM_bn aM_sh aM_in aM_su aM_gr aM_tr aM_ou aM_ro M_s M_km M_n M_be M_ma M_so M_bo M_bn M_om st13.2) H → va_D A (w_X12_layRow cI aM aM_s aM_ke aM_te aM_re aM_bo aM_bn aM_sh aM_in aM_su aM_gr aM_tr aM_ou aM_ro M_s M_km M_n M_be M_ma M_so M_bo M_bn M_om st13.2) → va_S A s.heap H locs → lv_has ls 4 [(0, .ref aM), (1, .int x1), (2, .int st2.1), (3, .int st13.1)] → W p l e rm_X12_layRow s m args below meth c H locs 0 0 Q (F0 m 13 ls [])) (e := e4) (fun st13 x hm hG hE => ?_) fu _ hc4 H locs ls hP hD hS (lv_sub hl [1, 2, 3, 0] rfl)
    intro H locs ls hP hD hS hl
    refine lv_aload_n hx hb dX12_layRow_13 rfl (lv_at hl 0 rfl) ?_
    refine va_get (D := D) (ci := 12) (v := .ref aM_s) (C := RX12) (T := TX12) (N := 19) hx hb hts k3 hown hKv hP 0 rfl rfl 0 (by decide) k5 (fun _ h9 => h9) rfl dX12_layRow_14 ?_
    refine lv_bipush (v := 63) hx hb dX12_layRow_17 (by decide) ?_
    replace hm := ck_some hm
    obtain ⟨h7, hm⟩ := hm
    refine va_iald hx hb hKv hP 1 0 rfl rfl h7 dX12_layRow_19 ?_
    refine lv_iconst (v := 1) hx hb dX12_layRow_20 (by decide) ?_
    refine lv_icmp_ne (tgt := 73) hx hb dX12_layRow_21 (by decide) (fun c8 => ?_) (fun c8 => ?_)
    · replace hm := if_f c8 hm
      have h9 := hE _ (Option.some.inj hm).symm
      subst h9
      exact X4_0 H locs ls hP hD hS (lv_sub hl [0, 1, 2, 3] rfl)
    · replace hm := if_t c8 hm
      refine lv_iload_n hx hb dX12_layRow_24 rfl (lv_at hl 3 rfl) ?_
      refine lv_if_le (tgt := 73) hx hb dX12_layRow_25 (by decide) (fun c9 => ?_) (fun c9 => ?_)
      · replace hm := if_t c9 hm
        have h9 := hE _ (Option.some.inj hm).symm
        subst h9
        exact X4_0 H locs ls hP hD hS (lv_sub hl [0, 1, 2, 3] rfl)
      · replace hm := if_f c9 hm
        refine lv_aload_n hx hb dX12_layRow_28 rfl (lv_at hl 0 rfl) ?_
        refine lv_aload_n hx hb dX12_layRow_29 rfl (lv_at hl 0 rfl) ?_
        refine va_get (D := D) (ci := 12) (v := .ref aM_ro) (C := RX12) (T := TX12) (N := 19) hx hb hts k3 hown hKv hP 0 rfl rfl 18 (by decide) k2 (fun _ h9 => h9) rfl dX12_layRow_30 ?_
        refine lv_iload_n hx hb dX12_layRow_33 rfl (lv_at hl 3 rfl) ?_
        refine lv_iconst (v := 1) hx hb dX12_layRow_34 (by decide) ?_
        refine lv_isub hx hb dX12_layRow_35 ?_
        replace hm := ck_some hm
        obtain ⟨h10, hm⟩ := hm
        refine va_iald hx hb hKv hP 4 0 rfl rfl h10 dX12_layRow_36 ?_
        replace hm := bd_some hm
        obtain ⟨e11, hc11, hm⟩ := hm
        refine kV_i (rest := []) (ws' := (w_X12_layRow cI aM aM_s aM_ke aM_te aM_re aM_bo aM_bn aM_sh aM_in aM_su aM_gr aM_tr aM_ou aM_ro M_s M_km M_n M_be M_ma M_so M_bo M_bn M_om st13.2)) S (c_X12_rankOf l D cI cJ cZ cS aM aM_s aM_ke aM_te aM_re aM_bo aM_bn aM_sh aM_in aM_su aM_gr aM_tr aM_ou aM_ro M_s M_km M_n M_be M_ma M_so M_bo M_bn M_om (st13.2 (Int32.toNatClampNeg (st13.1 - 1))) e11 hc11) k6 hK hP hD hS hA 0 rfl rfl rfl rfl hl.1 rfl (Nat.le_of_ble_eq_true rfl) ⟨Nat.zero_le _, Nat.zero_le _⟩ dX12_layRow_37 [0, 1, 2, 3] rfl rfl wa_X12_rankOf (sa_eq [(aM_ro, .inl (cI, 5, .inl st13.2))] [4] 5 rfl rfl rfl rfl rfl rfl rfl) (fun H locs hP hD hS => ?_)
        refine lv_aload_n hx hb dX12_layRow_40 rfl (lv_at hl 0 rfl) ?_
        refine lv_aload_n hx hb dX12_layRow_41 rfl (lv_at hl 0 rfl) ?_
        refine lv_iload_n hx hb dX12_layRow_42 rfl (lv_at hl 1 rfl) ?_
        refine lv_iload_n hx hb dX12_layRow_43 rfl (lv_at hl 2 rfl) ?_
        replace hm := bd_some hm
        obtain ⟨e12, hc12, hm⟩ := hm
        refine kV_i (rest := [.ref aM, .int e11]) (ws' := (w_X12_layRow cI aM aM_s aM_ke aM_te aM_re aM_bo aM_bn aM_sh aM_in aM_su aM_gr aM_tr aM_ou aM_ro M_s M_km M_n M_be M_ma M_so M_bo M_bn M_om st13.2)) S (c_X12_cited l D cI cJ cZ cS aM aM_s aM_ke aM_te aM_re aM_bo aM_bn aM_sh aM_in aM_su aM_gr aM_tr aM_ou aM_ro M_s M_km M_n M_be M_ma M_so M_om x1 st2.1 e12 hc12) k4 hK hP hD hS hA 0 rfl rfl rfl rfl hl.1 rfl (Nat.le_of_ble_eq_true rfl) ⟨Nat.zero_le _, Nat.zero_le _⟩ dX12_layRow_44 [0, 1] rfl rfl wa_X12_cited (sa_eq [(aM_bo, .inl (cI, 8, .inl M_bo)), (aM_bn, .inl (cI, 8, .inl M_bn)), (aM_ro, .inl (cI, 5, .inl st13.2))] [2, 3, 4] 5 rfl rfl rfl rfl rfl rfl rfl) (fun H locs hP hD hS => ?_)
        replace hm := bd_some hm
        obtain ⟨e13, hc13, hm⟩ := hm
        refine kV_i (rest := [.int e11]) (ws' := (w_X12_layRow cI aM aM_s aM_ke aM_te aM_re aM_bo aM_bn aM_sh aM_in aM_su aM_gr aM_tr aM_ou aM_ro M_s M_km M_n M_be M_ma M_so M_bo M_bn M_om st13.2)) S (c_X12_rankOf l D cI cJ cZ cS aM aM_s aM_ke aM_te aM_re aM_bo aM_bn aM_sh aM_in aM_su aM_gr aM_tr aM_ou aM_ro M_s M_km M_n M_be M_ma M_so M_bo M_bn M_om e12 e13 hc13) k6 hK hP hD hS hA 0 rfl rfl rfl rfl hl.1 rfl (Nat.le_of_ble_eq_true rfl) ⟨Nat.zero_le _, Nat.zero_le _⟩ dX12_layRow_47 [0, 1, 2, 3] rfl rfl wa_X12_rankOf (sa_eq [(aM_ro, .inl (cI, 5, .inl st13.2))] [4] 5 rfl rfl rfl rfl rfl rfl rfl) (fun H locs hP hD hS => ?_)
        refine lv_icmp_le (tgt := 73) hx hb dX12_layRow_50 (by decide) (fun c14 => ?_) (fun c14 => ?_)
        · replace hm := if_t c14 hm
          have h9 := hE _ (Option.some.inj hm).symm
          subst h9
          exact X4_0 H locs ls hP hD hS (lv_sub hl [0, 1, 2, 3] rfl)
        · replace hm := if_f c14 hm
          refine lv_aload_n hx hb dX12_layRow_53 rfl (lv_at hl 0 rfl) ?_
          refine va_get (D := D) (ci := 12) (v := .ref aM_ro) (C := RX12) (T := TX12) (N := 19) hx hb hts k3 hown hKv hP 0 rfl rfl 18 (by decide) k2 (fun _ h9 => h9) rfl dX12_layRow_54 ?_
          refine lv_iload_n hx hb dX12_layRow_57 rfl (lv_at hl 3 rfl) ?_
          refine lv_aload_n hx hb dX12_layRow_58 rfl (lv_at hl 0 rfl) ?_
          refine va_get (D := D) (ci := 12) (v := .ref aM_ro) (C := RX12) (T := TX12) (N := 19) hx hb hts k3 hown hKv hP 0 rfl rfl 18 (by decide) k2 (fun _ h9 => h9) rfl dX12_layRow_59 ?_
          refine lv_iload_n hx hb dX12_layRow_62 rfl (lv_at hl 3 rfl) ?_
          refine lv_iconst (v := 1) hx hb dX12_layRow_63 (by decide) ?_
          refine lv_isub hx hb dX12_layRow_64 ?_
          replace hm := ck_some hm
          obtain ⟨h15, hm⟩ := hm
          refine va_iald hx hb hKv hP 4 0 rfl rfl h15 dX12_layRow_65 ?_
          replace hm := ck_some hm
          obtain ⟨h16, hm⟩ := hm
          refine va_iast hx hb hKv hP hD hS 4 0 rfl rfl h16 dX12_layRow_66 (fun H locs hP hD hS => ?_)
          replace hP : va_P D vwCl (w_X12_layRow cI aM aM_s aM_ke aM_te aM_re aM_bo aM_bn aM_sh aM_in aM_su aM_gr aM_tr aM_ou aM_ro M_s M_km M_n M_be M_ma M_so M_bo M_bn M_om (upd st13.2 (Int32.toNatClampNeg st13.1) (st13.2 (Int32.toNatClampNeg (st13.1 - 1))))) H := hP
          replace hD : va_D A (w_X12_layRow cI aM aM_s aM_ke aM_te aM_re aM_bo aM_bn aM_sh aM_in aM_su aM_gr aM_tr aM_ou aM_ro M_s M_km M_n M_be M_ma M_so M_bo M_bn M_om (upd st13.2 (Int32.toNatClampNeg st13.1) (st13.2 (Int32.toNatClampNeg (st13.1 - 1))))) := hD
          refine lv_iinc (v := (st13.1 + (-1))) (lv' := [(3, .int (st13.1 + (-1))), (0, .ref aM), (1, .int x1), (2, .int st2.1)]) hx hb dX12_layRow_67 hl (k := 3) rfl rfl (by decide) rfl (fun ls hl => ?_)
          refine lv_goto (tgt := 13) hx hb dX12_layRow_70 (by decide) ?_
          exact hG _ (Option.some.inj hm).symm H locs ls hP hD hS (lv_sub hl [1, 2, 3, 0] rfl)
set_option maxHeartbeats 4000000 in
set_option maxRecDepth 100000 in
theorem c_X12_nextLexeme (l : Launch) (D : va_G) (cI cJ cZ cS : ClassId) (aM aM_s aM_ke aM_te aM_re aM_bo aM_bn aM_sh aM_in aM_su aM_gr aM_tr aM_ou aM_ro : Nat) (M_km : Int32) (M_te : Nat → Int32) (M_n : Int32) (M_be : Int32) (M_ma : Int32) (M_so : Int32) (M_om : Int32) (o : Int32 × Int32 × Int32) (hm : m_X12_nextLexeme M_te M_n M_be M_ma M_so = some o) : MV l yX12_nextLexeme wsX12_nextLexeme rm_X12_nextLexeme D (TY cI cJ cZ cS) [.ref aM] (w_X12_nextLexeme cI aM aM_s aM_ke aM_te aM_re aM_bo aM_bn aM_sh aM_in aM_su aM_gr aM_tr aM_ou aM_ro M_km M_te M_n M_be M_ma M_so M_om) (w_X12_nextLexeme cI aM aM_s aM_ke aM_te aM_re aM_bo aM_bn aM_sh aM_in aM_su aM_gr aM_tr aM_ou aM_ro M_km M_te M_n o.1 o.2.1 o.2.2 M_om) := by
  refine MV_of (cc := cX12_nextLexeme) (maxL := 1) (by decide) rfl (Nat.le_of_ble_eq_true rfl) ?_
  intro p e s m args below meth c A Q ls H locs hx hb hml hts hown hK hA hP hD hS hl hret
  have hown : s.vm.findClass RX12 = some m.cls := hown
  have hKv : va_K D vwCl (TY cI cJ cZ cS) s := hK.1
  have hl : lv_has ls 1 [(0, .ref aM)] := hl
  have S : CallFix p m c cX12_nextLexeme 1 s args wsX12_nextLexeme RX12 := ⟨hx, hb, hml, hown, hts⟩
  have k1 := hts (.fieldLink RX12 78 "CitationFormatterModel" "many" "I") (by decide +kernel)
  have k2 : ∀ w ∈ wsX120, w ∈ wsX12_nextLexeme := by decide +kernel
  have k3 := hts (.fieldLink RX12 81 "CitationFormatterModel" "sort" "I") (by decide +kernel)
  have k4 := hts (.fieldLink RX12 75 "CitationFormatterModel" "begins" "I") (by decide +kernel)
  have k5 : CallW rm_X12_nextLexeme s args RX12 RX12 84 yX12_isLow cX12_isLow 2 (some .boolean) wsX12_isLow rm_X12_isLow 0 0 1 := cwV 1 hts gX12_nextLexeme_X12_isLow rfl rfl rfl (by decide +kernel) ⟨Nat.le_of_ble_eq_true rfl, Nat.le_of_ble_eq_true rfl⟩
  have k6 : CallW rm_X12_nextLexeme s args RX12 RX12 88 yX12_isFigure cX12_isFigure 2 (some .boolean) wsX12_isFigure rm_X12_isFigure 0 0 1 := cwV 1 hts gX12_nextLexeme_X12_isFigure rfl rfl rfl (by decide +kernel) ⟨Nat.le_of_ble_eq_true rfl, Nat.le_of_ble_eq_true rfl⟩
  have k7 : CallW rm_X12_nextLexeme s args RX12 RX12 63 yX12_letterAt cX12_letterAt 2 (some .int) wsX12_letterAt rm_X12_letterAt 0 0 1 := cwV 1 hts gX12_nextLexeme_X12_letterAt rfl rfl rfl (by decide +kernel) ⟨Nat.le_of_ble_eq_true rfl, Nat.le_of_ble_eq_true rfl⟩
  have k8 := hts (.constantLong RX12 91 65) (by decide +kernel)
  have k9 := hts (.constantLong RX12 93 90) (by decide +kernel)
  have k10 : CallB rm_X12_nextLexeme s args RX12 50 yX12_in cX12_in 6 (some .boolean) wsX12_in rm_X12_in 0 0 3 ∧ (Cond.static yX12_in).before args s = true := va_cwS 3 hts gX12_nextLexeme_X12_in rfl rfl rfl (by decide +kernel) ⟨Nat.le_of_ble_eq_true rfl, Nat.le_of_ble_eq_true rfl⟩
  have k11 := hts (.fieldLink RX12 60 "CitationFormatterModel" "length" "I") (by decide +kernel)
  have J198 : ∀ (M_be_j198 : Int32) (M_ma_j198 : Int32) (M_so_j198 : Int32), (m_X12_nextLexeme_J198 M_be_j198 M_ma_j198 M_so_j198 = some o) → ∀ (H : Heap) (locs : List Loc) (ls : Array Slot), va_P D vwCl (w_X12_nextLexeme cI aM aM_s aM_ke aM_te aM_re aM_bo aM_bn aM_sh aM_in aM_su aM_gr aM_tr aM_ou aM_ro M_km M_te M_n M_be_j198 M_ma_j198 M_so_j198 M_om) H → va_D A (w_X12_nextLexeme cI aM aM_s aM_ke aM_te aM_re aM_bo aM_bn aM_sh aM_in aM_su aM_gr aM_tr aM_ou aM_ro M_km M_te M_n M_be_j198 M_ma_j198 M_so_j198 M_om) → va_S A s.heap H locs → lv_has ls 1 [(0, .ref aM)] → W p l e rm_X12_nextLexeme s m args below meth c H locs 0 0 Q (F0 m 198 ls []) := by
    intro M_be_j198 M_ma_j198 M_so_j198 hm H locs ls hP hD hS hl
    have h9 := Option.some.inj hm
    subst h9
    exact hret H locs _ ls hP hD hS dX12_nextLexeme_198
  have J56 : ∀ (y0_j56 : Int32) (M_be_j56 : Int32) (M_ma_j56 : Int32) (M_so_j56 : Int32), (m_X12_nextLexeme_J56 y0_j56 M_te M_n M_be_j56 M_ma_j56 M_so_j56 = some o) → ∀ (H : Heap) (locs : List Loc) (ls : Array Slot), va_P D vwCl (w_X12_nextLexeme cI aM aM_s aM_ke aM_te aM_re aM_bo aM_bn aM_sh aM_in aM_su aM_gr aM_tr aM_ou aM_ro M_km M_te M_n M_be_j56 M_ma_j56 M_so_j56 M_om) H → va_D A (w_X12_nextLexeme cI aM aM_s aM_ke aM_te aM_re aM_bo aM_bn aM_sh aM_in aM_su aM_gr aM_tr aM_ou aM_ro M_km M_te M_n M_be_j56 M_ma_j56 M_so_j56 M_om) → va_S A s.heap H locs → lv_has ls 1 [(0, .ref aM)] → W p l e rm_X12_nextLexeme s m args below meth c H locs 0 0 Q (F0 m 56 ls [.int y0_j56, .ref aM]) := by
    intro y0_j56 M_be_j56 M_ma_j56 M_so_j56 hm H locs ls hP hD hS hl
    refine va_put (D := D) (ci := 12) (v := .int y0_j56) (ty := .int) (C := RX12) (T := TX12) (N := 19) hx hb hts k2 tyX12 tyX12_ok nmX12 hown hKv hP hD hS 0 rfl rfl 7 (by decide) k1 (fun _ h9 => h9) rfl (by decide +kernel) rfl rfl (Nat.le_of_ble_eq_true rfl) dX12_nextLexeme_56 (fun H locs hP hD hS => ?_)
    replace hP : va_P D vwCl (w_X12_nextLexeme cI aM aM_s aM_ke aM_te aM_re aM_bo aM_bn aM_sh aM_in aM_su aM_gr aM_tr aM_ou aM_ro M_km M_te M_n M_be_j56 y0_j56 M_so_j56 M_om) H := hP
    replace hD : va_D A (w_X12_nextLexeme cI aM aM_s aM_ke aM_te aM_re aM_bo aM_bn aM_sh aM_in aM_su aM_gr aM_tr aM_ou aM_ro M_km M_te M_n M_be_j56 y0_j56 M_so_j56 M_om) := hD
    refine lv_aload_n hx hb dX12_nextLexeme_59 rfl (lv_at hl 0 rfl) ?_
    refine lv_iconst (v := 4) hx hb dX12_nextLexeme_60 (by decide) ?_
    refine va_put (D := D) (ci := 12) (v := .int 4) (ty := .int) (C := RX12) (T := TX12) (N := 19) hx hb hts k2 tyX12 tyX12_ok nmX12 hown hKv hP hD hS 0 rfl rfl 8 (by decide) k3 (fun _ h9 => h9) rfl (by decide +kernel) rfl rfl (Nat.le_of_ble_eq_true rfl) dX12_nextLexeme_61 (fun H locs hP hD hS => ?_)
    replace hP : va_P D vwCl (w_X12_nextLexeme cI aM aM_s aM_ke aM_te aM_re aM_bo aM_bn aM_sh aM_in aM_su aM_gr aM_tr aM_ou aM_ro M_km M_te M_n M_be_j56 y0_j56 4 M_om) H := hP
    replace hD : va_D A (w_X12_nextLexeme cI aM aM_s aM_ke aM_te aM_re aM_bo aM_bn aM_sh aM_in aM_su aM_gr aM_tr aM_ou aM_ro M_km M_te M_n M_be_j56 y0_j56 4 M_om) := hD
    refine lv_aload_n hx hb dX12_nextLexeme_64 rfl (lv_at hl 0 rfl) ?_
    refine lv_aload_n hx hb dX12_nextLexeme_65 rfl (lv_at hl 0 rfl) ?_
    refine va_get (D := D) (ci := 12) (v := .int M_be_j56) (C := RX12) (T := TX12) (N := 19) hx hb hts k2 hown hKv hP 0 rfl rfl 6 (by decide) k4 (fun _ h9 => h9) rfl dX12_nextLexeme_66 ?_
    replace hm := bd_some hm
    obtain ⟨e1, hc1, hm⟩ := hm
    refine kV_i (rest := []) (ws' := (w_X12_nextLexeme cI aM aM_s aM_ke aM_te aM_re aM_bo aM_bn aM_sh aM_in aM_su aM_gr aM_tr aM_ou aM_ro M_km M_te M_n M_be_j56 y0_j56 4 M_om)) S (c_X12_isLow l D cI cJ cZ cS aM aM_s aM_ke aM_te aM_re aM_bo aM_bn aM_sh aM_in aM_su aM_gr aM_tr aM_ou aM_ro M_km M_te M_n M_be_j56 y0_j56 4 M_om M_be_j56 e1 hc1) k5 hK hP hD hS hA 0 rfl rfl rfl rfl hl.1 rfl (Nat.le_of_ble_eq_true rfl) ⟨Nat.zero_le _, Nat.zero_le _⟩ dX12_nextLexeme_69 [0, 1] rfl rfl wa_X12_isLow (sa_eq [] [] 2 rfl rfl rfl rfl rfl rfl rfl) (fun H locs hP hD hS => ?_)
    refine lv_if_eq (tgt := 109) hx hb dX12_nextLexeme_72 (by decide) (fun c2 => ?_) (fun c2 => ?_)
    · replace hm := if_t c2 hm
      refine lv_aload_n hx hb dX12_nextLexeme_109 rfl (lv_at hl 0 rfl) ?_
      refine lv_aload_n hx hb dX12_nextLexeme_110 rfl (lv_at hl 0 rfl) ?_
      refine va_get (D := D) (ci := 12) (v := .int M_be_j56) (C := RX12) (T := TX12) (N := 19) hx hb hts k2 hown hKv hP 0 rfl rfl 6 (by decide) k4 (fun _ h9 => h9) rfl dX12_nextLexeme_111 ?_
      replace hm := bd_some hm
      obtain ⟨e3, hc3, hm⟩ := hm
      refine kV_i (rest := []) (ws' := (w_X12_nextLexeme cI aM aM_s aM_ke aM_te aM_re aM_bo aM_bn aM_sh aM_in aM_su aM_gr aM_tr aM_ou aM_ro M_km M_te M_n M_be_j56 y0_j56 4 M_om)) S (c_X12_isFigure l D cI cJ cZ cS aM aM_s aM_ke aM_te aM_re aM_bo aM_bn aM_sh aM_in aM_su aM_gr aM_tr aM_ou aM_ro M_km M_te M_n M_be_j56 y0_j56 4 M_om M_be_j56 e3 hc3) k6 hK hP hD hS hA 0 rfl rfl rfl rfl hl.1 rfl (Nat.le_of_ble_eq_true rfl) ⟨Nat.zero_le _, Nat.zero_le _⟩ dX12_nextLexeme_114 [0, 1] rfl rfl wa_X12_isFigure (sa_eq [] [] 2 rfl rfl rfl rfl rfl rfl rfl) (fun H locs hP hD hS => ?_)
      refine lv_if_eq (tgt := 154) hx hb dX12_nextLexeme_117 (by decide) (fun c4 => ?_) (fun c4 => ?_)
      · replace hm := if_t c4 hm
        refine lv_aload_n hx hb dX12_nextLexeme_154 rfl (lv_at hl 0 rfl) ?_
        refine lv_aload_n hx hb dX12_nextLexeme_155 rfl (lv_at hl 0 rfl) ?_
        refine va_get (D := D) (ci := 12) (v := .int M_be_j56) (C := RX12) (T := TX12) (N := 19) hx hb hts k2 hown hKv hP 0 rfl rfl 6 (by decide) k4 (fun _ h9 => h9) rfl dX12_nextLexeme_156 ?_
        replace hm := bd_some hm
        obtain ⟨e5, hc5, hm⟩ := hm
        refine kV_i (rest := []) (ws' := (w_X12_nextLexeme cI aM aM_s aM_ke aM_te aM_re aM_bo aM_bn aM_sh aM_in aM_su aM_gr aM_tr aM_ou aM_ro M_km M_te M_n M_be_j56 y0_j56 4 M_om)) S (c_X12_letterAt l D cI cJ cZ cS aM aM_s aM_ke aM_te aM_re aM_bo aM_bn aM_sh aM_in aM_su aM_gr aM_tr aM_ou aM_ro M_km M_te M_n M_be_j56 y0_j56 4 M_om M_be_j56 e5 hc5) k7 hK hP hD hS hA 0 rfl rfl rfl rfl hl.1 rfl (Nat.le_of_ble_eq_true rfl) ⟨Nat.zero_le _, Nat.zero_le _⟩ dX12_nextLexeme_159 [0, 1] rfl rfl wa_X12_letterAt (sa_eq [] [] 2 rfl rfl rfl rfl rfl rfl rfl) (fun H locs hP hD hS => ?_)
        refine lv_i2l hx hb dX12_nextLexeme_162 rfl ?_
        refine lv_ldc2 hx hb hown k8 dX12_nextLexeme_163 ?_
        refine lv_ldc2 hx hb hown k9 dX12_nextLexeme_166 ?_
        replace hm := bd_some hm
        obtain ⟨e6, hc6, hm⟩ := hm
        refine kS_i (rest := []) S (c_X12_in l D cI cJ cZ cS (Int32.toInt64 e5) 65 90 e6 hc6) k10 hK hP hD hS hA rfl hl.1 rfl (Nat.le_of_ble_eq_true rfl) ⟨Nat.zero_le _, Nat.zero_le _⟩ dX12_nextLexeme_169 (fun H locs hP hD hS => ?_)
        refine lv_if_eq (tgt := 198) hx hb dX12_nextLexeme_172 (by decide) (fun c7 => ?_) (fun c7 => ?_)
        · replace hm := if_t c7 hm
          exact J198 M_be_j56 y0_j56 4 hm H locs ls hP hD hS (lv_sub hl [0] rfl)
        · replace hm := if_f c7 hm
          refine lv_aload_n hx hb dX12_nextLexeme_175 rfl (lv_at hl 0 rfl) ?_
          refine lv_aload_n hx hb dX12_nextLexeme_176 rfl (lv_at hl 0 rfl) ?_
          refine va_get (D := D) (ci := 12) (v := .int M_be_j56) (C := RX12) (T := TX12) (N := 19) hx hb hts k2 hown hKv hP 0 rfl rfl 6 (by decide) k4 (fun _ h9 => h9) rfl dX12_nextLexeme_177 ?_
          refine lv_iconst (v := 1) hx hb dX12_nextLexeme_180 (by decide) ?_
          refine lv_iadd hx hb dX12_nextLexeme_181 ?_
          replace hm := bd_some hm
          obtain ⟨e8, hc8, hm⟩ := hm
          refine kV_i (rest := []) (ws' := (w_X12_nextLexeme cI aM aM_s aM_ke aM_te aM_re aM_bo aM_bn aM_sh aM_in aM_su aM_gr aM_tr aM_ou aM_ro M_km M_te M_n M_be_j56 y0_j56 4 M_om)) S (c_X12_isLow l D cI cJ cZ cS aM aM_s aM_ke aM_te aM_re aM_bo aM_bn aM_sh aM_in aM_su aM_gr aM_tr aM_ou aM_ro M_km M_te M_n M_be_j56 y0_j56 4 M_om (M_be_j56 + 1) e8 hc8) k5 hK hP hD hS hA 0 rfl rfl rfl rfl hl.1 rfl (Nat.le_of_ble_eq_true rfl) ⟨Nat.zero_le _, Nat.zero_le _⟩ dX12_nextLexeme_182 [0, 1] rfl rfl wa_X12_isLow (sa_eq [] [] 2 rfl rfl rfl rfl rfl rfl rfl) (fun H locs hP hD hS => ?_)
          refine lv_if_eq (tgt := 198) hx hb dX12_nextLexeme_185 (by decide) (fun c9 => ?_) (fun c9 => ?_)
          · replace hm := if_t c9 hm
            exact J198 M_be_j56 y0_j56 4 hm H locs ls hP hD hS (lv_sub hl [0] rfl)
          · replace hm := if_f c9 hm
            refine lv_aload_n hx hb dX12_nextLexeme_188 rfl (lv_at hl 0 rfl) ?_
            refine lv_iconst (v := 2) hx hb dX12_nextLexeme_189 (by decide) ?_
            refine va_put (D := D) (ci := 12) (v := .int 2) (ty := .int) (C := RX12) (T := TX12) (N := 19) hx hb hts k2 tyX12 tyX12_ok nmX12 hown hKv hP hD hS 0 rfl rfl 8 (by decide) k3 (fun _ h9 => h9) rfl (by decide +kernel) rfl rfl (Nat.le_of_ble_eq_true rfl) dX12_nextLexeme_190 (fun H locs hP hD hS => ?_)
            replace hP : va_P D vwCl (w_X12_nextLexeme cI aM aM_s aM_ke aM_te aM_re aM_bo aM_bn aM_sh aM_in aM_su aM_gr aM_tr aM_ou aM_ro M_km M_te M_n M_be_j56 y0_j56 2 M_om) H := hP
            replace hD : va_D A (w_X12_nextLexeme cI aM aM_s aM_ke aM_te aM_re aM_bo aM_bn aM_sh aM_in aM_su aM_gr aM_tr aM_ou aM_ro M_km M_te M_n M_be_j56 y0_j56 2 M_om) := hD
            refine lv_aload_n hx hb dX12_nextLexeme_193 rfl (lv_at hl 0 rfl) ?_
            refine lv_iconst (v := 2) hx hb dX12_nextLexeme_194 (by decide) ?_
            refine va_put (D := D) (ci := 12) (v := .int 2) (ty := .int) (C := RX12) (T := TX12) (N := 19) hx hb hts k2 tyX12 tyX12_ok nmX12 hown hKv hP hD hS 0 rfl rfl 7 (by decide) k1 (fun _ h9 => h9) rfl (by decide +kernel) rfl rfl (Nat.le_of_ble_eq_true rfl) dX12_nextLexeme_195 (fun H locs hP hD hS => ?_)
            replace hP : va_P D vwCl (w_X12_nextLexeme cI aM aM_s aM_ke aM_te aM_re aM_bo aM_bn aM_sh aM_in aM_su aM_gr aM_tr aM_ou aM_ro M_km M_te M_n M_be_j56 2 2 M_om) H := hP
            replace hD : va_D A (w_X12_nextLexeme cI aM aM_s aM_ke aM_te aM_re aM_bo aM_bn aM_sh aM_in aM_su aM_gr aM_tr aM_ou aM_ro M_km M_te M_n M_be_j56 2 2 M_om) := hD
            exact J198 M_be_j56 2 2 hm H locs ls hP hD hS (lv_sub hl [0] rfl)
      · replace hm := if_f c4 hm
        refine lv_aload_n hx hb dX12_nextLexeme_120 rfl (lv_at hl 0 rfl) ?_
        refine lv_iconst (v := 3) hx hb dX12_nextLexeme_121 (by decide) ?_
        refine va_put (D := D) (ci := 12) (v := .int 3) (ty := .int) (C := RX12) (T := TX12) (N := 19) hx hb hts k2 tyX12 tyX12_ok nmX12 hown hKv hP hD hS 0 rfl rfl 8 (by decide) k3 (fun _ h9 => h9) rfl (by decide +kernel) rfl rfl (Nat.le_of_ble_eq_true rfl) dX12_nextLexeme_122 (fun H locs hP hD hS => ?_)
        replace hP : va_P D vwCl (w_X12_nextLexeme cI aM aM_s aM_ke aM_te aM_re aM_bo aM_bn aM_sh aM_in aM_su aM_gr aM_tr aM_ou aM_ro M_km M_te M_n M_be_j56 y0_j56 3 M_om) H := hP
        replace hD : va_D A (w_X12_nextLexeme cI aM aM_s aM_ke aM_te aM_re aM_bo aM_bn aM_sh aM_in aM_su aM_gr aM_tr aM_ou aM_ro M_km M_te M_n M_be_j56 y0_j56 3 M_om) := hD
        replace hm := bd_some hm
        obtain ⟨e10, hc10, hm⟩ := hm
        have X10_0 : ∀ (H : Heap) (locs : List Loc) (ls : Array Slot), va_P D vwCl (w_X12_nextLexeme cI aM aM_s aM_ke aM_te aM_re aM_bo aM_bn aM_sh aM_in aM_su aM_gr aM_tr aM_ou aM_ro M_km M_te M_n M_be_j56 e10 3 M_om) H → va_D A (w_X12_nextLexeme cI aM aM_s aM_ke aM_te aM_re aM_bo aM_bn aM_sh aM_in aM_su aM_gr aM_tr aM_ou aM_ro M_km M_te M_n M_be_j56 e10 3 M_om) → va_S A s.heap H locs → lv_has ls 1 [(0, .ref aM)] → W p l e rm_X12_nextLexeme s m args below meth c H locs 0 0 Q (F0 m 198 ls []) := by
          intro H locs ls hP hD hS hl
          exact J198 M_be_j56 e10 3 hm H locs ls hP hD hS (lv_sub hl [0] rfl)
        refine it_W (G := fun (st125 : Int32) => ∀ (H : Heap) (locs : List Loc) (ls : Array Slot), va_P D vwCl (w_X12_nextLexeme cI aM aM_s aM_ke aM_te aM_re aM_bo aM_bn aM_sh aM_in aM_su aM_gr aM_tr aM_ou aM_ro M_km M_te M_n M_be_j56 st125 3 M_om) H → va_D A (w_X12_nextLexeme cI aM aM_s aM_ke aM_te aM_re aM_bo aM_bn aM_sh aM_in aM_su aM_gr aM_tr aM_ou aM_ro M_km M_te M_n M_be_j56 st125 3 M_om) → va_S A s.heap H locs → lv_has ls 1 [(0, .ref aM)] → W p l e rm_X12_nextLexeme s m args below meth c H locs 0 0 Q (F0 m 125 ls [])) (e := e10) (fun st125 x hm hG hE => ?_) fu _ hc10 H locs ls hP hD hS (lv_sub hl [0] rfl)
        intro H locs ls hP hD hS hl
        refine lv_aload_n hx hb dX12_nextLexeme_125 rfl (lv_at hl 0 rfl) ?_
        refine lv_aload_n hx hb dX12_nextLexeme_126 rfl (lv_at hl 0 rfl) ?_
        refine va_get (D := D) (ci := 12) (v := .int M_be_j56) (C := RX12) (T := TX12) (N := 19) hx hb hts k2 hown hKv hP 0 rfl rfl 6 (by decide) k4 (fun _ h9 => h9) rfl dX12_nextLexeme_127 ?_
        refine lv_aload_n hx hb dX12_nextLexeme_130 rfl (lv_at hl 0 rfl) ?_
        refine va_get (D := D) (ci := 12) (v := .int st125) (C := RX12) (T := TX12) (N := 19) hx hb hts k2 hown hKv hP 0 rfl rfl 7 (by decide) k1 (fun _ h9 => h9) rfl dX12_nextLexeme_131 ?_
        refine lv_iadd hx hb dX12_nextLexeme_134 ?_
        replace hm := bd_some hm
        obtain ⟨e11, hc11, hm⟩ := hm
        refine kV_i (rest := []) (ws' := (w_X12_nextLexeme cI aM aM_s aM_ke aM_te aM_re aM_bo aM_bn aM_sh aM_in aM_su aM_gr aM_tr aM_ou aM_ro M_km M_te M_n M_be_j56 st125 3 M_om)) S (c_X12_isFigure l D cI cJ cZ cS aM aM_s aM_ke aM_te aM_re aM_bo aM_bn aM_sh aM_in aM_su aM_gr aM_tr aM_ou aM_ro M_km M_te M_n M_be_j56 st125 3 M_om (M_be_j56 + st125) e11 hc11) k6 hK hP hD hS hA 0 rfl rfl rfl rfl hl.1 rfl (Nat.le_of_ble_eq_true rfl) ⟨Nat.zero_le _, Nat.zero_le _⟩ dX12_nextLexeme_135 [0, 1] rfl rfl wa_X12_isFigure (sa_eq [] [] 2 rfl rfl rfl rfl rfl rfl rfl) (fun H locs hP hD hS => ?_)
        refine lv_if_eq (tgt := 198) hx hb dX12_nextLexeme_138 (by decide) (fun c12 => ?_) (fun c12 => ?_)
        · replace hm := if_t c12 hm
          have h9 := hE _ (Option.some.inj hm).symm
          subst h9
          exact X10_0 H locs ls hP hD hS (lv_sub hl [0] rfl)
        · replace hm := if_f c12 hm
          refine lv_aload_n hx hb dX12_nextLexeme_141 rfl (lv_at hl 0 rfl) ?_
          refine lv_dup hx hb dX12_nextLexeme_142 rfl ?_
          refine va_get (D := D) (ci := 12) (v := .int st125) (C := RX12) (T := TX12) (N := 19) hx hb hts k2 hown hKv hP 0 rfl rfl 7 (by decide) k1 (fun _ h9 => h9) rfl dX12_nextLexeme_143 ?_
          refine lv_iconst (v := 1) hx hb dX12_nextLexeme_146 (by decide) ?_
          refine lv_iadd hx hb dX12_nextLexeme_147 ?_
          refine va_put (D := D) (ci := 12) (v := .int (st125 + 1)) (ty := .int) (C := RX12) (T := TX12) (N := 19) hx hb hts k2 tyX12 tyX12_ok nmX12 hown hKv hP hD hS 0 rfl rfl 7 (by decide) k1 (fun _ h9 => h9) rfl (by decide +kernel) rfl rfl (Nat.le_of_ble_eq_true rfl) dX12_nextLexeme_148 (fun H locs hP hD hS => ?_)
          replace hP : va_P D vwCl (w_X12_nextLexeme cI aM aM_s aM_ke aM_te aM_re aM_bo aM_bn aM_sh aM_in aM_su aM_gr aM_tr aM_ou aM_ro M_km M_te M_n M_be_j56 (st125 + 1) 3 M_om) H := hP
          replace hD : va_D A (w_X12_nextLexeme cI aM aM_s aM_ke aM_te aM_re aM_bo aM_bn aM_sh aM_in aM_su aM_gr aM_tr aM_ou aM_ro M_km M_te M_n M_be_j56 (st125 + 1) 3 M_om) := hD
          refine lv_goto (tgt := 125) hx hb dX12_nextLexeme_151 (by decide) ?_
          exact hG _ (Option.some.inj hm).symm H locs ls hP hD hS (lv_sub hl [0] rfl)
    · replace hm := if_f c2 hm
      refine lv_aload_n hx hb dX12_nextLexeme_75 rfl (lv_at hl 0 rfl) ?_
      refine lv_iconst (v := 1) hx hb dX12_nextLexeme_76 (by decide) ?_
      refine va_put (D := D) (ci := 12) (v := .int 1) (ty := .int) (C := RX12) (T := TX12) (N := 19) hx hb hts k2 tyX12 tyX12_ok nmX12 hown hKv hP hD hS 0 rfl rfl 8 (by decide) k3 (fun _ h9 => h9) rfl (by decide +kernel) rfl rfl (Nat.le_of_ble_eq_true rfl) dX12_nextLexeme_77 (fun H locs hP hD hS => ?_)
      replace hP : va_P D vwCl (w_X12_nextLexeme cI aM aM_s aM_ke aM_te aM_re aM_bo aM_bn aM_sh aM_in aM_su aM_gr aM_tr aM_ou aM_ro M_km M_te M_n M_be_j56 y0_j56 1 M_om) H := hP
      replace hD : va_D A (w_X12_nextLexeme cI aM aM_s aM_ke aM_te aM_re aM_bo aM_bn aM_sh aM_in aM_su aM_gr aM_tr aM_ou aM_ro M_km M_te M_n M_be_j56 y0_j56 1 M_om) := hD
      replace hm := bd_some hm
      obtain ⟨e13, hc13, hm⟩ := hm
      have X13_0 : ∀ (H : Heap) (locs : List Loc) (ls : Array Slot), va_P D vwCl (w_X12_nextLexeme cI aM aM_s aM_ke aM_te aM_re aM_bo aM_bn aM_sh aM_in aM_su aM_gr aM_tr aM_ou aM_ro M_km M_te M_n M_be_j56 e13 1 M_om) H → va_D A (w_X12_nextLexeme cI aM aM_s aM_ke aM_te aM_re aM_bo aM_bn aM_sh aM_in aM_su aM_gr aM_tr aM_ou aM_ro M_km M_te M_n M_be_j56 e13 1 M_om) → va_S A s.heap H locs → lv_has ls 1 [(0, .ref aM)] → W p l e rm_X12_nextLexeme s m args below meth c H locs 0 0 Q (F0 m 198 ls []) := by
        intro H locs ls hP hD hS hl
        exact J198 M_be_j56 e13 1 hm H locs ls hP hD hS (lv_sub hl [0] rfl)
      refine it_W (G := fun (st80 : Int32) => ∀ (H : Heap) (locs : List Loc) (ls : Array Slot), va_P D vwCl (w_X12_nextLexeme cI aM aM_s aM_ke aM_te aM_re aM_bo aM_bn aM_sh aM_in aM_su aM_gr aM_tr aM_ou aM_ro M_km M_te M_n M_be_j56 st80 1 M_om) H → va_D A (w_X12_nextLexeme cI aM aM_s aM_ke aM_te aM_re aM_bo aM_bn aM_sh aM_in aM_su aM_gr aM_tr aM_ou aM_ro M_km M_te M_n M_be_j56 st80 1 M_om) → va_S A s.heap H locs → lv_has ls 1 [(0, .ref aM)] → W p l e rm_X12_nextLexeme s m args below meth c H locs 0 0 Q (F0 m 80 ls [])) (e := e13) (fun st80 x hm hG hE => ?_) fu _ hc13 H locs ls hP hD hS (lv_sub hl [0] rfl)
      intro H locs ls hP hD hS hl
      refine lv_aload_n hx hb dX12_nextLexeme_80 rfl (lv_at hl 0 rfl) ?_
      refine lv_aload_n hx hb dX12_nextLexeme_81 rfl (lv_at hl 0 rfl) ?_
      refine va_get (D := D) (ci := 12) (v := .int M_be_j56) (C := RX12) (T := TX12) (N := 19) hx hb hts k2 hown hKv hP 0 rfl rfl 6 (by decide) k4 (fun _ h9 => h9) rfl dX12_nextLexeme_82 ?_
      refine lv_aload_n hx hb dX12_nextLexeme_85 rfl (lv_at hl 0 rfl) ?_
      refine va_get (D := D) (ci := 12) (v := .int st80) (C := RX12) (T := TX12) (N := 19) hx hb hts k2 hown hKv hP 0 rfl rfl 7 (by decide) k1 (fun _ h9 => h9) rfl dX12_nextLexeme_86 ?_
      refine lv_iadd hx hb dX12_nextLexeme_89 ?_
      replace hm := bd_some hm
      obtain ⟨e14, hc14, hm⟩ := hm
      refine kV_i (rest := []) (ws' := (w_X12_nextLexeme cI aM aM_s aM_ke aM_te aM_re aM_bo aM_bn aM_sh aM_in aM_su aM_gr aM_tr aM_ou aM_ro M_km M_te M_n M_be_j56 st80 1 M_om)) S (c_X12_isLow l D cI cJ cZ cS aM aM_s aM_ke aM_te aM_re aM_bo aM_bn aM_sh aM_in aM_su aM_gr aM_tr aM_ou aM_ro M_km M_te M_n M_be_j56 st80 1 M_om (M_be_j56 + st80) e14 hc14) k5 hK hP hD hS hA 0 rfl rfl rfl rfl hl.1 rfl (Nat.le_of_ble_eq_true rfl) ⟨Nat.zero_le _, Nat.zero_le _⟩ dX12_nextLexeme_90 [0, 1] rfl rfl wa_X12_isLow (sa_eq [] [] 2 rfl rfl rfl rfl rfl rfl rfl) (fun H locs hP hD hS => ?_)
      refine lv_if_eq (tgt := 198) hx hb dX12_nextLexeme_93 (by decide) (fun c15 => ?_) (fun c15 => ?_)
      · replace hm := if_t c15 hm
        have h9 := hE _ (Option.some.inj hm).symm
        subst h9
        exact X13_0 H locs ls hP hD hS (lv_sub hl [0] rfl)
      · replace hm := if_f c15 hm
        refine lv_aload_n hx hb dX12_nextLexeme_96 rfl (lv_at hl 0 rfl) ?_
        refine lv_dup hx hb dX12_nextLexeme_97 rfl ?_
        refine va_get (D := D) (ci := 12) (v := .int st80) (C := RX12) (T := TX12) (N := 19) hx hb hts k2 hown hKv hP 0 rfl rfl 7 (by decide) k1 (fun _ h9 => h9) rfl dX12_nextLexeme_98 ?_
        refine lv_iconst (v := 1) hx hb dX12_nextLexeme_101 (by decide) ?_
        refine lv_iadd hx hb dX12_nextLexeme_102 ?_
        refine va_put (D := D) (ci := 12) (v := .int (st80 + 1)) (ty := .int) (C := RX12) (T := TX12) (N := 19) hx hb hts k2 tyX12 tyX12_ok nmX12 hown hKv hP hD hS 0 rfl rfl 7 (by decide) k1 (fun _ h9 => h9) rfl (by decide +kernel) rfl rfl (Nat.le_of_ble_eq_true rfl) dX12_nextLexeme_103 (fun H locs hP hD hS => ?_)
        replace hP : va_P D vwCl (w_X12_nextLexeme cI aM aM_s aM_ke aM_te aM_re aM_bo aM_bn aM_sh aM_in aM_su aM_gr aM_tr aM_ou aM_ro M_km M_te M_n M_be_j56 (st80 + 1) 1 M_om) H := hP
        replace hD : va_D A (w_X12_nextLexeme cI aM aM_s aM_ke aM_te aM_re aM_bo aM_bn aM_sh aM_in aM_su aM_gr aM_tr aM_ou aM_ro M_km M_te M_n M_be_j56 (st80 + 1) 1 M_om) := hD
        refine lv_goto (tgt := 80) hx hb dX12_nextLexeme_106 (by decide) ?_
        exact hG _ (Option.some.inj hm).symm H locs ls hP hD hS (lv_sub hl [0] rfl)
  refine lv_aload_n hx hb dX12_nextLexeme_0 rfl (lv_at hl 0 rfl) ?_
  refine lv_dup hx hb dX12_nextLexeme_1 rfl ?_
  refine va_get (D := D) (ci := 12) (v := .int M_be) (C := RX12) (T := TX12) (N := 19) hx hb hts k2 hown hKv hP 0 rfl rfl 6 (by decide) k4 (fun _ h9 => h9) rfl dX12_nextLexeme_2 ?_
  refine lv_aload_n hx hb dX12_nextLexeme_5 rfl (lv_at hl 0 rfl) ?_
  refine va_get (D := D) (ci := 12) (v := .int M_ma) (C := RX12) (T := TX12) (N := 19) hx hb hts k2 hown hKv hP 0 rfl rfl 7 (by decide) k1 (fun _ h9 => h9) rfl dX12_nextLexeme_6 ?_
  refine lv_iadd hx hb dX12_nextLexeme_9 ?_
  refine va_put (D := D) (ci := 12) (v := .int (M_be + M_ma)) (ty := .int) (C := RX12) (T := TX12) (N := 19) hx hb hts k2 tyX12 tyX12_ok nmX12 hown hKv hP hD hS 0 rfl rfl 6 (by decide) k4 (fun _ h9 => h9) rfl (by decide +kernel) rfl rfl (Nat.le_of_ble_eq_true rfl) dX12_nextLexeme_10 (fun H locs hP hD hS => ?_)
  replace hP : va_P D vwCl (w_X12_nextLexeme cI aM aM_s aM_ke aM_te aM_re aM_bo aM_bn aM_sh aM_in aM_su aM_gr aM_tr aM_ou aM_ro M_km M_te M_n (M_be + M_ma) M_ma M_so M_om) H := hP
  replace hD : va_D A (w_X12_nextLexeme cI aM aM_s aM_ke aM_te aM_re aM_bo aM_bn aM_sh aM_in aM_su aM_gr aM_tr aM_ou aM_ro M_km M_te M_n (M_be + M_ma) M_ma M_so M_om) := hD
  replace hm := bd_some hm
  obtain ⟨e16, hc16, hm⟩ := hm
  have X16_0 : ∀ (H : Heap) (locs : List Loc) (ls : Array Slot), va_P D vwCl (w_X12_nextLexeme cI aM aM_s aM_ke aM_te aM_re aM_bo aM_bn aM_sh aM_in aM_su aM_gr aM_tr aM_ou aM_ro M_km M_te M_n e16 M_ma M_so M_om) H → va_D A (w_X12_nextLexeme cI aM aM_s aM_ke aM_te aM_re aM_bo aM_bn aM_sh aM_in aM_su aM_gr aM_tr aM_ou aM_ro M_km M_te M_n e16 M_ma M_so M_om) → va_S A s.heap H locs → lv_has ls 1 [(0, .ref aM)] → W p l e rm_X12_nextLexeme s m args below meth c H locs 0 0 Q (F0 m 39 ls []) := by
    intro H locs ls hP hD hS hl
    refine lv_aload_n hx hb dX12_nextLexeme_39 rfl (lv_at hl 0 rfl) ?_
    refine lv_aload_n hx hb dX12_nextLexeme_40 rfl (lv_at hl 0 rfl) ?_
    refine va_get (D := D) (ci := 12) (v := .int e16) (C := RX12) (T := TX12) (N := 19) hx hb hts k2 hown hKv hP 0 rfl rfl 6 (by decide) k4 (fun _ h9 => h9) rfl dX12_nextLexeme_41 ?_
    refine lv_aload_n hx hb dX12_nextLexeme_44 rfl (lv_at hl 0 rfl) ?_
    refine va_get (D := D) (ci := 12) (v := .int M_n) (C := RX12) (T := TX12) (N := 19) hx hb hts k2 hown hKv hP 0 rfl rfl 4 (by decide) k11 (fun _ h9 => h9) rfl dX12_nextLexeme_45 ?_
    refine lv_icmp_ge (tgt := 55) hx hb dX12_nextLexeme_48 (by decide) (fun c17 => ?_) (fun c17 => ?_)
    · replace hm := if_t c17 hm
      refine lv_iconst (v := 0) hx hb dX12_nextLexeme_55 (by decide) ?_
      exact J56 0 e16 M_ma M_so hm H locs ls hP hD hS (lv_sub hl [0] rfl)
    · replace hm := if_f c17 hm
      refine lv_iconst (v := 1) hx hb dX12_nextLexeme_51 (by decide) ?_
      refine lv_goto (tgt := 56) hx hb dX12_nextLexeme_52 (by decide) ?_
      exact J56 1 e16 M_ma M_so hm H locs ls hP hD hS (lv_sub hl [0] rfl)
  refine it_W (G := fun (st13 : Int32) => ∀ (H : Heap) (locs : List Loc) (ls : Array Slot), va_P D vwCl (w_X12_nextLexeme cI aM aM_s aM_ke aM_te aM_re aM_bo aM_bn aM_sh aM_in aM_su aM_gr aM_tr aM_ou aM_ro M_km M_te M_n st13 M_ma M_so M_om) H → va_D A (w_X12_nextLexeme cI aM aM_s aM_ke aM_te aM_re aM_bo aM_bn aM_sh aM_in aM_su aM_gr aM_tr aM_ou aM_ro M_km M_te M_n st13 M_ma M_so M_om) → va_S A s.heap H locs → lv_has ls 1 [(0, .ref aM)] → W p l e rm_X12_nextLexeme s m args below meth c H locs 0 0 Q (F0 m 13 ls [])) (e := e16) (fun st13 x hm hG hE => ?_) fu _ hc16 H locs ls hP hD hS (lv_sub hl [0] rfl)
  intro H locs ls hP hD hS hl
  refine lv_aload_n hx hb dX12_nextLexeme_13 rfl (lv_at hl 0 rfl) ?_
  refine lv_aload_n hx hb dX12_nextLexeme_14 rfl (lv_at hl 0 rfl) ?_
  refine va_get (D := D) (ci := 12) (v := .int st13) (C := RX12) (T := TX12) (N := 19) hx hb hts k2 hown hKv hP 0 rfl rfl 6 (by decide) k4 (fun _ h9 => h9) rfl dX12_nextLexeme_15 ?_
  replace hm := bd_some hm
  obtain ⟨e18, hc18, hm⟩ := hm
  refine kV_i (rest := []) (ws' := (w_X12_nextLexeme cI aM aM_s aM_ke aM_te aM_re aM_bo aM_bn aM_sh aM_in aM_su aM_gr aM_tr aM_ou aM_ro M_km M_te M_n st13 M_ma M_so M_om)) S (c_X12_letterAt l D cI cJ cZ cS aM aM_s aM_ke aM_te aM_re aM_bo aM_bn aM_sh aM_in aM_su aM_gr aM_tr aM_ou aM_ro M_km M_te M_n st13 M_ma M_so M_om st13 e18 hc18) k7 hK hP hD hS hA 0 rfl rfl rfl rfl hl.1 rfl (Nat.le_of_ble_eq_true rfl) ⟨Nat.zero_le _, Nat.zero_le _⟩ dX12_nextLexeme_18 [0, 1] rfl rfl wa_X12_letterAt (sa_eq [] [] 2 rfl rfl rfl rfl rfl rfl rfl) (fun H locs hP hD hS => ?_)
  refine lv_bipush (v := 32) hx hb dX12_nextLexeme_21 (by decide) ?_
  refine lv_icmp_ne (tgt := 39) hx hb dX12_nextLexeme_23 (by decide) (fun c19 => ?_) (fun c19 => ?_)
  · replace hm := if_f c19 hm
    have h9 := hE _ (Option.some.inj hm).symm
    subst h9
    exact X16_0 H locs ls hP hD hS (lv_sub hl [0] rfl)
  · replace hm := if_t c19 hm
    refine lv_aload_n hx hb dX12_nextLexeme_26 rfl (lv_at hl 0 rfl) ?_
    refine lv_dup hx hb dX12_nextLexeme_27 rfl ?_
    refine va_get (D := D) (ci := 12) (v := .int st13) (C := RX12) (T := TX12) (N := 19) hx hb hts k2 hown hKv hP 0 rfl rfl 6 (by decide) k4 (fun _ h9 => h9) rfl dX12_nextLexeme_28 ?_
    refine lv_iconst (v := 1) hx hb dX12_nextLexeme_31 (by decide) ?_
    refine lv_iadd hx hb dX12_nextLexeme_32 ?_
    refine va_put (D := D) (ci := 12) (v := .int (st13 + 1)) (ty := .int) (C := RX12) (T := TX12) (N := 19) hx hb hts k2 tyX12 tyX12_ok nmX12 hown hKv hP hD hS 0 rfl rfl 6 (by decide) k4 (fun _ h9 => h9) rfl (by decide +kernel) rfl rfl (Nat.le_of_ble_eq_true rfl) dX12_nextLexeme_33 (fun H locs hP hD hS => ?_)
    replace hP : va_P D vwCl (w_X12_nextLexeme cI aM aM_s aM_ke aM_te aM_re aM_bo aM_bn aM_sh aM_in aM_su aM_gr aM_tr aM_ou aM_ro M_km M_te M_n (st13 + 1) M_ma M_so M_om) H := hP
    replace hD : va_D A (w_X12_nextLexeme cI aM aM_s aM_ke aM_te aM_re aM_bo aM_bn aM_sh aM_in aM_su aM_gr aM_tr aM_ou aM_ro M_km M_te M_n (st13 + 1) M_ma M_so M_om) := hD
    refine lv_goto (tgt := 13) hx hb dX12_nextLexeme_36 (by decide) ?_
    exact hG _ (Option.some.inj hm).symm H locs ls hP hD hS (lv_sub hl [0] rfl)
set_option maxHeartbeats 4000000 in
set_option maxRecDepth 100000 in
theorem c_X12_readsWork (l : Launch) (D : va_G) (cI cJ cZ cS : ClassId) (aM aM_s aM_ke aM_te aM_re aM_bo aM_bn aM_sh aM_in aM_su aM_gr aM_tr aM_ou aM_ro : Nat) (M_km : Int32) (M_te : Nat → Int32) (M_n : Int32) (M_re : Nat → Int32) (M_be : Int32) (M_ma : Int32) (M_so : Int32) (M_om : Int32) (o : Int32 × (Nat → Int32) × Int32 × Int32 × Int32) (hm : m_X12_readsWork M_te M_n M_re M_be M_ma M_so = some o) : MI l yX12_readsWork wsX12_readsWork rm_X12_readsWork D (TY cI cJ cZ cS) [.ref aM] (w_X12_readsWork cI aM aM_s aM_ke aM_te aM_re aM_bo aM_bn aM_sh aM_in aM_su aM_gr aM_tr aM_ou aM_ro M_km M_te M_n M_re M_be M_ma M_so M_om) (w_X12_readsWork cI aM aM_s aM_ke aM_te aM_re aM_bo aM_bn aM_sh aM_in aM_su aM_gr aM_tr aM_ou aM_ro M_km M_te M_n o.2.1 o.2.2.1 o.2.2.2.1 o.2.2.2.2 M_om) (o.1) := by
  refine MZ_of (cc := cX12_readsWork) (maxL := 2) (by decide) rfl (Nat.le_of_ble_eq_true rfl) ?_
  intro p e s m args below meth c A Q ls H locs hx hb hml hts hown hK hA hP hD hS hl hret
  have hown : s.vm.findClass RX12 = some m.cls := hown
  have hKv : va_K D vwCl (TY cI cJ cZ cS) s := hK.1
  have hl : lv_has ls 2 [(0, .ref aM)] := hl
  have S : CallFix p m c cX12_readsWork 2 s args wsX12_readsWork RX12 := ⟨hx, hb, hml, hown, hts⟩
  have k1 := hts (.fieldLink RX12 19 "CitationFormatterModel" "read" "[I") (by decide +kernel)
  have k2 : ∀ w ∈ wsX120, w ∈ wsX12_readsWork := by decide +kernel
  have k3 : CallW rm_X12_readsWork s args RX12 RX12 95 yX12_nextLexeme cX12_nextLexeme 1 none wsX12_nextLexeme rm_X12_nextLexeme 0 0 0 := cwV 0 hts gX12_readsWork_X12_nextLexeme rfl rfl rfl (by decide +kernel) ⟨Nat.le_of_ble_eq_true rfl, Nat.le_of_ble_eq_true rfl⟩
  have k4 := hts (.fieldLink RX12 81 "CitationFormatterModel" "sort" "I") (by decide +kernel)
  have k5 := hts (.fieldLink RX12 78 "CitationFormatterModel" "many" "I") (by decide +kernel)
  have k6 := hts (.fieldLink RX12 16 "CitationFormatterModel" "text" "[I") (by decide +kernel)
  have k7 := hts (.fieldLink RX12 75 "CitationFormatterModel" "begins" "I") (by decide +kernel)
  have J135 : ∀ (M_re_j135 : Nat → Int32) (M_be_j135 : Int32) (M_ma_j135 : Int32) (M_so_j135 : Int32), (m_X12_readsWork_J135 M_re_j135 M_be_j135 M_ma_j135 M_so_j135 = some o) → ∀ (H : Heap) (locs : List Loc) (ls : Array Slot), va_P D vwCl (w_X12_readsWork cI aM aM_s aM_ke aM_te aM_re aM_bo aM_bn aM_sh aM_in aM_su aM_gr aM_tr aM_ou aM_ro M_km M_te M_n M_re_j135 M_be_j135 M_ma_j135 M_so_j135 M_om) H → va_D A (w_X12_readsWork cI aM aM_s aM_ke aM_te aM_re aM_bo aM_bn aM_sh aM_in aM_su aM_gr aM_tr aM_ou aM_ro M_km M_te M_n M_re_j135 M_be_j135 M_ma_j135 M_so_j135 M_om) → va_S A s.heap H locs → lv_has ls 2 [(0, .ref aM)] → W p l e rm_X12_readsWork s m args below meth c H locs 0 0 Q (F0 m 135 ls []) := by
    intro M_re_j135 M_be_j135 M_ma_j135 M_so_j135 hm H locs ls hP hD hS hl
    refine lv_iconst (v := 0) hx hb dX12_readsWork_135 (by decide) ?_
    have h9 := Option.some.inj hm
    subst h9
    exact hret H locs _ ls _ (Or.inl rfl) hP hD hS rfl dX12_readsWork_136
  have J195 : ∀ (M_re_j195 : Nat → Int32) (M_be_j195 : Int32) (M_ma_j195 : Int32) (M_so_j195 : Int32), (m_X12_readsWork_J195 M_re_j195 M_be_j195 M_ma_j195 M_so_j195 = some o) → ∀ (H : Heap) (locs : List Loc) (ls : Array Slot), va_P D vwCl (w_X12_readsWork cI aM aM_s aM_ke aM_te aM_re aM_bo aM_bn aM_sh aM_in aM_su aM_gr aM_tr aM_ou aM_ro M_km M_te M_n M_re_j195 M_be_j195 M_ma_j195 M_so_j195 M_om) H → va_D A (w_X12_readsWork cI aM aM_s aM_ke aM_te aM_re aM_bo aM_bn aM_sh aM_in aM_su aM_gr aM_tr aM_ou aM_ro M_km M_te M_n M_re_j195 M_be_j195 M_ma_j195 M_so_j195 M_om) → va_S A s.heap H locs → lv_has ls 2 [(0, .ref aM)] → W p l e rm_X12_readsWork s m args below meth c H locs 0 0 Q (F0 m 195 ls []) := by
    intro M_re_j195 M_be_j195 M_ma_j195 M_so_j195 hm H locs ls hP hD hS hl
    refine lv_iconst (v := 0) hx hb dX12_readsWork_195 (by decide) ?_
    have h9 := Option.some.inj hm
    subst h9
    exact hret H locs _ ls _ (Or.inl rfl) hP hD hS rfl dX12_readsWork_196
  have J258 : ∀ (y0_j258 : Int32) (M_re_j258 : Nat → Int32) (M_be_j258 : Int32) (M_ma_j258 : Int32) (M_so_j258 : Int32), (m_X12_readsWork_J258 y0_j258 M_re_j258 M_be_j258 M_ma_j258 M_so_j258 = some o) → ∀ (H : Heap) (locs : List Loc) (ls : Array Slot), va_P D vwCl (w_X12_readsWork cI aM aM_s aM_ke aM_te aM_re aM_bo aM_bn aM_sh aM_in aM_su aM_gr aM_tr aM_ou aM_ro M_km M_te M_n M_re_j258 M_be_j258 M_ma_j258 M_so_j258 M_om) H → va_D A (w_X12_readsWork cI aM aM_s aM_ke aM_te aM_re aM_bo aM_bn aM_sh aM_in aM_su aM_gr aM_tr aM_ou aM_ro M_km M_te M_n M_re_j258 M_be_j258 M_ma_j258 M_so_j258 M_om) → va_S A s.heap H locs → lv_has ls 2 [(0, .ref aM)] → W p l e rm_X12_readsWork s m args below meth c H locs 0 0 Q (F0 m 258 ls [.int y0_j258]) := by
    intro y0_j258 M_re_j258 M_be_j258 M_ma_j258 M_so_j258 hm H locs ls hP hD hS hl
    replace hm := ckb_some hm
    obtain ⟨h1, hm⟩ := hm
    have h9 := Option.some.inj hm
    subst h9
    exact hret H locs _ ls _ h1 hP hD hS rfl dX12_readsWork_258
  have J257 : ∀ (M_re_j257 : Nat → Int32) (M_be_j257 : Int32) (M_ma_j257 : Int32) (M_so_j257 : Int32), (m_X12_readsWork_J257 M_re_j257 M_be_j257 M_ma_j257 M_so_j257 = some o) → ∀ (H : Heap) (locs : List Loc) (ls : Array Slot), va_P D vwCl (w_X12_readsWork cI aM aM_s aM_ke aM_te aM_re aM_bo aM_bn aM_sh aM_in aM_su aM_gr aM_tr aM_ou aM_ro M_km M_te M_n M_re_j257 M_be_j257 M_ma_j257 M_so_j257 M_om) H → va_D A (w_X12_readsWork cI aM aM_s aM_ke aM_te aM_re aM_bo aM_bn aM_sh aM_in aM_su aM_gr aM_tr aM_ou aM_ro M_km M_te M_n M_re_j257 M_be_j257 M_ma_j257 M_so_j257 M_om) → va_S A s.heap H locs → lv_has ls 2 [(0, .ref aM)] → W p l e rm_X12_readsWork s m args below meth c H locs 0 0 Q (F0 m 257 ls []) := by
    intro M_re_j257 M_be_j257 M_ma_j257 M_so_j257 hm H locs ls hP hD hS hl
    refine lv_iconst (v := 0) hx hb dX12_readsWork_257 (by decide) ?_
    exact J258 0 M_re_j257 M_be_j257 M_ma_j257 M_so_j257 hm H locs ls hP hD hS (lv_sub hl [0] rfl)
  refine lv_iconst (v := 1) hx hb dX12_readsWork_0 (by decide) ?_
  refine lv_bipush (v := 7) hx hb dX12_readsWork_1 (by decide) ?_
  refine lv_aload_n hx hb dX12_readsWork_3 rfl (lv_at hl 0 rfl) ?_
  refine va_get (D := D) (ci := 12) (v := .ref aM_re) (C := RX12) (T := TX12) (N := 19) hx hb hts k2 hown hKv hP 0 rfl rfl 5 (by decide) k1 (fun _ h9 => h9) rfl dX12_readsWork_4 ?_
  refine lv_iconst (v := 0) hx hb dX12_readsWork_7 (by decide) ?_
  replace hm := ck_some hm
  obtain ⟨h2, hm⟩ := hm
  refine va_iald hx hb hKv hP 2 0 rfl rfl h2 dX12_readsWork_8 ?_
  refine lv_imul hx hb dX12_readsWork_9 ?_
  refine lv_iadd hx hb dX12_readsWork_10 ?_
  refine lv_istore_n (lv' := [(1, .int (1 + (7 * (M_re (Int32.toNatClampNeg 0))))), (0, .ref aM)]) hx hb dX12_readsWork_11 rfl hl (by decide) rfl (fun ls hl => ?_)
  refine lv_aload_n hx hb dX12_readsWork_12 rfl (lv_at hl 1 rfl) ?_
  refine va_get (D := D) (ci := 12) (v := .ref aM_re) (C := RX12) (T := TX12) (N := 19) hx hb hts k2 hown hKv hP 0 rfl rfl 5 (by decide) k1 (fun _ h9 => h9) rfl dX12_readsWork_13 ?_
  refine lv_iload_n hx hb dX12_readsWork_16 rfl (lv_at hl 0 rfl) ?_
  refine lv_iconst (v := 0) hx hb dX12_readsWork_17 (by decide) ?_
  replace hm := ck_some hm
  obtain ⟨h3, hm⟩ := hm
  refine va_iast hx hb hKv hP hD hS 2 0 rfl rfl h3 dX12_readsWork_18 (fun H locs hP hD hS => ?_)
  replace hP : va_P D vwCl (w_X12_readsWork cI aM aM_s aM_ke aM_te aM_re aM_bo aM_bn aM_sh aM_in aM_su aM_gr aM_tr aM_ou aM_ro M_km M_te M_n (upd M_re (Int32.toNatClampNeg (1 + (7 * (M_re (Int32.toNatClampNeg 0))))) 0) M_be M_ma M_so M_om) H := hP
  replace hD : va_D A (w_X12_readsWork cI aM aM_s aM_ke aM_te aM_re aM_bo aM_bn aM_sh aM_in aM_su aM_gr aM_tr aM_ou aM_ro M_km M_te M_n (upd M_re (Int32.toNatClampNeg (1 + (7 * (M_re (Int32.toNatClampNeg 0))))) 0) M_be M_ma M_so M_om) := hD
  refine lv_aload_n hx hb dX12_readsWork_19 rfl (lv_at hl 1 rfl) ?_
  replace hm := bd_some hm
  obtain ⟨e4, hc4, hm⟩ := hm
  refine kV_v (rest := []) (ws' := (w_X12_readsWork cI aM aM_s aM_ke aM_te aM_re aM_bo aM_bn aM_sh aM_in aM_su aM_gr aM_tr aM_ou aM_ro M_km M_te M_n (upd M_re (Int32.toNatClampNeg (1 + (7 * (M_re (Int32.toNatClampNeg 0))))) 0) e4.1 e4.2.1 e4.2.2 M_om)) S (c_X12_nextLexeme l D cI cJ cZ cS aM aM_s aM_ke aM_te aM_re aM_bo aM_bn aM_sh aM_in aM_su aM_gr aM_tr aM_ou aM_ro M_km M_te M_n M_be M_ma M_so M_om e4 hc4) k3 hK hP hD hS hA 0 rfl rfl rfl rfl hl.1 rfl (Nat.le_of_ble_eq_true rfl) ⟨Nat.zero_le _, Nat.zero_le _⟩ dX12_readsWork_20 [0, 1] rfl rfl wa_X12_nextLexeme (sa_eq [(aM_re, .inl (cI, 57, .inl (upd M_re (Int32.toNatClampNeg (1 + (7 * (M_re (Int32.toNatClampNeg 0))))) 0)))] [2] 3 rfl rfl rfl rfl rfl rfl rfl) (fun H locs hP hD hS => ?_)
  replace hm := bd_some hm
  obtain ⟨e5, hc5, hm⟩ := hm
  have X5_0 : ∀ (H : Heap) (locs : List Loc) (ls : Array Slot), va_P D vwCl (w_X12_readsWork cI aM aM_s aM_ke aM_te aM_re aM_bo aM_bn aM_sh aM_in aM_su aM_gr aM_tr aM_ou aM_ro M_km M_te M_n e5.1 e5.2.1 e5.2.2.1 e5.2.2.2 M_om) H → va_D A (w_X12_readsWork cI aM aM_s aM_ke aM_te aM_re aM_bo aM_bn aM_sh aM_in aM_su aM_gr aM_tr aM_ou aM_ro M_km M_te M_n e5.1 e5.2.1 e5.2.2.1 e5.2.2.2 M_om) → va_S A s.heap H locs → lv_has ls 2 [(0, .ref aM), (1, .int (1 + (7 * (M_re (Int32.toNatClampNeg 0)))))] → W p l e rm_X12_readsWork s m args below meth c H locs 0 0 Q (F0 m 110 ls []) := by
    intro H locs ls hP hD hS hl
    refine lv_aload_n hx hb dX12_readsWork_110 rfl (lv_at hl 0 rfl) ?_
    refine va_get (D := D) (ci := 12) (v := .ref aM_re) (C := RX12) (T := TX12) (N := 19) hx hb hts k2 hown hKv hP 0 rfl rfl 5 (by decide) k1 (fun _ h9 => h9) rfl dX12_readsWork_111 ?_
    refine lv_iload_n hx hb dX12_readsWork_114 rfl (lv_at hl 1 rfl) ?_
    replace hm := ck_some hm
    obtain ⟨h6, hm⟩ := hm
    refine va_iald hx hb hKv hP 2 0 rfl rfl h6 dX12_readsWork_115 ?_
    refine lv_if_eq (tgt := 135) hx hb dX12_readsWork_116 (by decide) (fun c7 => ?_) (fun c7 => ?_)
    · replace hm := if_t c7 hm
      exact J135 e5.1 e5.2.1 e5.2.2.1 e5.2.2.2 hm H locs ls hP hD hS (lv_sub hl [0] rfl)
    · replace hm := if_f c7 hm
      refine lv_aload_n hx hb dX12_readsWork_119 rfl (lv_at hl 0 rfl) ?_
      refine va_get (D := D) (ci := 12) (v := .int e5.2.2.2) (C := RX12) (T := TX12) (N := 19) hx hb hts k2 hown hKv hP 0 rfl rfl 8 (by decide) k4 (fun _ h9 => h9) rfl dX12_readsWork_120 ?_
      refine lv_iconst (v := 3) hx hb dX12_readsWork_123 (by decide) ?_
      refine lv_icmp_ne (tgt := 135) hx hb dX12_readsWork_124 (by decide) (fun c8 => ?_) (fun c8 => ?_)
      · replace hm := if_f c8 hm
        exact J135 e5.1 e5.2.1 e5.2.2.1 e5.2.2.2 hm H locs ls hP hD hS (lv_sub hl [0] rfl)
      · replace hm := if_t c8 hm
        refine lv_aload_n hx hb dX12_readsWork_127 rfl (lv_at hl 0 rfl) ?_
        refine va_get (D := D) (ci := 12) (v := .int e5.2.2.1) (C := RX12) (T := TX12) (N := 19) hx hb hts k2 hown hKv hP 0 rfl rfl 7 (by decide) k5 (fun _ h9 => h9) rfl dX12_readsWork_128 ?_
        refine lv_iconst (v := 2) hx hb dX12_readsWork_131 (by decide) ?_
        refine lv_icmp_eq (tgt := 137) hx hb dX12_readsWork_132 (by decide) (fun c9 => ?_) (fun c9 => ?_)
        · replace hm := if_t c9 hm
          refine lv_aload_n hx hb dX12_readsWork_137 rfl (lv_at hl 0 rfl) ?_
          refine va_get (D := D) (ci := 12) (v := .ref aM_re) (C := RX12) (T := TX12) (N := 19) hx hb hts k2 hown hKv hP 0 rfl rfl 5 (by decide) k1 (fun _ h9 => h9) rfl dX12_readsWork_138 ?_
          refine lv_iload_n hx hb dX12_readsWork_141 rfl (lv_at hl 1 rfl) ?_
          refine lv_iconst (v := 5) hx hb dX12_readsWork_142 (by decide) ?_
          refine lv_iadd hx hb dX12_readsWork_143 ?_
          refine lv_bipush (v := 10) hx hb dX12_readsWork_144 (by decide) ?_
          refine lv_aload_n hx hb dX12_readsWork_146 rfl (lv_at hl 0 rfl) ?_
          refine va_get (D := D) (ci := 12) (v := .ref aM_te) (C := RX12) (T := TX12) (N := 19) hx hb hts k2 hown hKv hP 0 rfl rfl 3 (by decide) k6 (fun _ h9 => h9) rfl dX12_readsWork_147 ?_
          refine lv_aload_n hx hb dX12_readsWork_150 rfl (lv_at hl 0 rfl) ?_
          refine va_get (D := D) (ci := 12) (v := .int e5.2.1) (C := RX12) (T := TX12) (N := 19) hx hb hts k2 hown hKv hP 0 rfl rfl 6 (by decide) k7 (fun _ h9 => h9) rfl dX12_readsWork_151 ?_
          replace hm := ck_some hm
          obtain ⟨h10, hm⟩ := hm
          refine va_iald hx hb hKv hP 1 0 rfl rfl h10 dX12_readsWork_154 ?_
          refine lv_bipush (v := 48) hx hb dX12_readsWork_155 (by decide) ?_
          refine lv_isub hx hb dX12_readsWork_157 ?_
          refine lv_imul hx hb dX12_readsWork_158 ?_
          refine lv_aload_n hx hb dX12_readsWork_159 rfl (lv_at hl 0 rfl) ?_
          refine va_get (D := D) (ci := 12) (v := .ref aM_te) (C := RX12) (T := TX12) (N := 19) hx hb hts k2 hown hKv hP 0 rfl rfl 3 (by decide) k6 (fun _ h9 => h9) rfl dX12_readsWork_160 ?_
          refine lv_aload_n hx hb dX12_readsWork_163 rfl (lv_at hl 0 rfl) ?_
          refine va_get (D := D) (ci := 12) (v := .int e5.2.1) (C := RX12) (T := TX12) (N := 19) hx hb hts k2 hown hKv hP 0 rfl rfl 6 (by decide) k7 (fun _ h9 => h9) rfl dX12_readsWork_164 ?_
          refine lv_iconst (v := 1) hx hb dX12_readsWork_167 (by decide) ?_
          refine lv_iadd hx hb dX12_readsWork_168 ?_
          replace hm := ck_some hm
          obtain ⟨h11, hm⟩ := hm
          refine va_iald hx hb hKv hP 1 0 rfl rfl h11 dX12_readsWork_169 ?_
          refine lv_iadd hx hb dX12_readsWork_170 ?_
          refine lv_bipush (v := 48) hx hb dX12_readsWork_171 (by decide) ?_
          refine lv_isub hx hb dX12_readsWork_173 ?_
          replace hm := ck_some hm
          obtain ⟨h12, hm⟩ := hm
          refine va_iast hx hb hKv hP hD hS 2 0 rfl rfl h12 dX12_readsWork_174 (fun H locs hP hD hS => ?_)
          replace hP : va_P D vwCl (w_X12_readsWork cI aM aM_s aM_ke aM_te aM_re aM_bo aM_bn aM_sh aM_in aM_su aM_gr aM_tr aM_ou aM_ro M_km M_te M_n (upd e5.1 (Int32.toNatClampNeg ((1 + (7 * (M_re (Int32.toNatClampNeg 0)))) + 5)) (((10 * ((M_te (Int32.toNatClampNeg e5.2.1)) - 48)) + (M_te (Int32.toNatClampNeg (e5.2.1 + 1)))) - 48)) e5.2.1 e5.2.2.1 e5.2.2.2 M_om) H := hP
          replace hD : va_D A (w_X12_readsWork cI aM aM_s aM_ke aM_te aM_re aM_bo aM_bn aM_sh aM_in aM_su aM_gr aM_tr aM_ou aM_ro M_km M_te M_n (upd e5.1 (Int32.toNatClampNeg ((1 + (7 * (M_re (Int32.toNatClampNeg 0)))) + 5)) (((10 * ((M_te (Int32.toNatClampNeg e5.2.1)) - 48)) + (M_te (Int32.toNatClampNeg (e5.2.1 + 1)))) - 48)) e5.2.1 e5.2.2.1 e5.2.2.2 M_om) := hD
          refine lv_aload_n hx hb dX12_readsWork_175 rfl (lv_at hl 0 rfl) ?_
          replace hm := bd_some hm
          obtain ⟨e13, hc13, hm⟩ := hm
          refine kV_v (rest := []) (ws' := (w_X12_readsWork cI aM aM_s aM_ke aM_te aM_re aM_bo aM_bn aM_sh aM_in aM_su aM_gr aM_tr aM_ou aM_ro M_km M_te M_n (upd e5.1 (Int32.toNatClampNeg ((1 + (7 * (M_re (Int32.toNatClampNeg 0)))) + 5)) (((10 * ((M_te (Int32.toNatClampNeg e5.2.1)) - 48)) + (M_te (Int32.toNatClampNeg (e5.2.1 + 1)))) - 48)) e13.1 e13.2.1 e13.2.2 M_om)) S (c_X12_nextLexeme l D cI cJ cZ cS aM aM_s aM_ke aM_te aM_re aM_bo aM_bn aM_sh aM_in aM_su aM_gr aM_tr aM_ou aM_ro M_km M_te M_n e5.2.1 e5.2.2.1 e5.2.2.2 M_om e13 hc13) k3 hK hP hD hS hA 0 rfl rfl rfl rfl hl.1 rfl (Nat.le_of_ble_eq_true rfl) ⟨Nat.zero_le _, Nat.zero_le _⟩ dX12_readsWork_176 [0, 1] rfl rfl wa_X12_nextLexeme (sa_eq [(aM_re, .inl (cI, 57, .inl (upd e5.1 (Int32.toNatClampNeg ((1 + (7 * (M_re (Int32.toNatClampNeg 0)))) + 5)) (((10 * ((M_te (Int32.toNatClampNeg e5.2.1)) - 48)) + (M_te (Int32.toNatClampNeg (e5.2.1 + 1)))) - 48))))] [2] 3 rfl rfl rfl rfl rfl rfl rfl) (fun H locs hP hD hS => ?_)
          refine lv_aload_n hx hb dX12_readsWork_179 rfl (lv_at hl 0 rfl) ?_
          refine va_get (D := D) (ci := 12) (v := .int e13.2.2) (C := RX12) (T := TX12) (N := 19) hx hb hts k2 hown hKv hP 0 rfl rfl 8 (by decide) k4 (fun _ h9 => h9) rfl dX12_readsWork_180 ?_
          refine lv_iconst (v := 1) hx hb dX12_readsWork_183 (by decide) ?_
          refine lv_icmp_ne (tgt := 195) hx hb dX12_readsWork_184 (by decide) (fun c14 => ?_) (fun c14 => ?_)
          · replace hm := if_f c14 hm
            exact J195 (upd e5.1 (Int32.toNatClampNeg ((1 + (7 * (M_re (Int32.toNatClampNeg 0)))) + 5)) (((10 * ((M_te (Int32.toNatClampNeg e5.2.1)) - 48)) + (M_te (Int32.toNatClampNeg (e5.2.1 + 1)))) - 48)) e13.1 e13.2.1 e13.2.2 hm H locs ls hP hD hS (lv_sub hl [0] rfl)
          · replace hm := if_t c14 hm
            refine lv_aload_n hx hb dX12_readsWork_187 rfl (lv_at hl 0 rfl) ?_
            refine va_get (D := D) (ci := 12) (v := .int e13.2.1) (C := RX12) (T := TX12) (N := 19) hx hb hts k2 hown hKv hP 0 rfl rfl 7 (by decide) k5 (fun _ h9 => h9) rfl dX12_readsWork_188 ?_
            refine lv_iconst (v := 1) hx hb dX12_readsWork_191 (by decide) ?_
            refine lv_icmp_eq (tgt := 197) hx hb dX12_readsWork_192 (by decide) (fun c15 => ?_) (fun c15 => ?_)
            · replace hm := if_t c15 hm
              refine lv_aload_n hx hb dX12_readsWork_197 rfl (lv_at hl 0 rfl) ?_
              refine va_get (D := D) (ci := 12) (v := .ref aM_re) (C := RX12) (T := TX12) (N := 19) hx hb hts k2 hown hKv hP 0 rfl rfl 5 (by decide) k1 (fun _ h9 => h9) rfl dX12_readsWork_198 ?_
              refine lv_iload_n hx hb dX12_readsWork_201 rfl (lv_at hl 1 rfl) ?_
              refine lv_bipush (v := 6) hx hb dX12_readsWork_202 (by decide) ?_
              refine lv_iadd hx hb dX12_readsWork_204 ?_
              refine lv_aload_n hx hb dX12_readsWork_205 rfl (lv_at hl 0 rfl) ?_
              refine va_get (D := D) (ci := 12) (v := .ref aM_te) (C := RX12) (T := TX12) (N := 19) hx hb hts k2 hown hKv hP 0 rfl rfl 3 (by decide) k6 (fun _ h9 => h9) rfl dX12_readsWork_206 ?_
              refine lv_aload_n hx hb dX12_readsWork_209 rfl (lv_at hl 0 rfl) ?_
              refine va_get (D := D) (ci := 12) (v := .int e13.1) (C := RX12) (T := TX12) (N := 19) hx hb hts k2 hown hKv hP 0 rfl rfl 6 (by decide) k7 (fun _ h9 => h9) rfl dX12_readsWork_210 ?_
              replace hm := ck_some hm
              obtain ⟨h16, hm⟩ := hm
              refine va_iald hx hb hKv hP 1 0 rfl rfl h16 dX12_readsWork_213 ?_
              refine lv_bipush (v := 97) hx hb dX12_readsWork_214 (by decide) ?_
              refine lv_isub hx hb dX12_readsWork_216 ?_
              replace hm := ck_some hm
              obtain ⟨h17, hm⟩ := hm
              refine va_iast hx hb hKv hP hD hS 2 0 rfl rfl h17 dX12_readsWork_217 (fun H locs hP hD hS => ?_)
              replace hP : va_P D vwCl (w_X12_readsWork cI aM aM_s aM_ke aM_te aM_re aM_bo aM_bn aM_sh aM_in aM_su aM_gr aM_tr aM_ou aM_ro M_km M_te M_n (upd (upd e5.1 (Int32.toNatClampNeg ((1 + (7 * (M_re (Int32.toNatClampNeg 0)))) + 5)) (((10 * ((M_te (Int32.toNatClampNeg e5.2.1)) - 48)) + (M_te (Int32.toNatClampNeg (e5.2.1 + 1)))) - 48)) (Int32.toNatClampNeg ((1 + (7 * (M_re (Int32.toNatClampNeg 0)))) + 6)) ((M_te (Int32.toNatClampNeg e13.1)) - 97)) e13.1 e13.2.1 e13.2.2 M_om) H := hP
              replace hD : va_D A (w_X12_readsWork cI aM aM_s aM_ke aM_te aM_re aM_bo aM_bn aM_sh aM_in aM_su aM_gr aM_tr aM_ou aM_ro M_km M_te M_n (upd (upd e5.1 (Int32.toNatClampNeg ((1 + (7 * (M_re (Int32.toNatClampNeg 0)))) + 5)) (((10 * ((M_te (Int32.toNatClampNeg e5.2.1)) - 48)) + (M_te (Int32.toNatClampNeg (e5.2.1 + 1)))) - 48)) (Int32.toNatClampNeg ((1 + (7 * (M_re (Int32.toNatClampNeg 0)))) + 6)) ((M_te (Int32.toNatClampNeg e13.1)) - 97)) e13.1 e13.2.1 e13.2.2 M_om) := hD
              refine lv_aload_n hx hb dX12_readsWork_218 rfl (lv_at hl 0 rfl) ?_
              replace hm := bd_some hm
              obtain ⟨e18, hc18, hm⟩ := hm
              refine kV_v (rest := []) (ws' := (w_X12_readsWork cI aM aM_s aM_ke aM_te aM_re aM_bo aM_bn aM_sh aM_in aM_su aM_gr aM_tr aM_ou aM_ro M_km M_te M_n (upd (upd e5.1 (Int32.toNatClampNeg ((1 + (7 * (M_re (Int32.toNatClampNeg 0)))) + 5)) (((10 * ((M_te (Int32.toNatClampNeg e5.2.1)) - 48)) + (M_te (Int32.toNatClampNeg (e5.2.1 + 1)))) - 48)) (Int32.toNatClampNeg ((1 + (7 * (M_re (Int32.toNatClampNeg 0)))) + 6)) ((M_te (Int32.toNatClampNeg e13.1)) - 97)) e18.1 e18.2.1 e18.2.2 M_om)) S (c_X12_nextLexeme l D cI cJ cZ cS aM aM_s aM_ke aM_te aM_re aM_bo aM_bn aM_sh aM_in aM_su aM_gr aM_tr aM_ou aM_ro M_km M_te M_n e13.1 e13.2.1 e13.2.2 M_om e18 hc18) k3 hK hP hD hS hA 0 rfl rfl rfl rfl hl.1 rfl (Nat.le_of_ble_eq_true rfl) ⟨Nat.zero_le _, Nat.zero_le _⟩ dX12_readsWork_219 [0, 1] rfl rfl wa_X12_nextLexeme (sa_eq [(aM_re, .inl (cI, 57, .inl (upd (upd e5.1 (Int32.toNatClampNeg ((1 + (7 * (M_re (Int32.toNatClampNeg 0)))) + 5)) (((10 * ((M_te (Int32.toNatClampNeg e5.2.1)) - 48)) + (M_te (Int32.toNatClampNeg (e5.2.1 + 1)))) - 48)) (Int32.toNatClampNeg ((1 + (7 * (M_re (Int32.toNatClampNeg 0)))) + 6)) ((M_te (Int32.toNatClampNeg e13.1)) - 97))))] [2] 3 rfl rfl rfl rfl rfl rfl rfl) (fun H locs hP hD hS => ?_)
              refine lv_aload_n hx hb dX12_readsWork_222 rfl (lv_at hl 0 rfl) ?_
              refine va_get (D := D) (ci := 12) (v := .ref aM_re) (C := RX12) (T := TX12) (N := 19) hx hb hts k2 hown hKv hP 0 rfl rfl 5 (by decide) k1 (fun _ h9 => h9) rfl dX12_readsWork_223 ?_
              refine lv_iconst (v := 0) hx hb dX12_readsWork_226 (by decide) ?_
              refine lv_dup2_11 hx hb dX12_readsWork_227 rfl rfl ?_
              replace hm := ck_some hm
              obtain ⟨h19, hm⟩ := hm
              refine va_iald hx hb hKv hP 2 0 rfl rfl h19 dX12_readsWork_228 ?_
              refine lv_iconst (v := 1) hx hb dX12_readsWork_229 (by decide) ?_
              refine lv_iadd hx hb dX12_readsWork_230 ?_
              replace hm := ck_some hm
              obtain ⟨h20, hm⟩ := hm
              refine va_iast hx hb hKv hP hD hS 2 0 rfl rfl h20 dX12_readsWork_231 (fun H locs hP hD hS => ?_)
              replace hP : va_P D vwCl (w_X12_readsWork cI aM aM_s aM_ke aM_te aM_re aM_bo aM_bn aM_sh aM_in aM_su aM_gr aM_tr aM_ou aM_ro M_km M_te M_n (upd (upd (upd e5.1 (Int32.toNatClampNeg ((1 + (7 * (M_re (Int32.toNatClampNeg 0)))) + 5)) (((10 * ((M_te (Int32.toNatClampNeg e5.2.1)) - 48)) + (M_te (Int32.toNatClampNeg (e5.2.1 + 1)))) - 48)) (Int32.toNatClampNeg ((1 + (7 * (M_re (Int32.toNatClampNeg 0)))) + 6)) ((M_te (Int32.toNatClampNeg e13.1)) - 97)) (Int32.toNatClampNeg 0) (((upd (upd e5.1 (Int32.toNatClampNeg ((1 + (7 * (M_re (Int32.toNatClampNeg 0)))) + 5)) (((10 * ((M_te (Int32.toNatClampNeg e5.2.1)) - 48)) + (M_te (Int32.toNatClampNeg (e5.2.1 + 1)))) - 48)) (Int32.toNatClampNeg ((1 + (7 * (M_re (Int32.toNatClampNeg 0)))) + 6)) ((M_te (Int32.toNatClampNeg e13.1)) - 97)) (Int32.toNatClampNeg 0)) + 1)) e18.1 e18.2.1 e18.2.2 M_om) H := hP
              replace hD : va_D A (w_X12_readsWork cI aM aM_s aM_ke aM_te aM_re aM_bo aM_bn aM_sh aM_in aM_su aM_gr aM_tr aM_ou aM_ro M_km M_te M_n (upd (upd (upd e5.1 (Int32.toNatClampNeg ((1 + (7 * (M_re (Int32.toNatClampNeg 0)))) + 5)) (((10 * ((M_te (Int32.toNatClampNeg e5.2.1)) - 48)) + (M_te (Int32.toNatClampNeg (e5.2.1 + 1)))) - 48)) (Int32.toNatClampNeg ((1 + (7 * (M_re (Int32.toNatClampNeg 0)))) + 6)) ((M_te (Int32.toNatClampNeg e13.1)) - 97)) (Int32.toNatClampNeg 0) (((upd (upd e5.1 (Int32.toNatClampNeg ((1 + (7 * (M_re (Int32.toNatClampNeg 0)))) + 5)) (((10 * ((M_te (Int32.toNatClampNeg e5.2.1)) - 48)) + (M_te (Int32.toNatClampNeg (e5.2.1 + 1)))) - 48)) (Int32.toNatClampNeg ((1 + (7 * (M_re (Int32.toNatClampNeg 0)))) + 6)) ((M_te (Int32.toNatClampNeg e13.1)) - 97)) (Int32.toNatClampNeg 0)) + 1)) e18.1 e18.2.1 e18.2.2 M_om) := hD
              refine lv_aload_n hx hb dX12_readsWork_232 rfl (lv_at hl 0 rfl) ?_
              refine va_get (D := D) (ci := 12) (v := .int e18.2.1) (C := RX12) (T := TX12) (N := 19) hx hb hts k2 hown hKv hP 0 rfl rfl 7 (by decide) k5 (fun _ h9 => h9) rfl dX12_readsWork_233 ?_
              refine lv_if_le (tgt := 257) hx hb dX12_readsWork_236 (by decide) (fun c21 => ?_) (fun c21 => ?_)
              · replace hm := if_t c21 hm
                exact J257 (upd (upd (upd e5.1 (Int32.toNatClampNeg ((1 + (7 * (M_re (Int32.toNatClampNeg 0)))) + 5)) (((10 * ((M_te (Int32.toNatClampNeg e5.2.1)) - 48)) + (M_te (Int32.toNatClampNeg (e5.2.1 + 1)))) - 48)) (Int32.toNatClampNeg ((1 + (7 * (M_re (Int32.toNatClampNeg 0)))) + 6)) ((M_te (Int32.toNatClampNeg e13.1)) - 97)) (Int32.toNatClampNeg 0) (((upd (upd e5.1 (Int32.toNatClampNeg ((1 + (7 * (M_re (Int32.toNatClampNeg 0)))) + 5)) (((10 * ((M_te (Int32.toNatClampNeg e5.2.1)) - 48)) + (M_te (Int32.toNatClampNeg (e5.2.1 + 1)))) - 48)) (Int32.toNatClampNeg ((1 + (7 * (M_re (Int32.toNatClampNeg 0)))) + 6)) ((M_te (Int32.toNatClampNeg e13.1)) - 97)) (Int32.toNatClampNeg 0)) + 1)) e18.1 e18.2.1 e18.2.2 hm H locs ls hP hD hS (lv_sub hl [0] rfl)
              · replace hm := if_f c21 hm
                refine lv_aload_n hx hb dX12_readsWork_239 rfl (lv_at hl 0 rfl) ?_
                refine va_get (D := D) (ci := 12) (v := .ref aM_te) (C := RX12) (T := TX12) (N := 19) hx hb hts k2 hown hKv hP 0 rfl rfl 3 (by decide) k6 (fun _ h9 => h9) rfl dX12_readsWork_240 ?_
                refine lv_aload_n hx hb dX12_readsWork_243 rfl (lv_at hl 0 rfl) ?_
                refine va_get (D := D) (ci := 12) (v := .int e18.1) (C := RX12) (T := TX12) (N := 19) hx hb hts k2 hown hKv hP 0 rfl rfl 6 (by decide) k7 (fun _ h9 => h9) rfl dX12_readsWork_244 ?_
                replace hm := ck_some hm
                obtain ⟨h22, hm⟩ := hm
                refine va_iald hx hb hKv hP 1 0 rfl rfl h22 dX12_readsWork_247 ?_
                refine lv_bipush (v := 59) hx hb dX12_readsWork_248 (by decide) ?_
                refine lv_icmp_ne (tgt := 257) hx hb dX12_readsWork_250 (by decide) (fun c23 => ?_) (fun c23 => ?_)
                · replace hm := if_f c23 hm
                  exact J257 (upd (upd (upd e5.1 (Int32.toNatClampNeg ((1 + (7 * (M_re (Int32.toNatClampNeg 0)))) + 5)) (((10 * ((M_te (Int32.toNatClampNeg e5.2.1)) - 48)) + (M_te (Int32.toNatClampNeg (e5.2.1 + 1)))) - 48)) (Int32.toNatClampNeg ((1 + (7 * (M_re (Int32.toNatClampNeg 0)))) + 6)) ((M_te (Int32.toNatClampNeg e13.1)) - 97)) (Int32.toNatClampNeg 0) (((upd (upd e5.1 (Int32.toNatClampNeg ((1 + (7 * (M_re (Int32.toNatClampNeg 0)))) + 5)) (((10 * ((M_te (Int32.toNatClampNeg e5.2.1)) - 48)) + (M_te (Int32.toNatClampNeg (e5.2.1 + 1)))) - 48)) (Int32.toNatClampNeg ((1 + (7 * (M_re (Int32.toNatClampNeg 0)))) + 6)) ((M_te (Int32.toNatClampNeg e13.1)) - 97)) (Int32.toNatClampNeg 0)) + 1)) e18.1 e18.2.1 e18.2.2 hm H locs ls hP hD hS (lv_sub hl [0] rfl)
                · replace hm := if_t c23 hm
                  refine lv_iconst (v := 1) hx hb dX12_readsWork_253 (by decide) ?_
                  refine lv_goto (tgt := 258) hx hb dX12_readsWork_254 (by decide) ?_
                  exact J258 1 (upd (upd (upd e5.1 (Int32.toNatClampNeg ((1 + (7 * (M_re (Int32.toNatClampNeg 0)))) + 5)) (((10 * ((M_te (Int32.toNatClampNeg e5.2.1)) - 48)) + (M_te (Int32.toNatClampNeg (e5.2.1 + 1)))) - 48)) (Int32.toNatClampNeg ((1 + (7 * (M_re (Int32.toNatClampNeg 0)))) + 6)) ((M_te (Int32.toNatClampNeg e13.1)) - 97)) (Int32.toNatClampNeg 0) (((upd (upd e5.1 (Int32.toNatClampNeg ((1 + (7 * (M_re (Int32.toNatClampNeg 0)))) + 5)) (((10 * ((M_te (Int32.toNatClampNeg e5.2.1)) - 48)) + (M_te (Int32.toNatClampNeg (e5.2.1 + 1)))) - 48)) (Int32.toNatClampNeg ((1 + (7 * (M_re (Int32.toNatClampNeg 0)))) + 6)) ((M_te (Int32.toNatClampNeg e13.1)) - 97)) (Int32.toNatClampNeg 0)) + 1)) e18.1 e18.2.1 e18.2.2 hm H locs ls hP hD hS (lv_sub hl [0] rfl)
            · replace hm := if_f c15 hm
              exact J195 (upd e5.1 (Int32.toNatClampNeg ((1 + (7 * (M_re (Int32.toNatClampNeg 0)))) + 5)) (((10 * ((M_te (Int32.toNatClampNeg e5.2.1)) - 48)) + (M_te (Int32.toNatClampNeg (e5.2.1 + 1)))) - 48)) e13.1 e13.2.1 e13.2.2 hm H locs ls hP hD hS (lv_sub hl [0] rfl)
        · replace hm := if_f c9 hm
          exact J135 e5.1 e5.2.1 e5.2.2.1 e5.2.2.2 hm H locs ls hP hD hS (lv_sub hl [0] rfl)
  refine it_W (G := fun (st23 : (Nat → Int32) × Int32 × Int32 × Int32) => ∀ (H : Heap) (locs : List Loc) (ls : Array Slot), va_P D vwCl (w_X12_readsWork cI aM aM_s aM_ke aM_te aM_re aM_bo aM_bn aM_sh aM_in aM_su aM_gr aM_tr aM_ou aM_ro M_km M_te M_n st23.1 st23.2.1 st23.2.2.1 st23.2.2.2 M_om) H → va_D A (w_X12_readsWork cI aM aM_s aM_ke aM_te aM_re aM_bo aM_bn aM_sh aM_in aM_su aM_gr aM_tr aM_ou aM_ro M_km M_te M_n st23.1 st23.2.1 st23.2.2.1 st23.2.2.2 M_om) → va_S A s.heap H locs → lv_has ls 2 [(0, .ref aM), (1, .int (1 + (7 * (M_re (Int32.toNatClampNeg 0)))))] → W p l e rm_X12_readsWork s m args below meth c H locs 0 0 Q (F0 m 23 ls [])) (e := e5) (fun st23 x hm hG hE => ?_) fu _ hc5 H locs ls hP hD hS (lv_sub hl [1, 0] rfl)
  intro H locs ls hP hD hS hl
  refine lv_aload_n hx hb dX12_readsWork_23 rfl (lv_at hl 0 rfl) ?_
  refine va_get (D := D) (ci := 12) (v := .int st23.2.2.1) (C := RX12) (T := TX12) (N := 19) hx hb hts k2 hown hKv hP 0 rfl rfl 7 (by decide) k5 (fun _ h9 => h9) rfl dX12_readsWork_24 ?_
  refine lv_if_le (tgt := 110) hx hb dX12_readsWork_27 (by decide) (fun c24 => ?_) (fun c24 => ?_)
  · replace hm := if_t c24 hm
    have h9 := hE _ (Option.some.inj hm).symm
    subst h9
    exact X5_0 H locs ls hP hD hS (lv_sub hl [0, 1] rfl)
  · replace hm := if_f c24 hm
    refine lv_aload_n hx hb dX12_readsWork_30 rfl (lv_at hl 0 rfl) ?_
    refine va_get (D := D) (ci := 12) (v := .int st23.2.2.2) (C := RX12) (T := TX12) (N := 19) hx hb hts k2 hown hKv hP 0 rfl rfl 8 (by decide) k4 (fun _ h9 => h9) rfl dX12_readsWork_31 ?_
    refine lv_iconst (v := 2) hx hb dX12_readsWork_34 (by decide) ?_
    refine lv_icmp_ne (tgt := 110) hx hb dX12_readsWork_35 (by decide) (fun c25 => ?_) (fun c25 => ?_)
    · replace hm := if_f c25 hm
      have h9 := hE _ (Option.some.inj hm).symm
      subst h9
      exact X5_0 H locs ls hP hD hS (lv_sub hl [0, 1] rfl)
    · replace hm := if_t c25 hm
      refine lv_aload_n hx hb dX12_readsWork_38 rfl (lv_at hl 0 rfl) ?_
      refine va_get (D := D) (ci := 12) (v := .ref aM_re) (C := RX12) (T := TX12) (N := 19) hx hb hts k2 hown hKv hP 0 rfl rfl 5 (by decide) k1 (fun _ h9 => h9) rfl dX12_readsWork_39 ?_
      refine lv_iload_n hx hb dX12_readsWork_42 rfl (lv_at hl 1 rfl) ?_
      replace hm := ck_some hm
      obtain ⟨h26, hm⟩ := hm
      refine va_iald hx hb hKv hP 2 0 rfl rfl h26 dX12_readsWork_43 ?_
      refine lv_iconst (v := 4) hx hb dX12_readsWork_44 (by decide) ?_
      refine lv_icmp_ge (tgt := 110) hx hb dX12_readsWork_45 (by decide) (fun c27 => ?_) (fun c27 => ?_)
      · replace hm := if_t c27 hm
        have h9 := hE _ (Option.some.inj hm).symm
        subst h9
        exact X5_0 H locs ls hP hD hS (lv_sub hl [0, 1] rfl)
      · replace hm := if_f c27 hm
        refine lv_aload_n hx hb dX12_readsWork_48 rfl (lv_at hl 0 rfl) ?_
        refine va_get (D := D) (ci := 12) (v := .ref aM_re) (C := RX12) (T := TX12) (N := 19) hx hb hts k2 hown hKv hP 0 rfl rfl 5 (by decide) k1 (fun _ h9 => h9) rfl dX12_readsWork_49 ?_
        refine lv_iload_n hx hb dX12_readsWork_52 rfl (lv_at hl 1 rfl) ?_
        refine lv_iconst (v := 1) hx hb dX12_readsWork_53 (by decide) ?_
        refine lv_iadd hx hb dX12_readsWork_54 ?_
        refine lv_aload_n hx hb dX12_readsWork_55 rfl (lv_at hl 0 rfl) ?_
        refine va_get (D := D) (ci := 12) (v := .ref aM_re) (C := RX12) (T := TX12) (N := 19) hx hb hts k2 hown hKv hP 0 rfl rfl 5 (by decide) k1 (fun _ h9 => h9) rfl dX12_readsWork_56 ?_
        refine lv_iload_n hx hb dX12_readsWork_59 rfl (lv_at hl 1 rfl) ?_
        replace hm := ck_some hm
        obtain ⟨h28, hm⟩ := hm
        refine va_iald hx hb hKv hP 2 0 rfl rfl h28 dX12_readsWork_60 ?_
        refine lv_iadd hx hb dX12_readsWork_61 ?_
        refine lv_bipush (v := 26) hx hb dX12_readsWork_62 (by decide) ?_
        refine lv_aload_n hx hb dX12_readsWork_64 rfl (lv_at hl 0 rfl) ?_
        refine va_get (D := D) (ci := 12) (v := .ref aM_te) (C := RX12) (T := TX12) (N := 19) hx hb hts k2 hown hKv hP 0 rfl rfl 3 (by decide) k6 (fun _ h9 => h9) rfl dX12_readsWork_65 ?_
        refine lv_aload_n hx hb dX12_readsWork_68 rfl (lv_at hl 0 rfl) ?_
        refine va_get (D := D) (ci := 12) (v := .int st23.2.1) (C := RX12) (T := TX12) (N := 19) hx hb hts k2 hown hKv hP 0 rfl rfl 6 (by decide) k7 (fun _ h9 => h9) rfl dX12_readsWork_69 ?_
        replace hm := ck_some hm
        obtain ⟨h29, hm⟩ := hm
        refine va_iald hx hb hKv hP 1 0 rfl rfl h29 dX12_readsWork_72 ?_
        refine lv_bipush (v := 65) hx hb dX12_readsWork_73 (by decide) ?_
        refine lv_isub hx hb dX12_readsWork_75 ?_
        refine lv_imul hx hb dX12_readsWork_76 ?_
        refine lv_aload_n hx hb dX12_readsWork_77 rfl (lv_at hl 0 rfl) ?_
        refine va_get (D := D) (ci := 12) (v := .ref aM_te) (C := RX12) (T := TX12) (N := 19) hx hb hts k2 hown hKv hP 0 rfl rfl 3 (by decide) k6 (fun _ h9 => h9) rfl dX12_readsWork_78 ?_
        refine lv_aload_n hx hb dX12_readsWork_81 rfl (lv_at hl 0 rfl) ?_
        refine va_get (D := D) (ci := 12) (v := .int st23.2.1) (C := RX12) (T := TX12) (N := 19) hx hb hts k2 hown hKv hP 0 rfl rfl 6 (by decide) k7 (fun _ h9 => h9) rfl dX12_readsWork_82 ?_
        refine lv_iconst (v := 1) hx hb dX12_readsWork_85 (by decide) ?_
        refine lv_iadd hx hb dX12_readsWork_86 ?_
        replace hm := ck_some hm
        obtain ⟨h30, hm⟩ := hm
        refine va_iald hx hb hKv hP 1 0 rfl rfl h30 dX12_readsWork_87 ?_
        refine lv_iadd hx hb dX12_readsWork_88 ?_
        refine lv_bipush (v := 97) hx hb dX12_readsWork_89 (by decide) ?_
        refine lv_isub hx hb dX12_readsWork_91 ?_
        replace hm := ck_some hm
        obtain ⟨h31, hm⟩ := hm
        refine va_iast hx hb hKv hP hD hS 2 0 rfl rfl h31 dX12_readsWork_92 (fun H locs hP hD hS => ?_)
        replace hP : va_P D vwCl (w_X12_readsWork cI aM aM_s aM_ke aM_te aM_re aM_bo aM_bn aM_sh aM_in aM_su aM_gr aM_tr aM_ou aM_ro M_km M_te M_n (upd st23.1 (Int32.toNatClampNeg (((1 + (7 * (M_re (Int32.toNatClampNeg 0)))) + 1) + (st23.1 (Int32.toNatClampNeg (1 + (7 * (M_re (Int32.toNatClampNeg 0)))))))) (((26 * ((M_te (Int32.toNatClampNeg st23.2.1)) - 65)) + (M_te (Int32.toNatClampNeg (st23.2.1 + 1)))) - 97)) st23.2.1 st23.2.2.1 st23.2.2.2 M_om) H := hP
        replace hD : va_D A (w_X12_readsWork cI aM aM_s aM_ke aM_te aM_re aM_bo aM_bn aM_sh aM_in aM_su aM_gr aM_tr aM_ou aM_ro M_km M_te M_n (upd st23.1 (Int32.toNatClampNeg (((1 + (7 * (M_re (Int32.toNatClampNeg 0)))) + 1) + (st23.1 (Int32.toNatClampNeg (1 + (7 * (M_re (Int32.toNatClampNeg 0)))))))) (((26 * ((M_te (Int32.toNatClampNeg st23.2.1)) - 65)) + (M_te (Int32.toNatClampNeg (st23.2.1 + 1)))) - 97)) st23.2.1 st23.2.2.1 st23.2.2.2 M_om) := hD
        refine lv_aload_n hx hb dX12_readsWork_93 rfl (lv_at hl 0 rfl) ?_
        refine va_get (D := D) (ci := 12) (v := .ref aM_re) (C := RX12) (T := TX12) (N := 19) hx hb hts k2 hown hKv hP 0 rfl rfl 5 (by decide) k1 (fun _ h9 => h9) rfl dX12_readsWork_94 ?_
        refine lv_iload_n hx hb dX12_readsWork_97 rfl (lv_at hl 1 rfl) ?_
        refine lv_dup2_11 hx hb dX12_readsWork_98 rfl rfl ?_
        replace hm := ck_some hm
        obtain ⟨h32, hm⟩ := hm
        refine va_iald hx hb hKv hP 2 0 rfl rfl h32 dX12_readsWork_99 ?_
        refine lv_iconst (v := 1) hx hb dX12_readsWork_100 (by decide) ?_
        refine lv_iadd hx hb dX12_readsWork_101 ?_
        replace hm := ck_some hm
        obtain ⟨h33, hm⟩ := hm
        refine va_iast hx hb hKv hP hD hS 2 0 rfl rfl h33 dX12_readsWork_102 (fun H locs hP hD hS => ?_)
        replace hP : va_P D vwCl (w_X12_readsWork cI aM aM_s aM_ke aM_te aM_re aM_bo aM_bn aM_sh aM_in aM_su aM_gr aM_tr aM_ou aM_ro M_km M_te M_n (upd (upd st23.1 (Int32.toNatClampNeg (((1 + (7 * (M_re (Int32.toNatClampNeg 0)))) + 1) + (st23.1 (Int32.toNatClampNeg (1 + (7 * (M_re (Int32.toNatClampNeg 0)))))))) (((26 * ((M_te (Int32.toNatClampNeg st23.2.1)) - 65)) + (M_te (Int32.toNatClampNeg (st23.2.1 + 1)))) - 97)) (Int32.toNatClampNeg (1 + (7 * (M_re (Int32.toNatClampNeg 0))))) (((upd st23.1 (Int32.toNatClampNeg (((1 + (7 * (M_re (Int32.toNatClampNeg 0)))) + 1) + (st23.1 (Int32.toNatClampNeg (1 + (7 * (M_re (Int32.toNatClampNeg 0)))))))) (((26 * ((M_te (Int32.toNatClampNeg st23.2.1)) - 65)) + (M_te (Int32.toNatClampNeg (st23.2.1 + 1)))) - 97)) (Int32.toNatClampNeg (1 + (7 * (M_re (Int32.toNatClampNeg 0)))))) + 1)) st23.2.1 st23.2.2.1 st23.2.2.2 M_om) H := hP
        replace hD : va_D A (w_X12_readsWork cI aM aM_s aM_ke aM_te aM_re aM_bo aM_bn aM_sh aM_in aM_su aM_gr aM_tr aM_ou aM_ro M_km M_te M_n (upd (upd st23.1 (Int32.toNatClampNeg (((1 + (7 * (M_re (Int32.toNatClampNeg 0)))) + 1) + (st23.1 (Int32.toNatClampNeg (1 + (7 * (M_re (Int32.toNatClampNeg 0)))))))) (((26 * ((M_te (Int32.toNatClampNeg st23.2.1)) - 65)) + (M_te (Int32.toNatClampNeg (st23.2.1 + 1)))) - 97)) (Int32.toNatClampNeg (1 + (7 * (M_re (Int32.toNatClampNeg 0))))) (((upd st23.1 (Int32.toNatClampNeg (((1 + (7 * (M_re (Int32.toNatClampNeg 0)))) + 1) + (st23.1 (Int32.toNatClampNeg (1 + (7 * (M_re (Int32.toNatClampNeg 0)))))))) (((26 * ((M_te (Int32.toNatClampNeg st23.2.1)) - 65)) + (M_te (Int32.toNatClampNeg (st23.2.1 + 1)))) - 97)) (Int32.toNatClampNeg (1 + (7 * (M_re (Int32.toNatClampNeg 0)))))) + 1)) st23.2.1 st23.2.2.1 st23.2.2.2 M_om) := hD
        refine lv_aload_n hx hb dX12_readsWork_103 rfl (lv_at hl 0 rfl) ?_
        replace hm := bd_some hm
        obtain ⟨e34, hc34, hm⟩ := hm
        refine kV_v (rest := []) (ws' := (w_X12_readsWork cI aM aM_s aM_ke aM_te aM_re aM_bo aM_bn aM_sh aM_in aM_su aM_gr aM_tr aM_ou aM_ro M_km M_te M_n (upd (upd st23.1 (Int32.toNatClampNeg (((1 + (7 * (M_re (Int32.toNatClampNeg 0)))) + 1) + (st23.1 (Int32.toNatClampNeg (1 + (7 * (M_re (Int32.toNatClampNeg 0)))))))) (((26 * ((M_te (Int32.toNatClampNeg st23.2.1)) - 65)) + (M_te (Int32.toNatClampNeg (st23.2.1 + 1)))) - 97)) (Int32.toNatClampNeg (1 + (7 * (M_re (Int32.toNatClampNeg 0))))) (((upd st23.1 (Int32.toNatClampNeg (((1 + (7 * (M_re (Int32.toNatClampNeg 0)))) + 1) + (st23.1 (Int32.toNatClampNeg (1 + (7 * (M_re (Int32.toNatClampNeg 0)))))))) (((26 * ((M_te (Int32.toNatClampNeg st23.2.1)) - 65)) + (M_te (Int32.toNatClampNeg (st23.2.1 + 1)))) - 97)) (Int32.toNatClampNeg (1 + (7 * (M_re (Int32.toNatClampNeg 0)))))) + 1)) e34.1 e34.2.1 e34.2.2 M_om)) S (c_X12_nextLexeme l D cI cJ cZ cS aM aM_s aM_ke aM_te aM_re aM_bo aM_bn aM_sh aM_in aM_su aM_gr aM_tr aM_ou aM_ro M_km M_te M_n st23.2.1 st23.2.2.1 st23.2.2.2 M_om e34 hc34) k3 hK hP hD hS hA 0 rfl rfl rfl rfl hl.1 rfl (Nat.le_of_ble_eq_true rfl) ⟨Nat.zero_le _, Nat.zero_le _⟩ dX12_readsWork_104 [0, 1] rfl rfl wa_X12_nextLexeme (sa_eq [(aM_re, .inl (cI, 57, .inl (upd (upd st23.1 (Int32.toNatClampNeg (((1 + (7 * (M_re (Int32.toNatClampNeg 0)))) + 1) + (st23.1 (Int32.toNatClampNeg (1 + (7 * (M_re (Int32.toNatClampNeg 0)))))))) (((26 * ((M_te (Int32.toNatClampNeg st23.2.1)) - 65)) + (M_te (Int32.toNatClampNeg (st23.2.1 + 1)))) - 97)) (Int32.toNatClampNeg (1 + (7 * (M_re (Int32.toNatClampNeg 0))))) (((upd st23.1 (Int32.toNatClampNeg (((1 + (7 * (M_re (Int32.toNatClampNeg 0)))) + 1) + (st23.1 (Int32.toNatClampNeg (1 + (7 * (M_re (Int32.toNatClampNeg 0)))))))) (((26 * ((M_te (Int32.toNatClampNeg st23.2.1)) - 65)) + (M_te (Int32.toNatClampNeg (st23.2.1 + 1)))) - 97)) (Int32.toNatClampNeg (1 + (7 * (M_re (Int32.toNatClampNeg 0)))))) + 1))))] [2] 3 rfl rfl rfl rfl rfl rfl rfl) (fun H locs hP hD hS => ?_)
        refine lv_goto (tgt := 23) hx hb dX12_readsWork_107 (by decide) ?_
        exact hG _ (Option.some.inj hm).symm H locs ls hP hD hS (lv_sub hl [0, 1] rfl)
set_option maxHeartbeats 4000000 in
set_option maxRecDepth 100000 in
theorem c_X12_loadWorks (l : Launch) (D : va_G) (cI cJ cZ cS : ClassId) (aM aM_s aM_ke aM_te aM_re aM_bo aM_bn aM_sh aM_in aM_su aM_gr aM_tr aM_ou aM_ro : Nat) (M_s : Nat → Int32) (M_ke : Nat → Int32) (M_km : Int32) (M_te : Nat → Int32) (M_n : Int32) (M_re : Nat → Int32) (M_be : Int32) (M_ma : Int32) (M_so : Int32) (M_om : Int32) (o : Int32 × (Nat → Int32) × (Nat → Int32) × Int32 × Int32 × (Nat → Int32) × Int32 × Int32 × Int32) (hm : m_X12_loadWorks M_s M_ke M_km M_te M_n M_re M_be M_ma M_so = some o) : MI l yX12_loadWorks wsX12_loadWorks rm_X12_loadWorks D (TY cI cJ cZ cS) [.ref aM] (w_X12_loadWorks cI aM aM_s aM_ke aM_te aM_re aM_bo aM_bn aM_sh aM_in aM_su aM_gr aM_tr aM_ou aM_ro M_s M_ke M_km M_te M_n M_re M_be M_ma M_so M_om) (w_X12_loadWorks cI aM aM_s aM_ke aM_te aM_re aM_bo aM_bn aM_sh aM_in aM_su aM_gr aM_tr aM_ou aM_ro o.2.1 o.2.2.1 o.2.2.2.1 M_te o.2.2.2.2.1 o.2.2.2.2.2.1 o.2.2.2.2.2.2.1 o.2.2.2.2.2.2.2.1 o.2.2.2.2.2.2.2.2 M_om) (o.1) := by
  refine MI_of (cc := cX12_loadWorks) (maxL := 2) (by decide) rfl (Nat.le_of_ble_eq_true rfl) ?_
  intro p e s m args below meth c A Q ls H locs hx hb hml hts hown hK hA hP hD hS hl hret
  have hown : s.vm.findClass RX12 = some m.cls := hown
  have hKv : va_K D vwCl (TY cI cJ cZ cS) s := hK.1
  have hl : lv_has ls 2 [(0, .ref aM)] := hl
  have S : CallFix p m c cX12_loadWorks 2 s args wsX12_loadWorks RX12 := ⟨hx, hb, hml, hown, hts⟩
  have k1 := hts (.fieldLink RX12 19 "CitationFormatterModel" "read" "[I") (by decide +kernel)
  have k2 : ∀ w ∈ wsX120, w ∈ wsX12_loadWorks := by decide +kernel
  have k3 := hts (.fieldLink RX12 75 "CitationFormatterModel" "begins" "I") (by decide +kernel)
  have k4 := hts (.fieldLink RX12 78 "CitationFormatterModel" "many" "I") (by decide +kernel)
  have k5 : CallW rm_X12_loadWorks s args RX12 RX12 95 yX12_nextLexeme cX12_nextLexeme 1 none wsX12_nextLexeme rm_X12_nextLexeme 0 0 0 := cwV 0 hts gX12_loadWorks_X12_nextLexeme rfl rfl rfl (by decide +kernel) ⟨Nat.le_of_ble_eq_true rfl, Nat.le_of_ble_eq_true rfl⟩
  have k6 : CallW rm_X12_loadWorks s args RX12 RX12 105 yX12_keeps cX12_keeps 2 none wsX12_keeps rm_X12_keeps 0 0 0 := cwV 0 hts gX12_loadWorks_X12_keeps rfl rfl rfl (by decide +kernel) ⟨Nat.le_of_ble_eq_true rfl, Nat.le_of_ble_eq_true rfl⟩
  have k7 := hts (.fieldLink RX12 7 "CitationFormatterModel" "s" "[I") (by decide +kernel)
  have k8 := hts (.fieldLink RX12 60 "CitationFormatterModel" "length" "I") (by decide +kernel)
  have k9 : CallW rm_X12_loadWorks s args RX12 RX12 98 yX12_isWordWork cX12_isWordWork 1 (some .boolean) wsX12_isWordWork rm_X12_isWordWork 0 0 0 := cwV 0 hts gX12_loadWorks_X12_isWordWork rfl rfl rfl (by decide +kernel) ⟨Nat.le_of_ble_eq_true rfl, Nat.le_of_ble_eq_true rfl⟩
  have k10 : CallW rm_X12_loadWorks s args RX12 RX12 102 yX12_readsWork cX12_readsWork 2 (some .boolean) wsX12_readsWork rm_X12_readsWork 0 0 0 := cwV 0 hts gX12_loadWorks_X12_readsWork rfl rfl rfl (by decide +kernel) ⟨Nat.le_of_ble_eq_true rfl, Nat.le_of_ble_eq_true rfl⟩
  refine lv_aload_n hx hb dX12_loadWorks_0 rfl (lv_at hl 0 rfl) ?_
  refine va_get (D := D) (ci := 12) (v := .ref aM_re) (C := RX12) (T := TX12) (N := 19) hx hb hts k2 hown hKv hP 0 rfl rfl 5 (by decide) k1 (fun _ h9 => h9) rfl dX12_loadWorks_1 ?_
  refine lv_iconst (v := 0) hx hb dX12_loadWorks_4 (by decide) ?_
  refine lv_iconst (v := 0) hx hb dX12_loadWorks_5 (by decide) ?_
  replace hm := ck_some hm
  obtain ⟨h1, hm⟩ := hm
  refine va_iast hx hb hKv hP hD hS 4 0 rfl rfl h1 dX12_loadWorks_6 (fun H locs hP hD hS => ?_)
  replace hP : va_P D vwCl (w_X12_loadWorks cI aM aM_s aM_ke aM_te aM_re aM_bo aM_bn aM_sh aM_in aM_su aM_gr aM_tr aM_ou aM_ro M_s M_ke M_km M_te M_n (upd M_re (Int32.toNatClampNeg 0) 0) M_be M_ma M_so M_om) H := hP
  replace hD : va_D A (w_X12_loadWorks cI aM aM_s aM_ke aM_te aM_re aM_bo aM_bn aM_sh aM_in aM_su aM_gr aM_tr aM_ou aM_ro M_s M_ke M_km M_te M_n (upd M_re (Int32.toNatClampNeg 0) 0) M_be M_ma M_so M_om) := hD
  refine lv_aload_n hx hb dX12_loadWorks_7 rfl (lv_at hl 0 rfl) ?_
  refine lv_iconst (v := 0) hx hb dX12_loadWorks_8 (by decide) ?_
  refine va_put (D := D) (ci := 12) (v := .int 0) (ty := .int) (C := RX12) (T := TX12) (N := 19) hx hb hts k2 tyX12 tyX12_ok nmX12 hown hKv hP hD hS 0 rfl rfl 6 (by decide) k3 (fun _ h9 => h9) rfl (by decide +kernel) rfl rfl (Nat.le_of_ble_eq_true rfl) dX12_loadWorks_9 (fun H locs hP hD hS => ?_)
  replace hP : va_P D vwCl (w_X12_loadWorks cI aM aM_s aM_ke aM_te aM_re aM_bo aM_bn aM_sh aM_in aM_su aM_gr aM_tr aM_ou aM_ro M_s M_ke M_km M_te M_n (upd M_re (Int32.toNatClampNeg 0) 0) 0 M_ma M_so M_om) H := hP
  replace hD : va_D A (w_X12_loadWorks cI aM aM_s aM_ke aM_te aM_re aM_bo aM_bn aM_sh aM_in aM_su aM_gr aM_tr aM_ou aM_ro M_s M_ke M_km M_te M_n (upd M_re (Int32.toNatClampNeg 0) 0) 0 M_ma M_so M_om) := hD
  refine lv_aload_n hx hb dX12_loadWorks_12 rfl (lv_at hl 0 rfl) ?_
  refine lv_iconst (v := 0) hx hb dX12_loadWorks_13 (by decide) ?_
  refine va_put (D := D) (ci := 12) (v := .int 0) (ty := .int) (C := RX12) (T := TX12) (N := 19) hx hb hts k2 tyX12 tyX12_ok nmX12 hown hKv hP hD hS 0 rfl rfl 7 (by decide) k4 (fun _ h9 => h9) rfl (by decide +kernel) rfl rfl (Nat.le_of_ble_eq_true rfl) dX12_loadWorks_14 (fun H locs hP hD hS => ?_)
  replace hP : va_P D vwCl (w_X12_loadWorks cI aM aM_s aM_ke aM_te aM_re aM_bo aM_bn aM_sh aM_in aM_su aM_gr aM_tr aM_ou aM_ro M_s M_ke M_km M_te M_n (upd M_re (Int32.toNatClampNeg 0) 0) 0 0 M_so M_om) H := hP
  replace hD : va_D A (w_X12_loadWorks cI aM aM_s aM_ke aM_te aM_re aM_bo aM_bn aM_sh aM_in aM_su aM_gr aM_tr aM_ou aM_ro M_s M_ke M_km M_te M_n (upd M_re (Int32.toNatClampNeg 0) 0) 0 0 M_so M_om) := hD
  refine lv_aload_n hx hb dX12_loadWorks_17 rfl (lv_at hl 0 rfl) ?_
  replace hm := bd_some hm
  obtain ⟨e2, hc2, hm⟩ := hm
  refine kV_v (rest := []) (ws' := (w_X12_loadWorks cI aM aM_s aM_ke aM_te aM_re aM_bo aM_bn aM_sh aM_in aM_su aM_gr aM_tr aM_ou aM_ro M_s M_ke M_km M_te M_n (upd M_re (Int32.toNatClampNeg 0) 0) e2.1 e2.2.1 e2.2.2 M_om)) S (c_X12_nextLexeme l D cI cJ cZ cS aM aM_s aM_ke aM_te aM_re aM_bo aM_bn aM_sh aM_in aM_su aM_gr aM_tr aM_ou aM_ro M_km M_te M_n 0 0 M_so M_om e2 hc2) k5 hK hP hD hS hA 0 rfl rfl rfl rfl hl.1 rfl (Nat.le_of_ble_eq_true rfl) ⟨Nat.zero_le _, Nat.zero_le _⟩ dX12_loadWorks_18 [0, 3] rfl rfl wa_X12_nextLexeme (sa_eq [(aM_s, .inl (cI, 131, .inl M_s)), (aM_ke, .inl (cI, 1048, .inl M_ke)), (aM_re, .inl (cI, 57, .inl (upd M_re (Int32.toNatClampNeg 0) 0)))] [1, 2, 4] 5 rfl rfl rfl rfl rfl rfl rfl) (fun H locs hP hD hS => ?_)
  replace hm := bd_some hm
  obtain ⟨e3, hc3, hm⟩ := hm
  have X3_0 : ∀ v3_0, e3 = Sum.inl v3_0 → ∀ (H : Heap) (locs : List Loc) (ls : Array Slot), va_P D vwCl (w_X12_loadWorks cI aM aM_s aM_ke aM_te aM_re aM_bo aM_bn aM_sh aM_in aM_su aM_gr aM_tr aM_ou aM_ro M_s M_ke M_km M_te M_n v3_0.1 v3_0.2.1 v3_0.2.2.1 v3_0.2.2.2 M_om) H → va_D A (w_X12_loadWorks cI aM aM_s aM_ke aM_te aM_re aM_bo aM_bn aM_sh aM_in aM_su aM_gr aM_tr aM_ou aM_ro M_s M_ke M_km M_te M_n v3_0.1 v3_0.2.1 v3_0.2.2.1 v3_0.2.2.2 M_om) → va_S A s.heap H locs → lv_has ls 2 [(0, .ref aM)] → W p l e rm_X12_loadWorks s m args below meth c H locs 0 0 Q (F0 m 53 ls []) := by
    intro v3_0 h9 H locs ls hP hD hS hl
    subst h9
    replace hm := el_l hm
    refine lv_bipush (v := (-10)) hx hb dX12_loadWorks_53 (by decide) ?_
    refine lv_aload_n hx hb dX12_loadWorks_55 rfl (lv_at hl 0 rfl) ?_
    refine va_get (D := D) (ci := 12) (v := .int v3_0.2.1) (C := RX12) (T := TX12) (N := 19) hx hb hts k2 hown hKv hP 0 rfl rfl 6 (by decide) k3 (fun _ h9 => h9) rfl dX12_loadWorks_56 ?_
    refine lv_isub hx hb dX12_loadWorks_59 ?_
    have h9 := Option.some.inj hm
    subst h9
    exact hret H locs _ ls _ hP hD hS rfl dX12_loadWorks_60
  have X3_1 : ∀ v3_1, e3 = Sum.inr (v3_1) → ∀ (H : Heap) (locs : List Loc) (ls : Array Slot), va_P D vwCl (w_X12_loadWorks cI aM aM_s aM_ke aM_te aM_re aM_bo aM_bn aM_sh aM_in aM_su aM_gr aM_tr aM_ou aM_ro M_s M_ke M_km M_te M_n v3_1.1 v3_1.2.1 v3_1.2.2.1 v3_1.2.2.2 M_om) H → va_D A (w_X12_loadWorks cI aM aM_s aM_ke aM_te aM_re aM_bo aM_bn aM_sh aM_in aM_su aM_gr aM_tr aM_ou aM_ro M_s M_ke M_km M_te M_n v3_1.1 v3_1.2.1 v3_1.2.2.1 v3_1.2.2.2 M_om) → va_S A s.heap H locs → lv_has ls 2 [(0, .ref aM)] → W p l e rm_X12_loadWorks s m args below meth c H locs 0 0 Q (F0 m 68 ls []) := by
    intro v3_1 h9 H locs ls hP hD hS hl
    subst h9
    replace hm := el_r hm
    refine lv_aload_n hx hb dX12_loadWorks_68 rfl (lv_at hl 0 rfl) ?_
    replace hm := bd_some hm
    obtain ⟨e4, hc4, hm⟩ := hm
    refine kV_v (rest := []) (ws' := (w_X12_loadWorks cI aM aM_s aM_ke aM_te aM_re aM_bo aM_bn aM_sh aM_in aM_su aM_gr aM_tr aM_ou aM_ro M_s e4.1 e4.2 M_te M_n v3_1.1 v3_1.2.1 v3_1.2.2.1 v3_1.2.2.2 M_om)) S (c_X12_keeps l D cI cJ cZ cS aM aM_s aM_ke aM_te aM_re aM_bo aM_bn aM_sh aM_in aM_su aM_gr aM_tr aM_ou aM_ro M_s M_ke M_km M_n v3_1.2.1 v3_1.2.2.1 v3_1.2.2.2 M_om e4 hc4) k6 hK hP hD hS hA 0 rfl rfl rfl rfl hl.1 rfl (Nat.le_of_ble_eq_true rfl) ⟨Nat.zero_le _, Nat.zero_le _⟩ dX12_loadWorks_69 [0, 1, 2] rfl rfl wa_X12_keeps (sa_eq [(aM_te, .inl (cI, 150, .inl M_te)), (aM_re, .inl (cI, 57, .inl v3_1.1))] [3, 4] 5 rfl rfl rfl rfl rfl rfl rfl) (fun H locs hP hD hS => ?_)
    refine lv_iconst (v := 0) hx hb dX12_loadWorks_72 (by decide) ?_
    refine lv_istore_n (lv' := [(1, .int 0), (0, .ref aM)]) hx hb dX12_loadWorks_73 rfl hl (by decide) rfl (fun ls hl => ?_)
    replace hm := bd_some hm
    obtain ⟨e5, hc5, hm⟩ := hm
    have X5_0 : ∀ (H : Heap) (locs : List Loc) (ls : Array Slot), va_P D vwCl (w_X12_loadWorks cI aM aM_s aM_ke aM_te aM_re aM_bo aM_bn aM_sh aM_in aM_su aM_gr aM_tr aM_ou aM_ro e5 e4.1 e4.2 M_te M_n v3_1.1 v3_1.2.1 v3_1.2.2.1 v3_1.2.2.2 M_om) H → va_D A (w_X12_loadWorks cI aM aM_s aM_ke aM_te aM_re aM_bo aM_bn aM_sh aM_in aM_su aM_gr aM_tr aM_ou aM_ro e5 e4.1 e4.2 M_te M_n v3_1.1 v3_1.2.1 v3_1.2.2.1 v3_1.2.2.2 M_om) → va_S A s.heap H locs → lv_has ls 2 [(0, .ref aM)] → W p l e rm_X12_loadWorks s m args below meth c H locs 0 0 Q (F0 m 98 ls []) := by
      intro H locs ls hP hD hS hl
      refine lv_aload_n hx hb dX12_loadWorks_98 rfl (lv_at hl 0 rfl) ?_
      refine va_get (D := D) (ci := 12) (v := .ref aM_s) (C := RX12) (T := TX12) (N := 19) hx hb hts k2 hown hKv hP 0 rfl rfl 0 (by decide) k7 (fun _ h9 => h9) rfl dX12_loadWorks_99 ?_
      refine lv_bipush (v := 70) hx hb dX12_loadWorks_102 (by decide) ?_
      refine lv_iconst (v := 0) hx hb dX12_loadWorks_104 (by decide) ?_
      replace hm := ck_some hm
      obtain ⟨h6, hm⟩ := hm
      refine va_iast hx hb hKv hP hD hS 1 0 rfl rfl h6 dX12_loadWorks_105 (fun H locs hP hD hS => ?_)
      replace hP : va_P D vwCl (w_X12_loadWorks cI aM aM_s aM_ke aM_te aM_re aM_bo aM_bn aM_sh aM_in aM_su aM_gr aM_tr aM_ou aM_ro (upd e5 (Int32.toNatClampNeg 70) 0) e4.1 e4.2 M_te M_n v3_1.1 v3_1.2.1 v3_1.2.2.1 v3_1.2.2.2 M_om) H := hP
      replace hD : va_D A (w_X12_loadWorks cI aM aM_s aM_ke aM_te aM_re aM_bo aM_bn aM_sh aM_in aM_su aM_gr aM_tr aM_ou aM_ro (upd e5 (Int32.toNatClampNeg 70) 0) e4.1 e4.2 M_te M_n v3_1.1 v3_1.2.1 v3_1.2.2.1 v3_1.2.2.2 M_om) := hD
      refine lv_aload_n hx hb dX12_loadWorks_106 rfl (lv_at hl 0 rfl) ?_
      refine lv_iconst (v := 0) hx hb dX12_loadWorks_107 (by decide) ?_
      refine va_put (D := D) (ci := 12) (v := .int 0) (ty := .int) (C := RX12) (T := TX12) (N := 19) hx hb hts k2 tyX12 tyX12_ok nmX12 hown hKv hP hD hS 0 rfl rfl 4 (by decide) k8 (fun _ h9 => h9) rfl (by decide +kernel) rfl rfl (Nat.le_of_ble_eq_true rfl) dX12_loadWorks_108 (fun H locs hP hD hS => ?_)
      replace hP : va_P D vwCl (w_X12_loadWorks cI aM aM_s aM_ke aM_te aM_re aM_bo aM_bn aM_sh aM_in aM_su aM_gr aM_tr aM_ou aM_ro (upd e5 (Int32.toNatClampNeg 70) 0) e4.1 e4.2 M_te 0 v3_1.1 v3_1.2.1 v3_1.2.2.1 v3_1.2.2.2 M_om) H := hP
      replace hD : va_D A (w_X12_loadWorks cI aM aM_s aM_ke aM_te aM_re aM_bo aM_bn aM_sh aM_in aM_su aM_gr aM_tr aM_ou aM_ro (upd e5 (Int32.toNatClampNeg 70) 0) e4.1 e4.2 M_te 0 v3_1.1 v3_1.2.1 v3_1.2.2.1 v3_1.2.2.2 M_om) := hD
      refine lv_aload_n hx hb dX12_loadWorks_111 rfl (lv_at hl 0 rfl) ?_
      refine va_get (D := D) (ci := 12) (v := .ref aM_s) (C := RX12) (T := TX12) (N := 19) hx hb hts k2 hown hKv hP 0 rfl rfl 0 (by decide) k7 (fun _ h9 => h9) rfl dX12_loadWorks_112 ?_
      refine lv_iconst (v := 0) hx hb dX12_loadWorks_115 (by decide) ?_
      replace hm := ck_some hm
      obtain ⟨h7, hm⟩ := hm
      refine va_iald hx hb hKv hP 1 0 rfl rfl h7 dX12_loadWorks_116 ?_
      have h9 := Option.some.inj hm
      subst h9
      exact hret H locs _ ls _ hP hD hS rfl dX12_loadWorks_117
    refine it_W (G := fun (st74 : Int32 × (Nat → Int32)) => ∀ (H : Heap) (locs : List Loc) (ls : Array Slot), va_P D vwCl (w_X12_loadWorks cI aM aM_s aM_ke aM_te aM_re aM_bo aM_bn aM_sh aM_in aM_su aM_gr aM_tr aM_ou aM_ro st74.2 e4.1 e4.2 M_te M_n v3_1.1 v3_1.2.1 v3_1.2.2.1 v3_1.2.2.2 M_om) H → va_D A (w_X12_loadWorks cI aM aM_s aM_ke aM_te aM_re aM_bo aM_bn aM_sh aM_in aM_su aM_gr aM_tr aM_ou aM_ro st74.2 e4.1 e4.2 M_te M_n v3_1.1 v3_1.2.1 v3_1.2.2.1 v3_1.2.2.2 M_om) → va_S A s.heap H locs → lv_has ls 2 [(0, .ref aM), (1, .int st74.1)] → W p l e rm_X12_loadWorks s m args below meth c H locs 0 0 Q (F0 m 74 ls [])) (e := e5) (fun st74 x hm hG hE => ?_) fu _ hc5 H locs ls hP hD hS (lv_sub hl [1, 0] rfl)
    intro H locs ls hP hD hS hl
    refine lv_iload_n hx hb dX12_loadWorks_74 rfl (lv_at hl 1 rfl) ?_
    refine lv_bipush (v := 57) hx hb dX12_loadWorks_75 (by decide) ?_
    refine lv_icmp_ge (tgt := 98) hx hb dX12_loadWorks_77 (by decide) (fun c8 => ?_) (fun c8 => ?_)
    · replace hm := if_t c8 hm
      have h9 := hE _ (Option.some.inj hm).symm
      subst h9
      exact X5_0 H locs ls hP hD hS (lv_sub hl [0] rfl)
    · replace hm := if_f c8 hm
      refine lv_aload_n hx hb dX12_loadWorks_80 rfl (lv_at hl 0 rfl) ?_
      refine va_get (D := D) (ci := 12) (v := .ref aM_s) (C := RX12) (T := TX12) (N := 19) hx hb hts k2 hown hKv hP 0 rfl rfl 0 (by decide) k7 (fun _ h9 => h9) rfl dX12_loadWorks_81 ?_
      refine lv_iload_n hx hb dX12_loadWorks_84 rfl (lv_at hl 1 rfl) ?_
      refine lv_aload_n hx hb dX12_loadWorks_85 rfl (lv_at hl 0 rfl) ?_
      refine va_get (D := D) (ci := 12) (v := .ref aM_re) (C := RX12) (T := TX12) (N := 19) hx hb hts k2 hown hKv hP 0 rfl rfl 5 (by decide) k1 (fun _ h9 => h9) rfl dX12_loadWorks_86 ?_
      refine lv_iload_n hx hb dX12_loadWorks_89 rfl (lv_at hl 1 rfl) ?_
      replace hm := ck_some hm
      obtain ⟨h9, hm⟩ := hm
      refine va_iald hx hb hKv hP 4 0 rfl rfl h9 dX12_loadWorks_90 ?_
      replace hm := ck_some hm
      obtain ⟨h10, hm⟩ := hm
      refine va_iast hx hb hKv hP hD hS 1 0 rfl rfl h10 dX12_loadWorks_91 (fun H locs hP hD hS => ?_)
      replace hP : va_P D vwCl (w_X12_loadWorks cI aM aM_s aM_ke aM_te aM_re aM_bo aM_bn aM_sh aM_in aM_su aM_gr aM_tr aM_ou aM_ro (upd st74.2 (Int32.toNatClampNeg st74.1) (v3_1.1 (Int32.toNatClampNeg st74.1))) e4.1 e4.2 M_te M_n v3_1.1 v3_1.2.1 v3_1.2.2.1 v3_1.2.2.2 M_om) H := hP
      replace hD : va_D A (w_X12_loadWorks cI aM aM_s aM_ke aM_te aM_re aM_bo aM_bn aM_sh aM_in aM_su aM_gr aM_tr aM_ou aM_ro (upd st74.2 (Int32.toNatClampNeg st74.1) (v3_1.1 (Int32.toNatClampNeg st74.1))) e4.1 e4.2 M_te M_n v3_1.1 v3_1.2.1 v3_1.2.2.1 v3_1.2.2.2 M_om) := hD
      refine lv_iinc (v := (st74.1 + 1)) (lv' := [(1, .int (st74.1 + 1)), (0, .ref aM)]) hx hb dX12_loadWorks_92 hl (k := 1) rfl rfl (by decide) rfl (fun ls hl => ?_)
      refine lv_goto (tgt := 74) hx hb dX12_loadWorks_95 (by decide) ?_
      exact hG _ (Option.some.inj hm).symm H locs ls hP hD hS (lv_sub hl [1, 0] rfl)
  refine it_W (G := fun (st21 : (Nat → Int32) × Int32 × Int32 × Int32) => ∀ (H : Heap) (locs : List Loc) (ls : Array Slot), va_P D vwCl (w_X12_loadWorks cI aM aM_s aM_ke aM_te aM_re aM_bo aM_bn aM_sh aM_in aM_su aM_gr aM_tr aM_ou aM_ro M_s M_ke M_km M_te M_n st21.1 st21.2.1 st21.2.2.1 st21.2.2.2 M_om) H → va_D A (w_X12_loadWorks cI aM aM_s aM_ke aM_te aM_re aM_bo aM_bn aM_sh aM_in aM_su aM_gr aM_tr aM_ou aM_ro M_s M_ke M_km M_te M_n st21.1 st21.2.1 st21.2.2.1 st21.2.2.2 M_om) → va_S A s.heap H locs → lv_has ls 2 [(0, .ref aM)] → W p l e rm_X12_loadWorks s m args below meth c H locs 0 0 Q (F0 m 21 ls [])) (e := e3) (fun st21 x hm hG hE => ?_) fu _ hc3 H locs ls hP hD hS (lv_sub hl [0] rfl)
  intro H locs ls hP hD hS hl
  refine lv_aload_n hx hb dX12_loadWorks_21 rfl (lv_at hl 0 rfl) ?_
  refine va_get (D := D) (ci := 12) (v := .int st21.2.2.1) (C := RX12) (T := TX12) (N := 19) hx hb hts k2 hown hKv hP 0 rfl rfl 7 (by decide) k4 (fun _ h9 => h9) rfl dX12_loadWorks_22 ?_
  refine lv_if_le (tgt := 68) hx hb dX12_loadWorks_25 (by decide) (fun c11 => ?_) (fun c11 => ?_)
  · replace hm := if_t c11 hm
    exact X3_1 _ (hE _ (Option.some.inj hm).symm).symm H locs ls hP hD hS (lv_sub hl [0] rfl)
  · replace hm := if_f c11 hm
    refine lv_aload_n hx hb dX12_loadWorks_28 rfl (lv_at hl 0 rfl) ?_
    replace hm := bd_some hm
    obtain ⟨e12, hc12, hm⟩ := hm
    refine kV_i (rest := []) (ws' := (w_X12_loadWorks cI aM aM_s aM_ke aM_te aM_re aM_bo aM_bn aM_sh aM_in aM_su aM_gr aM_tr aM_ou aM_ro M_s M_ke M_km M_te M_n st21.1 st21.2.1 st21.2.2.1 st21.2.2.2 M_om)) S (c_X12_isWordWork l D cI cJ cZ cS aM aM_s aM_ke aM_te aM_re aM_bo aM_bn aM_sh aM_in aM_su aM_gr aM_tr aM_ou aM_ro M_km M_te M_n st21.2.1 st21.2.2.1 st21.2.2.2 M_om e12 hc12) k9 hK hP hD hS hA 0 rfl rfl rfl rfl hl.1 rfl (Nat.le_of_ble_eq_true rfl) ⟨Nat.zero_le _, Nat.zero_le _⟩ dX12_loadWorks_29 [0, 3] rfl rfl wa_X12_isWordWork (sa_eq [(aM_s, .inl (cI, 131, .inl M_s)), (aM_ke, .inl (cI, 1048, .inl M_ke)), (aM_re, .inl (cI, 57, .inl st21.1))] [1, 2, 4] 5 rfl rfl rfl rfl rfl rfl rfl) (fun H locs hP hD hS => ?_)
    refine lv_if_eq (tgt := 53) hx hb dX12_loadWorks_32 (by decide) (fun c13 => ?_) (fun c13 => ?_)
    · replace hm := if_t c13 hm
      exact X3_0 _ (hE _ (Option.some.inj hm).symm).symm H locs ls hP hD hS (lv_sub hl [0] rfl)
    · replace hm := if_f c13 hm
      refine lv_aload_n hx hb dX12_loadWorks_35 rfl (lv_at hl 0 rfl) ?_
      refine va_get (D := D) (ci := 12) (v := .ref aM_re) (C := RX12) (T := TX12) (N := 19) hx hb hts k2 hown hKv hP 0 rfl rfl 5 (by decide) k1 (fun _ h9 => h9) rfl dX12_loadWorks_36 ?_
      refine lv_iconst (v := 0) hx hb dX12_loadWorks_39 (by decide) ?_
      replace hm := ck_some hm
      obtain ⟨h14, hm⟩ := hm
      refine va_iald hx hb hKv hP 4 0 rfl rfl h14 dX12_loadWorks_40 ?_
      refine lv_bipush (v := 8) hx hb dX12_loadWorks_41 (by decide) ?_
      refine lv_icmp_eq (tgt := 53) hx hb dX12_loadWorks_43 (by decide) (fun c15 => ?_) (fun c15 => ?_)
      · replace hm := if_t c15 hm
        exact X3_0 _ (hE _ (Option.some.inj hm).symm).symm H locs ls hP hD hS (lv_sub hl [0] rfl)
      · replace hm := if_f c15 hm
        refine lv_aload_n hx hb dX12_loadWorks_46 rfl (lv_at hl 0 rfl) ?_
        replace hm := bd_some hm
        obtain ⟨e16, hc16, hm⟩ := hm
        obtain ⟨e16_0, e16_1, e16_2, e16_3, e16_4⟩ := e16
        refine kV_i (rest := []) (ws' := (w_X12_loadWorks cI aM aM_s aM_ke aM_te aM_re aM_bo aM_bn aM_sh aM_in aM_su aM_gr aM_tr aM_ou aM_ro M_s M_ke M_km M_te M_n e16_1 e16_2 e16_3 e16_4 M_om)) S (c_X12_readsWork l D cI cJ cZ cS aM aM_s aM_ke aM_te aM_re aM_bo aM_bn aM_sh aM_in aM_su aM_gr aM_tr aM_ou aM_ro M_km M_te M_n st21.1 st21.2.1 st21.2.2.1 st21.2.2.2 M_om (e16_0, e16_1, e16_2, e16_3, e16_4) hc16) k10 hK hP hD hS hA 0 rfl rfl rfl rfl hl.1 rfl (Nat.le_of_ble_eq_true rfl) ⟨Nat.zero_le _, Nat.zero_le _⟩ dX12_loadWorks_47 [0, 3, 4] rfl rfl wa_X12_readsWork (sa_eq [(aM_s, .inl (cI, 131, .inl M_s)), (aM_ke, .inl (cI, 1048, .inl M_ke))] [1, 2] 5 rfl rfl rfl rfl rfl rfl rfl) (fun H locs hP hD hS => ?_)
        refine lv_if_ne (tgt := 61) hx hb dX12_loadWorks_50 (by decide) (fun c17 => ?_) (fun c17 => ?_)
        · replace hm := if_f c17 hm
          refine lv_aload_n hx hb dX12_loadWorks_61 rfl (lv_at hl 0 rfl) ?_
          replace hm := bd_some hm
          obtain ⟨e18, hc18, hm⟩ := hm
          refine kV_v (rest := []) (ws' := (w_X12_loadWorks cI aM aM_s aM_ke aM_te aM_re aM_bo aM_bn aM_sh aM_in aM_su aM_gr aM_tr aM_ou aM_ro M_s M_ke M_km M_te M_n e16_1 e18.1 e18.2.1 e18.2.2 M_om)) S (c_X12_nextLexeme l D cI cJ cZ cS aM aM_s aM_ke aM_te aM_re aM_bo aM_bn aM_sh aM_in aM_su aM_gr aM_tr aM_ou aM_ro M_km M_te M_n e16_2 e16_3 e16_4 M_om e18 hc18) k5 hK hP hD hS hA 0 rfl rfl rfl rfl hl.1 rfl (Nat.le_of_ble_eq_true rfl) ⟨Nat.zero_le _, Nat.zero_le _⟩ dX12_loadWorks_62 [0, 3] rfl rfl wa_X12_nextLexeme (sa_eq [(aM_s, .inl (cI, 131, .inl M_s)), (aM_ke, .inl (cI, 1048, .inl M_ke)), (aM_re, .inl (cI, 57, .inl e16_1))] [1, 2, 4] 5 rfl rfl rfl rfl rfl rfl rfl) (fun H locs hP hD hS => ?_)
          refine lv_goto (tgt := 21) hx hb dX12_loadWorks_65 (by decide) ?_
          exact hG _ (Option.some.inj hm).symm H locs ls hP hD hS (lv_sub hl [0] rfl)
        · replace hm := if_t c17 hm
          exact X3_0 _ (hE _ (Option.some.inj hm).symm).symm H locs ls hP hD hS (lv_sub hl [0] rfl)
set_option maxHeartbeats 4000000 in
set_option maxRecDepth 100000 in
theorem c_X12_numberIn (l : Launch) (D : va_G) (cI cJ cZ cS : ClassId) (aM aM_s aM_ke aM_te aM_re aM_bo aM_bn aM_sh aM_in aM_su aM_gr aM_tr aM_ou aM_ro : Nat) (M_km : Int32) (M_n : Int32) (M_be : Int32) (M_ma : Int32) (M_so : Int32) (M_bn : Nat → Int32) (M_om : Int32) (M_ro : Nat → Int32) (x1 : Int32) (o : Int32) (hm : m_X12_numberIn M_bn M_ro x1 = some o) : MI l yX12_numberIn wsX12_numberIn rm_X12_numberIn D (TY cI cJ cZ cS) [.ref aM, .int x1] (w_X12_numberIn cI aM aM_s aM_ke aM_te aM_re aM_bo aM_bn aM_sh aM_in aM_su aM_gr aM_tr aM_ou aM_ro M_km M_n M_be M_ma M_so M_bn M_om M_ro) (w_X12_numberIn cI aM aM_s aM_ke aM_te aM_re aM_bo aM_bn aM_sh aM_in aM_su aM_gr aM_tr aM_ou aM_ro M_km M_n M_be M_ma M_so M_bn M_om M_ro) (o) := by
  refine MI_of (cc := cX12_numberIn) (maxL := 2) (by decide) rfl (Nat.le_of_ble_eq_true rfl) ?_
  intro p e s m args below meth c A Q ls H locs hx hb hml hts hown hK hA hP hD hS hl hret
  have hown : s.vm.findClass RX12 = some m.cls := hown
  have hKv : va_K D vwCl (TY cI cJ cZ cS) s := hK.1
  have hl : lv_has ls 2 [(0, .ref aM), (1, .int x1)] := hl
  have S : CallFix p m c cX12_numberIn 2 s args wsX12_numberIn RX12 := ⟨hx, hb, hml, hown, hts⟩
  have k1 := hts (.fieldLink RX12 25 "CitationFormatterModel" "byNumber" "[I") (by decide +kernel)
  have k2 : ∀ w ∈ wsX120, w ∈ wsX12_numberIn := by decide +kernel
  have k3 := hts (.fieldLink RX12 47 "CitationFormatterModel" "row" "[I") (by decide +kernel)
  have k4 : CallW rm_X12_numberIn s args RX12 RX12 170 yX12_placeIn cX12_placeIn 4 (some .int) wsX12_placeIn rm_X12_placeIn_bn 0 0 2 := cwV 2 hts gX12_numberIn_X12_placeIn rfl rfl rfl (by decide +kernel) ⟨Nat.le_of_ble_eq_true rfl, Nat.le_of_ble_eq_true rfl⟩
  refine lv_aload_n hx hb dX12_numberIn_0 rfl (lv_at hl 0 rfl) ?_
  refine lv_aload_n hx hb dX12_numberIn_1 rfl (lv_at hl 0 rfl) ?_
  refine va_get (D := D) (ci := 12) (v := .ref aM_bn) (C := RX12) (T := TX12) (N := 19) hx hb hts k2 hown hKv hP 0 rfl rfl 10 (by decide) k1 (fun _ h9 => h9) rfl dX12_numberIn_2 ?_
  refine lv_aload_n hx hb dX12_numberIn_5 rfl (lv_at hl 0 rfl) ?_
  refine va_get (D := D) (ci := 12) (v := .ref aM_ro) (C := RX12) (T := TX12) (N := 19) hx hb hts k2 hown hKv hP 0 rfl rfl 18 (by decide) k3 (fun _ h9 => h9) rfl dX12_numberIn_6 ?_
  refine lv_iload_n hx hb dX12_numberIn_9 rfl (lv_at hl 1 rfl) ?_
  replace hm := ck_some hm
  obtain ⟨h1, hm⟩ := hm
  refine va_iald hx hb hKv hP 2 0 rfl rfl h1 dX12_numberIn_10 ?_
  replace hm := bd_some hm
  obtain ⟨e2, hc2, hm⟩ := hm
  refine kV_i (rest := []) (ws' := (w_X12_numberIn cI aM aM_s aM_ke aM_te aM_re aM_bo aM_bn aM_sh aM_in aM_su aM_gr aM_tr aM_ou aM_ro M_km M_n M_be M_ma M_so M_bn M_om M_ro)) S (c_X12_placeIn_bn l D cI cJ cZ cS aM aM_s aM_ke aM_te aM_re aM_bo aM_bn aM_sh aM_in aM_su aM_gr aM_tr aM_ou aM_ro M_km M_n M_be M_ma M_so M_bn M_om (M_ro (Int32.toNatClampNeg x1)) e2 hc2) k4 hK hP hD hS hA 0 rfl rfl rfl rfl hl.1 rfl (Nat.le_of_ble_eq_true rfl) ⟨Nat.zero_le _, Nat.zero_le _⟩ dX12_numberIn_11 [0, 1] rfl rfl wa_X12_placeIn_bn (sa_eq [(aM_ro, .inl (cI, 5, .inl M_ro))] [2] 3 rfl rfl rfl rfl rfl rfl rfl) (fun H locs hP hD hS => ?_)
  refine lv_iconst (v := 1) hx hb dX12_numberIn_14 (by decide) ?_
  refine lv_iadd hx hb dX12_numberIn_15 ?_
  have h9 := Option.some.inj hm
  subst h9
  exact hret H locs _ ls _ hP hD hS rfl dX12_numberIn_16
set_option maxHeartbeats 4000000 in
set_option maxRecDepth 100000 in
theorem c_X12_numberOf (l : Launch) (D : va_G) (cI cJ cZ cS : ClassId) (aM aM_s aM_ke aM_te aM_re aM_bo aM_bn aM_sh aM_in aM_su aM_gr aM_tr aM_ou aM_ro : Nat) (M_s : Nat → Int32) (M_km : Int32) (M_n : Int32) (M_be : Int32) (M_ma : Int32) (M_so : Int32) (M_bo : Nat → Int32) (M_bn : Nat → Int32) (M_om : Int32) (x1 : Int32) (o : Int32 × (Nat → Int32) × (Nat → Int32)) (hm : m_X12_numberOf M_s M_bo M_bn x1 = some o) : MI l yX12_numberOf wsX12_numberOf rm_X12_numberOf D (TY cI cJ cZ cS) [.ref aM, .int x1] (w_X12_numberOf cI aM aM_s aM_ke aM_te aM_re aM_bo aM_bn aM_sh aM_in aM_su aM_gr aM_tr aM_ou aM_ro M_s M_km M_n M_be M_ma M_so M_bo M_bn M_om) (w_X12_numberOf cI aM aM_s aM_ke aM_te aM_re aM_bo aM_bn aM_sh aM_in aM_su aM_gr aM_tr aM_ou aM_ro M_s M_km M_n M_be M_ma M_so o.2.1 o.2.2 M_om) (o.1) := by
  refine MI_of (cc := cX12_numberOf) (maxL := 2) (by decide) rfl (Nat.le_of_ble_eq_true rfl) ?_
  intro p e s m args below meth c A Q ls H locs hx hb hml hts hown hK hA hP hD hS hl hret
  have hown : s.vm.findClass RX12 = some m.cls := hown
  have hKv : va_K D vwCl (TY cI cJ cZ cS) s := hK.1
  have hl : lv_has ls 2 [(0, .ref aM), (1, .int x1)] := hl
  have S : CallFix p m c cX12_numberOf 2 s args wsX12_numberOf RX12 := ⟨hx, hb, hml, hown, hts⟩
  have k1 : CallW rm_X12_numberOf s args RX12 RX12 116 yX12_isWork cX12_isWork 2 (some .boolean) wsX12_isWork rm_X12_isWork 0 0 1 := cwV 1 hts gX12_numberOf_X12_isWork rfl rfl rfl (by decide +kernel) ⟨Nat.le_of_ble_eq_true rfl, Nat.le_of_ble_eq_true rfl⟩
  have k2 : CallW rm_X12_numberOf s args RX12 RX12 108 yX12_layNumbers cX12_layNumbers 6 none wsX12_layNumbers rm_X12_layNumbers 0 0 0 := cwV 0 hts gX12_numberOf_X12_layNumbers rfl rfl rfl (by decide +kernel) ⟨Nat.le_of_ble_eq_true rfl, Nat.le_of_ble_eq_true rfl⟩
  have k3 := hts (.fieldLink RX12 25 "CitationFormatterModel" "byNumber" "[I") (by decide +kernel)
  have k4 : ∀ w ∈ wsX120, w ∈ wsX12_numberOf := by decide +kernel
  have k5 : CallW rm_X12_numberOf s args RX12 RX12 170 yX12_placeIn cX12_placeIn 4 (some .int) wsX12_placeIn rm_X12_placeIn_bn 0 0 2 := cwV 2 hts gX12_numberOf_X12_placeIn rfl rfl rfl (by decide +kernel) ⟨Nat.le_of_ble_eq_true rfl, Nat.le_of_ble_eq_true rfl⟩
  refine lv_aload_n hx hb dX12_numberOf_0 rfl (lv_at hl 0 rfl) ?_
  refine lv_iload_n hx hb dX12_numberOf_1 rfl (lv_at hl 1 rfl) ?_
  replace hm := bd_some hm
  obtain ⟨e1, hc1, hm⟩ := hm
  refine kV_i (rest := []) (ws' := (w_X12_numberOf cI aM aM_s aM_ke aM_te aM_re aM_bo aM_bn aM_sh aM_in aM_su aM_gr aM_tr aM_ou aM_ro M_s M_km M_n M_be M_ma M_so M_bo M_bn M_om)) S (c_X12_isWork l D cI cJ cZ cS aM aM_s aM_ke aM_te aM_re aM_bo aM_bn aM_sh aM_in aM_su aM_gr aM_tr aM_ou aM_ro M_s M_km M_n M_be M_ma M_so M_om x1 e1 hc1) k1 hK hP hD hS hA 0 rfl rfl rfl rfl hl.1 rfl (Nat.le_of_ble_eq_true rfl) ⟨Nat.zero_le _, Nat.zero_le _⟩ dX12_numberOf_2 [0, 1] rfl rfl wa_X12_isWork (sa_eq [(aM_bo, .inl (cI, 8, .inl M_bo)), (aM_bn, .inl (cI, 8, .inl M_bn))] [2, 3] 4 rfl rfl rfl rfl rfl rfl rfl) (fun H locs hP hD hS => ?_)
  refine lv_if_ne (tgt := 10) hx hb dX12_numberOf_5 (by decide) (fun c2 => ?_) (fun c2 => ?_)
  · replace hm := if_f c2 hm
    refine lv_aload_n hx hb dX12_numberOf_10 rfl (lv_at hl 0 rfl) ?_
    replace hm := bd_some hm
    obtain ⟨e3, hc3, hm⟩ := hm
    refine kV_v (rest := []) (ws' := (w_X12_numberOf cI aM aM_s aM_ke aM_te aM_re aM_bo aM_bn aM_sh aM_in aM_su aM_gr aM_tr aM_ou aM_ro M_s M_km M_n M_be M_ma M_so e3.1 e3.2 M_om)) S (c_X12_layNumbers l D cI cJ cZ cS aM aM_s aM_ke aM_te aM_re aM_bo aM_bn aM_sh aM_in aM_su aM_gr aM_tr aM_ou aM_ro M_s M_km M_n M_be M_ma M_so M_bo M_bn M_om e3 hc3) k2 hK hP hD hS hA 0 rfl rfl rfl rfl hl.1 rfl (Nat.le_of_ble_eq_true rfl) ⟨Nat.zero_le _, Nat.zero_le _⟩ dX12_numberOf_11 [0, 1, 2, 3] rfl rfl wa_X12_layNumbers (sa_eq [] [] 4 rfl rfl rfl rfl rfl rfl rfl) (fun H locs hP hD hS => ?_)
    refine lv_aload_n hx hb dX12_numberOf_14 rfl (lv_at hl 0 rfl) ?_
    refine lv_aload_n hx hb dX12_numberOf_15 rfl (lv_at hl 0 rfl) ?_
    refine va_get (D := D) (ci := 12) (v := .ref aM_bn) (C := RX12) (T := TX12) (N := 19) hx hb hts k4 hown hKv hP 0 rfl rfl 10 (by decide) k3 (fun _ h9 => h9) rfl dX12_numberOf_16 ?_
    refine lv_iload_n hx hb dX12_numberOf_19 rfl (lv_at hl 1 rfl) ?_
    replace hm := bd_some hm
    obtain ⟨e4, hc4, hm⟩ := hm
    refine kV_i (rest := []) (ws' := (w_X12_numberOf cI aM aM_s aM_ke aM_te aM_re aM_bo aM_bn aM_sh aM_in aM_su aM_gr aM_tr aM_ou aM_ro M_s M_km M_n M_be M_ma M_so e3.1 e3.2 M_om)) S (c_X12_placeIn_bn l D cI cJ cZ cS aM aM_s aM_ke aM_te aM_re aM_bo aM_bn aM_sh aM_in aM_su aM_gr aM_tr aM_ou aM_ro M_km M_n M_be M_ma M_so e3.2 M_om x1 e4 hc4) k5 hK hP hD hS hA 0 rfl rfl rfl rfl hl.1 rfl (Nat.le_of_ble_eq_true rfl) ⟨Nat.zero_le _, Nat.zero_le _⟩ dX12_numberOf_20 [0, 3] rfl rfl wa_X12_placeIn_bn (sa_eq [(aM_s, .inl (cI, 131, .inl M_s)), (aM_bo, .inl (cI, 8, .inl e3.1))] [1, 2] 4 rfl rfl rfl rfl rfl rfl rfl) (fun H locs hP hD hS => ?_)
    refine lv_iconst (v := 1) hx hb dX12_numberOf_23 (by decide) ?_
    refine lv_iadd hx hb dX12_numberOf_24 ?_
    have h9 := Option.some.inj hm
    subst h9
    exact hret H locs _ ls _ hP hD hS rfl dX12_numberOf_25
  · replace hm := if_t c2 hm
    refine lv_iconst (v := (-1)) hx hb dX12_numberOf_8 (by decide) ?_
    have h9 := Option.some.inj hm
    subst h9
    exact hret H locs _ ls _ hP hD hS rfl dX12_numberOf_9
set_option maxHeartbeats 4000000 in
set_option maxRecDepth 100000 in
theorem c_X12_putNames (l : Launch) (D : va_G) (cI cJ cZ cS : ClassId) (aM aM_s aM_ke aM_te aM_re aM_bo aM_bn aM_sh aM_in aM_su aM_gr aM_tr aM_ou aM_ro : Nat) (M_s : Nat → Int32) (M_km : Int32) (M_n : Int32) (M_be : Int32) (M_ma : Int32) (M_so : Int32) (M_sh : Nat → Int32) (M_in : Nat → Int32) (M_ou : Nat → Int32) (M_om : Int32) (x1 : Int32) (o : (Nat → Int32) × Int32) (hm : m_X12_putNames M_s M_sh M_in M_ou M_om x1 = some o) : MV l yX12_putNames wsX12_putNames rm_X12_putNames D (TY cI cJ cZ cS) [.ref aM, .int x1] (w_X12_putNames cI cZ aM aM_s aM_ke aM_te aM_re aM_bo aM_bn aM_sh aM_in aM_su aM_gr aM_tr aM_ou aM_ro M_s M_km M_n M_be M_ma M_so M_sh M_in M_ou M_om) (w_X12_putNames cI cZ aM aM_s aM_ke aM_te aM_re aM_bo aM_bn aM_sh aM_in aM_su aM_gr aM_tr aM_ou aM_ro M_s M_km M_n M_be M_ma M_so M_sh M_in o.1 o.2) := by
  refine MV_of (cc := cX12_putNames) (maxL := 2) (by decide) rfl (Nat.le_of_ble_eq_true rfl) ?_
  intro p e s m args below meth c A Q ls H locs hx hb hml hts hown hK hA hP hD hS hl hret
  have hown : s.vm.findClass RX12 = some m.cls := hown
  have hKv : va_K D vwCl (TY cI cJ cZ cS) s := hK.1
  have hl : lv_has ls 2 [(0, .ref aM), (1, .int x1)] := hl
  have S : CallFix p m c cX12_putNames 2 s args wsX12_putNames RX12 := ⟨hx, hb, hml, hown, hts⟩
  have k1 := hts (.fieldLink RX12 28 "CitationFormatterModel" "shown" "[I") (by decide +kernel)
  have k2 : ∀ w ∈ wsX120, w ∈ wsX12_putNames := by decide +kernel
  have k3 := hts (.fieldLink RX12 31 "CitationFormatterModel" "initials" "[Z") (by decide +kernel)
  have k4 : CallW rm_X12_putNames s args RX12 RX12 212 yX12_putAuthors cX12_putAuthors 5 none wsX12_putAuthors rm_X12_putAuthors 0 0 3 := cwV 3 hts gX12_putNames_X12_putAuthors rfl rfl rfl (by decide +kernel) ⟨Nat.le_of_ble_eq_true rfl, Nat.le_of_ble_eq_true rfl⟩
  have k5 : CallW rm_X12_putNames s args RX12 RX12 146 yX12_authors cX12_authors 2 (some .int) wsX12_authors rm_X12_authors 0 0 1 := cwV 1 hts gX12_putNames_X12_authors rfl rfl rfl (by decide +kernel) ⟨Nat.le_of_ble_eq_true rfl, Nat.le_of_ble_eq_true rfl⟩
  have k6 : CallW rm_X12_putNames s args RX12 RX12 209 yX12_put cX12_put 2 none wsX12_put rm_X12_put 0 0 1 := cwV 1 hts gX12_putNames_X12_put rfl rfl rfl (by decide +kernel) ⟨Nat.le_of_ble_eq_true rfl, Nat.le_of_ble_eq_true rfl⟩
  have J37 : ∀ (M_ou_j37 : Nat → Int32) (M_om_j37 : Int32), (m_X12_putNames_J37 M_ou_j37 M_om_j37 = some o) → ∀ (H : Heap) (locs : List Loc) (ls : Array Slot), va_P D vwCl (w_X12_putNames cI cZ aM aM_s aM_ke aM_te aM_re aM_bo aM_bn aM_sh aM_in aM_su aM_gr aM_tr aM_ou aM_ro M_s M_km M_n M_be M_ma M_so M_sh M_in M_ou_j37 M_om_j37) H → va_D A (w_X12_putNames cI cZ aM aM_s aM_ke aM_te aM_re aM_bo aM_bn aM_sh aM_in aM_su aM_gr aM_tr aM_ou aM_ro M_s M_km M_n M_be M_ma M_so M_sh M_in M_ou_j37 M_om_j37) → va_S A s.heap H locs → lv_has ls 2 [(0, .ref aM)] → W p l e rm_X12_putNames s m args below meth c H locs 0 0 Q (F0 m 37 ls []) := by
    intro M_ou_j37 M_om_j37 hm H locs ls hP hD hS hl
    have h9 := Option.some.inj hm
    subst h9
    exact hret H locs _ ls hP hD hS dX12_putNames_37
  refine lv_aload_n hx hb dX12_putNames_0 rfl (lv_at hl 0 rfl) ?_
  refine lv_iload_n hx hb dX12_putNames_1 rfl (lv_at hl 1 rfl) ?_
  refine lv_aload_n hx hb dX12_putNames_2 rfl (lv_at hl 0 rfl) ?_
  refine va_get (D := D) (ci := 12) (v := .ref aM_sh) (C := RX12) (T := TX12) (N := 19) hx hb hts k2 hown hKv hP 0 rfl rfl 11 (by decide) k1 (fun _ h9 => h9) rfl dX12_putNames_3 ?_
  refine lv_iload_n hx hb dX12_putNames_6 rfl (lv_at hl 1 rfl) ?_
  replace hm := ck_some hm
  obtain ⟨h1, hm⟩ := hm
  refine va_iald hx hb hKv hP 2 0 rfl rfl h1 dX12_putNames_7 ?_
  refine lv_aload_n hx hb dX12_putNames_8 rfl (lv_at hl 0 rfl) ?_
  refine va_get (D := D) (ci := 12) (v := .ref aM_in) (C := RX12) (T := TX12) (N := 19) hx hb hts k2 hown hKv hP 0 rfl rfl 12 (by decide) k3 (fun _ h9 => h9) rfl dX12_putNames_9 ?_
  refine lv_iload_n hx hb dX12_putNames_12 rfl (lv_at hl 1 rfl) ?_
  replace hm := ck_some hm
  obtain ⟨h2, hm⟩ := hm
  refine va_zald hx hb hKv hP 3 2 rfl rfl h2 dX12_putNames_13 ?_
  replace hm := bd_some hm
  obtain ⟨e3, hc3, hm⟩ := hm
  refine kV_v (rest := []) (ws' := (w_X12_putNames cI cZ aM aM_s aM_ke aM_te aM_re aM_bo aM_bn aM_sh aM_in aM_su aM_gr aM_tr aM_ou aM_ro M_s M_km M_n M_be M_ma M_so M_sh M_in e3.1 e3.2)) S (c_X12_putAuthors l D cI cJ cZ cS aM aM_s aM_ke aM_te aM_re aM_bo aM_bn aM_sh aM_in aM_su aM_gr aM_tr aM_ou aM_ro M_s M_km M_n M_be M_ma M_so M_ou M_om x1 (M_sh (Int32.toNatClampNeg x1)) (M_in (Int32.toNatClampNeg x1)) e3 hc3) k4 hK hP hD hS hA 0 rfl rfl rfl rfl hl.1 rfl (Nat.le_of_ble_eq_true rfl) ⟨Nat.zero_le _, Nat.zero_le _⟩ dX12_putNames_14 [0, 1, 4] rfl rfl wa_X12_putAuthors (sa_eq [(aM_sh, .inl (cI, 8, .inl M_sh)), (aM_in, .inl (cZ, 8, .inl M_in))] [2, 3] 5 rfl rfl rfl rfl rfl rfl rfl) (fun H locs hP hD hS => ?_)
  refine lv_aload_n hx hb dX12_putNames_17 rfl (lv_at hl 0 rfl) ?_
  refine va_get (D := D) (ci := 12) (v := .ref aM_sh) (C := RX12) (T := TX12) (N := 19) hx hb hts k2 hown hKv hP 0 rfl rfl 11 (by decide) k1 (fun _ h9 => h9) rfl dX12_putNames_18 ?_
  refine lv_iload_n hx hb dX12_putNames_21 rfl (lv_at hl 1 rfl) ?_
  replace hm := ck_some hm
  obtain ⟨h4, hm⟩ := hm
  refine va_iald hx hb hKv hP 2 0 rfl rfl h4 dX12_putNames_22 ?_
  refine lv_aload_n hx hb dX12_putNames_23 rfl (lv_at hl 0 rfl) ?_
  refine lv_iload_n hx hb dX12_putNames_24 rfl (lv_at hl 1 rfl) ?_
  replace hm := bd_some hm
  obtain ⟨e5, hc5, hm⟩ := hm
  refine kV_i (rest := [.int (M_sh (Int32.toNatClampNeg x1))]) (ws' := (w_X12_putNames cI cZ aM aM_s aM_ke aM_te aM_re aM_bo aM_bn aM_sh aM_in aM_su aM_gr aM_tr aM_ou aM_ro M_s M_km M_n M_be M_ma M_so M_sh M_in e3.1 e3.2)) S (c_X12_authors l D cI cJ cZ cS aM aM_s aM_ke aM_te aM_re aM_bo aM_bn aM_sh aM_in aM_su aM_gr aM_tr aM_ou aM_ro M_s M_km M_n M_be M_ma M_so e3.2 x1 e5 hc5) k5 hK hP hD hS hA 0 rfl rfl rfl rfl hl.1 rfl (Nat.le_of_ble_eq_true rfl) ⟨Nat.zero_le _, Nat.zero_le _⟩ dX12_putNames_25 [0, 1] rfl rfl wa_X12_authors (sa_eq [(aM_sh, .inl (cI, 8, .inl M_sh)), (aM_in, .inl (cZ, 8, .inl M_in)), (aM_ou, .inl (cI, 300, .inl e3.1))] [2, 3, 4] 5 rfl rfl rfl rfl rfl rfl rfl) (fun H locs hP hD hS => ?_)
  refine lv_icmp_ge (tgt := 37) hx hb dX12_putNames_28 (by decide) (fun c6 => ?_) (fun c6 => ?_)
  · replace hm := if_t c6 hm
    exact J37 e3.1 e3.2 hm H locs ls hP hD hS (lv_sub hl [0] rfl)
  · replace hm := if_f c6 hm
    refine lv_aload_n hx hb dX12_putNames_31 rfl (lv_at hl 0 rfl) ?_
    refine lv_bipush (v := 43) hx hb dX12_putNames_32 (by decide) ?_
    replace hm := bd_some hm
    obtain ⟨e7, hc7, hm⟩ := hm
    refine kV_v (rest := []) (ws' := (w_X12_putNames cI cZ aM aM_s aM_ke aM_te aM_re aM_bo aM_bn aM_sh aM_in aM_su aM_gr aM_tr aM_ou aM_ro M_s M_km M_n M_be M_ma M_so M_sh M_in e7.1 e7.2)) S (c_X12_put l D cI cJ cZ cS aM aM_s aM_ke aM_te aM_re aM_bo aM_bn aM_sh aM_in aM_su aM_gr aM_tr aM_ou aM_ro M_km M_n M_be M_ma M_so e3.1 e3.2 43 e7 hc7) k6 hK hP hD hS hA 0 rfl rfl rfl rfl hl.1 rfl (Nat.le_of_ble_eq_true rfl) ⟨Nat.zero_le _, Nat.zero_le _⟩ dX12_putNames_34 [0, 4] rfl rfl wa_X12_put (sa_eq [(aM_s, .inl (cI, 131, .inl M_s)), (aM_sh, .inl (cI, 8, .inl M_sh)), (aM_in, .inl (cZ, 8, .inl M_in))] [1, 2, 3] 5 rfl rfl rfl rfl rfl rfl rfl) (fun H locs hP hD hS => ?_)
    exact J37 e7.1 e7.2 hm H locs ls hP hD hS (lv_sub hl [0] rfl)
set_option maxHeartbeats 4000000 in
set_option maxRecDepth 100000 in
theorem c_X12_putAuthorYear (l : Launch) (D : va_G) (cI cJ cZ cS : ClassId) (aM aM_s aM_ke aM_te aM_re aM_bo aM_bn aM_sh aM_in aM_su aM_gr aM_tr aM_ou aM_ro : Nat) (M_s : Nat → Int32) (M_km : Int32) (M_n : Int32) (M_be : Int32) (M_ma : Int32) (M_so : Int32) (M_sh : Nat → Int32) (M_in : Nat → Int32) (M_su : Nat → Int32) (M_ou : Nat → Int32) (M_om : Int32) (M_ro : Nat → Int32) (x1 : Int32) (o : (Nat → Int32) × Int32) (hm : m_X12_putAuthorYear M_s M_sh M_in M_su M_ou M_om M_ro x1 = some o) : MV l yX12_putAuthorYear wsX12_putAuthorYear rm_X12_putAuthorYear D (TY cI cJ cZ cS) [.ref aM, .int x1] (w_X12_putAuthorYear cI cZ aM aM_s aM_ke aM_te aM_re aM_bo aM_bn aM_sh aM_in aM_su aM_gr aM_tr aM_ou aM_ro M_s M_km M_n M_be M_ma M_so M_sh M_in M_su M_ou M_om M_ro) (w_X12_putAuthorYear cI cZ aM aM_s aM_ke aM_te aM_re aM_bo aM_bn aM_sh aM_in aM_su aM_gr aM_tr aM_ou aM_ro M_s M_km M_n M_be M_ma M_so M_sh M_in M_su o.1 o.2 M_ro) := by
  refine MV_of (cc := cX12_putAuthorYear) (maxL := 5) (by decide) rfl (Nat.le_of_ble_eq_true rfl) ?_
  intro p e s m args below meth c A Q ls H locs hx hb hml hts hown hK hA hP hD hS hl hret
  have hown : s.vm.findClass RX12 = some m.cls := hown
  have hKv : va_K D vwCl (TY cI cJ cZ cS) s := hK.1
  have hl : lv_has ls 5 [(0, .ref aM), (1, .int x1)] := hl
  have S : CallFix p m c cX12_putAuthorYear 5 s args wsX12_putAuthorYear RX12 := ⟨hx, hb, hml, hown, hts⟩
  have k1 : CallW rm_X12_putAuthorYear s args RX12 RX12 209 yX12_put cX12_put 2 none wsX12_put rm_X12_put 0 0 1 := cwV 1 hts gX12_putAuthorYear_X12_put rfl rfl rfl (by decide +kernel) ⟨Nat.le_of_ble_eq_true rfl, Nat.le_of_ble_eq_true rfl⟩
  have k2 : CallW rm_X12_putAuthorYear s args RX12 RX12 225 yX12_putSuffix cX12_putSuffix 2 none wsX12_putSuffix rm_X12_putSuffix 0 0 1 := cwV 1 hts gX12_putAuthorYear_X12_putSuffix rfl rfl rfl (by decide +kernel) ⟨Nat.le_of_ble_eq_true rfl, Nat.le_of_ble_eq_true rfl⟩
  have k3 : CallW rm_X12_putAuthorYear s args RX12 RX12 222 yX12_putYear cX12_putYear 2 none wsX12_putYear rm_X12_putYear 0 0 1 := cwV 1 hts gX12_putAuthorYear_X12_putYear rfl rfl rfl (by decide +kernel) ⟨Nat.le_of_ble_eq_true rfl, Nat.le_of_ble_eq_true rfl⟩
  have k4 := hts (.fieldLink RX12 7 "CitationFormatterModel" "s" "[I") (by decide +kernel)
  have k5 : ∀ w ∈ wsX120, w ∈ wsX12_putAuthorYear := by decide +kernel
  have k6 := hts (.fieldLink RX12 35 "CitationFormatterModel" "suffix" "[I") (by decide +kernel)
  have k7 : CallW rm_X12_putAuthorYear s args RX12 RX12 155 yX12_year cX12_year 2 (some .int) wsX12_year rm_X12_year 0 0 1 := cwV 1 hts gX12_putAuthorYear_X12_year rfl rfl rfl (by decide +kernel) ⟨Nat.le_of_ble_eq_true rfl, Nat.le_of_ble_eq_true rfl⟩
  have k8 := hts (.fieldLink RX12 47 "CitationFormatterModel" "row" "[I") (by decide +kernel)
  have k9 : CallW rm_X12_putAuthorYear s args RX12 RX12 219 yX12_putNames cX12_putNames 2 none wsX12_putNames rm_X12_putNames 0 0 1 := cwV 1 hts gX12_putAuthorYear_X12_putNames rfl rfl rfl (by decide +kernel) ⟨Nat.le_of_ble_eq_true rfl, Nat.le_of_ble_eq_true rfl⟩
  have k10 : CallW rm_X12_putAuthorYear s args RX12 RX12 119 yX12_cites cX12_cites 2 (some .int) wsX12_cites rm_X12_cites 0 0 1 := cwV 1 hts gX12_putAuthorYear_X12_cites rfl rfl rfl (by decide +kernel) ⟨Nat.le_of_ble_eq_true rfl, Nat.le_of_ble_eq_true rfl⟩
  have k11 : CallW rm_X12_putAuthorYear s args RX12 RX12 174 yX12_haveOneNames cX12_haveOneNames 6 (some .boolean) wsX12_haveOneNames rm_X12_haveOneNames 0 0 2 := cwV 2 hts gX12_putAuthorYear_X12_haveOneNames rfl rfl rfl (by decide +kernel) ⟨Nat.le_of_ble_eq_true rfl, Nat.le_of_ble_eq_true rfl⟩
  refine lv_aload_n hx hb dX12_putAuthorYear_0 rfl (lv_at hl 0 rfl) ?_
  refine lv_bipush (v := 40) hx hb dX12_putAuthorYear_1 (by decide) ?_
  replace hm := bd_some hm
  obtain ⟨e1, hc1, hm⟩ := hm
  refine kV_v (rest := []) (ws' := (w_X12_putAuthorYear cI cZ aM aM_s aM_ke aM_te aM_re aM_bo aM_bn aM_sh aM_in aM_su aM_gr aM_tr aM_ou aM_ro M_s M_km M_n M_be M_ma M_so M_sh M_in M_su e1.1 e1.2 M_ro)) S (c_X12_put l D cI cJ cZ cS aM aM_s aM_ke aM_te aM_re aM_bo aM_bn aM_sh aM_in aM_su aM_gr aM_tr aM_ou aM_ro M_km M_n M_be M_ma M_so M_ou M_om 40 e1 hc1) k1 hK hP hD hS hA 0 rfl rfl rfl rfl hl.1 rfl (Nat.le_of_ble_eq_true rfl) ⟨Nat.zero_le _, Nat.zero_le _⟩ dX12_putAuthorYear_3 [0, 5] rfl rfl wa_X12_put (sa_eq [(aM_s, .inl (cI, 131, .inl M_s)), (aM_sh, .inl (cI, 8, .inl M_sh)), (aM_in, .inl (cZ, 8, .inl M_in)), (aM_su, .inl (cI, 8, .inl M_su)), (aM_ro, .inl (cI, 5, .inl M_ro))] [1, 2, 3, 4, 6] 7 rfl rfl rfl rfl rfl rfl rfl) (fun H locs hP hD hS => ?_)
  refine lv_iconst (v := 0) hx hb dX12_putAuthorYear_6 (by decide) ?_
  refine lv_istore_n (lv' := [(2, .int 0), (0, .ref aM), (1, .int x1)]) hx hb dX12_putAuthorYear_7 rfl hl (by decide) rfl (fun ls hl => ?_)
  replace hm := bd_some hm
  obtain ⟨e2, hc2, hm⟩ := hm
  have X2_0 : ∀ (H : Heap) (locs : List Loc) (ls : Array Slot), va_P D vwCl (w_X12_putAuthorYear cI cZ aM aM_s aM_ke aM_te aM_re aM_bo aM_bn aM_sh aM_in aM_su aM_gr aM_tr aM_ou aM_ro M_s M_km M_n M_be M_ma M_so M_sh M_in M_su e2.1 e2.2 M_ro) H → va_D A (w_X12_putAuthorYear cI cZ aM aM_s aM_ke aM_te aM_re aM_bo aM_bn aM_sh aM_in aM_su aM_gr aM_tr aM_ou aM_ro M_s M_km M_n M_be M_ma M_so M_sh M_in M_su e2.1 e2.2 M_ro) → va_S A s.heap H locs → lv_has ls 5 [(0, .ref aM)] → W p l e rm_X12_putAuthorYear s m args below meth c H locs 0 0 Q (F0 m 154 ls []) := by
    intro H locs ls hP hD hS hl
    refine lv_aload_n hx hb dX12_putAuthorYear_154 rfl (lv_at hl 0 rfl) ?_
    refine lv_bipush (v := 41) hx hb dX12_putAuthorYear_155 (by decide) ?_
    replace hm := bd_some hm
    obtain ⟨e3, hc3, hm⟩ := hm
    refine kV_v (rest := []) (ws' := (w_X12_putAuthorYear cI cZ aM aM_s aM_ke aM_te aM_re aM_bo aM_bn aM_sh aM_in aM_su aM_gr aM_tr aM_ou aM_ro M_s M_km M_n M_be M_ma M_so M_sh M_in M_su e3.1 e3.2 M_ro)) S (c_X12_put l D cI cJ cZ cS aM aM_s aM_ke aM_te aM_re aM_bo aM_bn aM_sh aM_in aM_su aM_gr aM_tr aM_ou aM_ro M_km M_n M_be M_ma M_so e2.1 e2.2 41 e3 hc3) k1 hK hP hD hS hA 0 rfl rfl rfl rfl hl.1 rfl (Nat.le_of_ble_eq_true rfl) ⟨Nat.zero_le _, Nat.zero_le _⟩ dX12_putAuthorYear_157 [0, 5] rfl rfl wa_X12_put (sa_eq [(aM_s, .inl (cI, 131, .inl M_s)), (aM_sh, .inl (cI, 8, .inl M_sh)), (aM_in, .inl (cZ, 8, .inl M_in)), (aM_su, .inl (cI, 8, .inl M_su)), (aM_ro, .inl (cI, 5, .inl M_ro))] [1, 2, 3, 4, 6] 7 rfl rfl rfl rfl rfl rfl rfl) (fun H locs hP hD hS => ?_)
    have h9 := Option.some.inj hm
    subst h9
    exact hret H locs _ ls hP hD hS dX12_putAuthorYear_160
  refine it_W (G := fun (st8 : Int32 × (Nat → Int32) × Int32) => ∀ (H : Heap) (locs : List Loc) (ls : Array Slot), va_P D vwCl (w_X12_putAuthorYear cI cZ aM aM_s aM_ke aM_te aM_re aM_bo aM_bn aM_sh aM_in aM_su aM_gr aM_tr aM_ou aM_ro M_s M_km M_n M_be M_ma M_so M_sh M_in M_su st8.2.1 st8.2.2 M_ro) H → va_D A (w_X12_putAuthorYear cI cZ aM aM_s aM_ke aM_te aM_re aM_bo aM_bn aM_sh aM_in aM_su aM_gr aM_tr aM_ou aM_ro M_s M_km M_n M_be M_ma M_so M_sh M_in M_su st8.2.1 st8.2.2 M_ro) → va_S A s.heap H locs → lv_has ls 5 [(0, .ref aM), (1, .int x1), (2, .int st8.1)] → W p l e rm_X12_putAuthorYear s m args below meth c H locs 0 0 Q (F0 m 8 ls [])) (e := e2) (fun st8 x hm hG hE => ?_) fu _ hc2 H locs ls hP hD hS (lv_sub hl [1, 2, 0] rfl)
  intro H locs ls hP hD hS hl
  have J143 : ∀ (x2_j143 : Int32) (x3_j143 : Int32) (M_ou_j143 : Nat → Int32) (M_om_j143 : Int32), (m_X12_putAuthorYear_J143 x1 x2_j143 x3_j143 M_su M_ou_j143 M_om_j143 = some x) → ∀ (H : Heap) (locs : List Loc) (ls : Array Slot), va_P D vwCl (w_X12_putAuthorYear cI cZ aM aM_s aM_ke aM_te aM_re aM_bo aM_bn aM_sh aM_in aM_su aM_gr aM_tr aM_ou aM_ro M_s M_km M_n M_be M_ma M_so M_sh M_in M_su M_ou_j143 M_om_j143 M_ro) H → va_D A (w_X12_putAuthorYear cI cZ aM aM_s aM_ke aM_te aM_re aM_bo aM_bn aM_sh aM_in aM_su aM_gr aM_tr aM_ou aM_ro M_s M_km M_n M_be M_ma M_so M_sh M_in M_su M_ou_j143 M_om_j143 M_ro) → va_S A s.heap H locs → lv_has ls 5 [(0, .ref aM), (1, .int x1), (2, .int x2_j143), (3, .int x3_j143)] → W p l e rm_X12_putAuthorYear s m args below meth c H locs 0 0 Q (F0 m 143 ls []) := by
    intro x2_j143 x3_j143 M_ou_j143 M_om_j143 hm H locs ls hP hD hS hl
    refine lv_aload_n hx hb dX12_putAuthorYear_143 rfl (lv_at hl 0 rfl) ?_
    refine lv_iload_n hx hb dX12_putAuthorYear_144 rfl (lv_at hl 3 rfl) ?_
    replace hm := bd_some hm
    obtain ⟨e4, hc4, hm⟩ := hm
    refine kV_v (rest := []) (ws' := (w_X12_putAuthorYear cI cZ aM aM_s aM_ke aM_te aM_re aM_bo aM_bn aM_sh aM_in aM_su aM_gr aM_tr aM_ou aM_ro M_s M_km M_n M_be M_ma M_so M_sh M_in M_su e4.1 e4.2 M_ro)) S (c_X12_putSuffix l D cI cJ cZ cS aM aM_s aM_ke aM_te aM_re aM_bo aM_bn aM_sh aM_in aM_su aM_gr aM_tr aM_ou aM_ro M_km M_n M_be M_ma M_so M_su M_ou_j143 M_om_j143 x3_j143 e4 hc4) k2 hK hP hD hS hA 0 rfl rfl rfl rfl hl.1 rfl (Nat.le_of_ble_eq_true rfl) ⟨Nat.zero_le _, Nat.zero_le _⟩ dX12_putAuthorYear_145 [0, 4, 5] rfl rfl wa_X12_putSuffix (sa_eq [(aM_s, .inl (cI, 131, .inl M_s)), (aM_sh, .inl (cI, 8, .inl M_sh)), (aM_in, .inl (cZ, 8, .inl M_in)), (aM_ro, .inl (cI, 5, .inl M_ro))] [1, 2, 3, 6] 7 rfl rfl rfl rfl rfl rfl rfl) (fun H locs hP hD hS => ?_)
    refine lv_iinc (v := (x2_j143 + 1)) (lv' := [(2, .int (x2_j143 + 1)), (0, .ref aM), (1, .int x1), (3, .int x3_j143)]) hx hb dX12_putAuthorYear_148 hl (k := 2) rfl rfl (by decide) rfl (fun ls hl => ?_)
    refine lv_goto (tgt := 8) hx hb dX12_putAuthorYear_151 (by decide) ?_
    exact hG _ (Option.some.inj hm).symm H locs ls hP hD hS (lv_sub hl [1, 2, 0] rfl)
  have J138 : ∀ (x2_j138 : Int32) (x3_j138 : Int32) (M_ou_j138 : Nat → Int32) (M_om_j138 : Int32), (m_X12_putAuthorYear_J138 x1 x2_j138 x3_j138 M_s M_su M_ou_j138 M_om_j138 = some x) → ∀ (H : Heap) (locs : List Loc) (ls : Array Slot), va_P D vwCl (w_X12_putAuthorYear cI cZ aM aM_s aM_ke aM_te aM_re aM_bo aM_bn aM_sh aM_in aM_su aM_gr aM_tr aM_ou aM_ro M_s M_km M_n M_be M_ma M_so M_sh M_in M_su M_ou_j138 M_om_j138 M_ro) H → va_D A (w_X12_putAuthorYear cI cZ aM aM_s aM_ke aM_te aM_re aM_bo aM_bn aM_sh aM_in aM_su aM_gr aM_tr aM_ou aM_ro M_s M_km M_n M_be M_ma M_so M_sh M_in M_su M_ou_j138 M_om_j138 M_ro) → va_S A s.heap H locs → lv_has ls 5 [(0, .ref aM), (1, .int x1), (2, .int x2_j138), (3, .int x3_j138)] → W p l e rm_X12_putAuthorYear s m args below meth c H locs 0 0 Q (F0 m 138 ls []) := by
    intro x2_j138 x3_j138 M_ou_j138 M_om_j138 hm H locs ls hP hD hS hl
    refine lv_aload_n hx hb dX12_putAuthorYear_138 rfl (lv_at hl 0 rfl) ?_
    refine lv_iload_n hx hb dX12_putAuthorYear_139 rfl (lv_at hl 3 rfl) ?_
    replace hm := bd_some hm
    obtain ⟨e5, hc5, hm⟩ := hm
    refine kV_v (rest := []) (ws' := (w_X12_putAuthorYear cI cZ aM aM_s aM_ke aM_te aM_re aM_bo aM_bn aM_sh aM_in aM_su aM_gr aM_tr aM_ou aM_ro M_s M_km M_n M_be M_ma M_so M_sh M_in M_su e5.1 e5.2 M_ro)) S (c_X12_putYear l D cI cJ cZ cS aM aM_s aM_ke aM_te aM_re aM_bo aM_bn aM_sh aM_in aM_su aM_gr aM_tr aM_ou aM_ro M_s M_km M_n M_be M_ma M_so M_ou_j138 M_om_j138 x3_j138 e5 hc5) k3 hK hP hD hS hA 0 rfl rfl rfl rfl hl.1 rfl (Nat.le_of_ble_eq_true rfl) ⟨Nat.zero_le _, Nat.zero_le _⟩ dX12_putAuthorYear_140 [0, 1, 5] rfl rfl wa_X12_putYear (sa_eq [(aM_sh, .inl (cI, 8, .inl M_sh)), (aM_in, .inl (cZ, 8, .inl M_in)), (aM_su, .inl (cI, 8, .inl M_su)), (aM_ro, .inl (cI, 5, .inl M_ro))] [2, 3, 4, 6] 7 rfl rfl rfl rfl rfl rfl rfl) (fun H locs hP hD hS => ?_)
    exact J143 x2_j138 x3_j138 e5.1 e5.2 hm H locs ls hP hD hS (lv_sub hl [0, 1, 2, 3] rfl)
  have J91 : ∀ (x2_j91 : Int32) (x3_j91 : Int32) (x4_j91 : Int32) (M_ou_j91 : Nat → Int32) (M_om_j91 : Int32), (m_X12_putAuthorYear_J91 x1 x2_j91 x3_j91 x4_j91 M_s M_su M_ou_j91 M_om_j91 M_ro = some x) → ∀ (H : Heap) (locs : List Loc) (ls : Array Slot), va_P D vwCl (w_X12_putAuthorYear cI cZ aM aM_s aM_ke aM_te aM_re aM_bo aM_bn aM_sh aM_in aM_su aM_gr aM_tr aM_ou aM_ro M_s M_km M_n M_be M_ma M_so M_sh M_in M_su M_ou_j91 M_om_j91 M_ro) H → va_D A (w_X12_putAuthorYear cI cZ aM aM_s aM_ke aM_te aM_re aM_bo aM_bn aM_sh aM_in aM_su aM_gr aM_tr aM_ou aM_ro M_s M_km M_n M_be M_ma M_so M_sh M_in M_su M_ou_j91 M_om_j91 M_ro) → va_S A s.heap H locs → lv_has ls 5 [(0, .ref aM), (1, .int x1), (2, .int x2_j91), (3, .int x3_j91), (4, .int x4_j91)] → W p l e rm_X12_putAuthorYear s m args below meth c H locs 0 0 Q (F0 m 91 ls []) := by
    intro x2_j91 x3_j91 x4_j91 M_ou_j91 M_om_j91 hm H locs ls hP hD hS hl
    refine lv_iload hx hb dX12_putAuthorYear_91 (lv_at hl 4 rfl) ?_
    refine lv_if_eq (tgt := 138) hx hb dX12_putAuthorYear_93 (by decide) (fun c6 => ?_) (fun c6 => ?_)
    · replace hm := if_t c6 hm
      exact J138 x2_j91 x3_j91 M_ou_j91 M_om_j91 hm H locs ls hP hD hS (lv_sub hl [0, 1, 2, 3] rfl)
    · replace hm := if_f c6 hm
      refine lv_aload_n hx hb dX12_putAuthorYear_96 rfl (lv_at hl 0 rfl) ?_
      refine va_get (D := D) (ci := 12) (v := .ref aM_s) (C := RX12) (T := TX12) (N := 19) hx hb hts k5 hown hKv hP 0 rfl rfl 0 (by decide) k4 (fun _ h9 => h9) rfl dX12_putAuthorYear_97 ?_
      refine lv_bipush (v := 61) hx hb dX12_putAuthorYear_100 (by decide) ?_
      replace hm := ck_some hm
      obtain ⟨h7, hm⟩ := hm
      refine va_iald hx hb hKv hP 1 0 rfl rfl h7 dX12_putAuthorYear_102 ?_
      refine lv_iconst (v := 2) hx hb dX12_putAuthorYear_103 (by decide) ?_
      refine lv_icmp_lt (tgt := 138) hx hb dX12_putAuthorYear_104 (by decide) (fun c8 => ?_) (fun c8 => ?_)
      · replace hm := if_t c8 hm
        exact J138 x2_j91 x3_j91 M_ou_j91 M_om_j91 hm H locs ls hP hD hS (lv_sub hl [0, 1, 2, 3] rfl)
      · replace hm := if_f c8 hm
        refine lv_aload_n hx hb dX12_putAuthorYear_107 rfl (lv_at hl 0 rfl) ?_
        refine va_get (D := D) (ci := 12) (v := .ref aM_su) (C := RX12) (T := TX12) (N := 19) hx hb hts k5 hown hKv hP 0 rfl rfl 13 (by decide) k6 (fun _ h9 => h9) rfl dX12_putAuthorYear_108 ?_
        refine lv_iload_n hx hb dX12_putAuthorYear_111 rfl (lv_at hl 3 rfl) ?_
        replace hm := ck_some hm
        obtain ⟨h9, hm⟩ := hm
        refine va_iald hx hb hKv hP 4 0 rfl rfl h9 dX12_putAuthorYear_112 ?_
        refine lv_bipush (v := (-9)) hx hb dX12_putAuthorYear_113 (by decide) ?_
        refine lv_icmp_eq (tgt := 138) hx hb dX12_putAuthorYear_115 (by decide) (fun c10 => ?_) (fun c10 => ?_)
        · replace hm := if_t c10 hm
          exact J138 x2_j91 x3_j91 M_ou_j91 M_om_j91 hm H locs ls hP hD hS (lv_sub hl [0, 1, 2, 3] rfl)
        · replace hm := if_f c10 hm
          refine lv_aload_n hx hb dX12_putAuthorYear_118 rfl (lv_at hl 0 rfl) ?_
          refine lv_iload_n hx hb dX12_putAuthorYear_119 rfl (lv_at hl 3 rfl) ?_
          replace hm := bd_some hm
          obtain ⟨e11, hc11, hm⟩ := hm
          refine kV_i (rest := []) (ws' := (w_X12_putAuthorYear cI cZ aM aM_s aM_ke aM_te aM_re aM_bo aM_bn aM_sh aM_in aM_su aM_gr aM_tr aM_ou aM_ro M_s M_km M_n M_be M_ma M_so M_sh M_in M_su M_ou_j91 M_om_j91 M_ro)) S (c_X12_year l D cI cJ cZ cS aM aM_s aM_ke aM_te aM_re aM_bo aM_bn aM_sh aM_in aM_su aM_gr aM_tr aM_ou aM_ro M_s M_km M_n M_be M_ma M_so M_om_j91 x3_j91 e11 hc11) k7 hK hP hD hS hA 0 rfl rfl rfl rfl hl.1 rfl (Nat.le_of_ble_eq_true rfl) ⟨Nat.zero_le _, Nat.zero_le _⟩ dX12_putAuthorYear_120 [0, 1] rfl rfl wa_X12_year (sa_eq [(aM_sh, .inl (cI, 8, .inl M_sh)), (aM_in, .inl (cZ, 8, .inl M_in)), (aM_su, .inl (cI, 8, .inl M_su)), (aM_ou, .inl (cI, 300, .inl M_ou_j91)), (aM_ro, .inl (cI, 5, .inl M_ro))] [2, 3, 4, 5, 6] 7 rfl rfl rfl rfl rfl rfl rfl) (fun H locs hP hD hS => ?_)
          refine lv_aload_n hx hb dX12_putAuthorYear_123 rfl (lv_at hl 0 rfl) ?_
          refine lv_aload_n hx hb dX12_putAuthorYear_124 rfl (lv_at hl 0 rfl) ?_
          refine va_get (D := D) (ci := 12) (v := .ref aM_ro) (C := RX12) (T := TX12) (N := 19) hx hb hts k5 hown hKv hP 0 rfl rfl 18 (by decide) k8 (fun _ h9 => h9) rfl dX12_putAuthorYear_125 ?_
          refine lv_iload_n hx hb dX12_putAuthorYear_128 rfl (lv_at hl 2 rfl) ?_
          refine lv_iconst (v := 1) hx hb dX12_putAuthorYear_129 (by decide) ?_
          refine lv_isub hx hb dX12_putAuthorYear_130 ?_
          replace hm := ck_some hm
          obtain ⟨h12, hm⟩ := hm
          refine va_iald hx hb hKv hP 6 0 rfl rfl h12 dX12_putAuthorYear_131 ?_
          replace hm := bd_some hm
          obtain ⟨e13, hc13, hm⟩ := hm
          refine kV_i (rest := [.int e11]) (ws' := (w_X12_putAuthorYear cI cZ aM aM_s aM_ke aM_te aM_re aM_bo aM_bn aM_sh aM_in aM_su aM_gr aM_tr aM_ou aM_ro M_s M_km M_n M_be M_ma M_so M_sh M_in M_su M_ou_j91 M_om_j91 M_ro)) S (c_X12_year l D cI cJ cZ cS aM aM_s aM_ke aM_te aM_re aM_bo aM_bn aM_sh aM_in aM_su aM_gr aM_tr aM_ou aM_ro M_s M_km M_n M_be M_ma M_so M_om_j91 (M_ro (Int32.toNatClampNeg (x2_j91 - 1))) e13 hc13) k7 hK hP hD hS hA 0 rfl rfl rfl rfl hl.1 rfl (Nat.le_of_ble_eq_true rfl) ⟨Nat.zero_le _, Nat.zero_le _⟩ dX12_putAuthorYear_132 [0, 1] rfl rfl wa_X12_year (sa_eq [(aM_sh, .inl (cI, 8, .inl M_sh)), (aM_in, .inl (cZ, 8, .inl M_in)), (aM_su, .inl (cI, 8, .inl M_su)), (aM_ou, .inl (cI, 300, .inl M_ou_j91)), (aM_ro, .inl (cI, 5, .inl M_ro))] [2, 3, 4, 5, 6] 7 rfl rfl rfl rfl rfl rfl rfl) (fun H locs hP hD hS => ?_)
          refine lv_icmp_eq (tgt := 143) hx hb dX12_putAuthorYear_135 (by decide) (fun c14 => ?_) (fun c14 => ?_)
          · replace hm := if_t c14 hm
            exact J143 x2_j91 x3_j91 M_ou_j91 M_om_j91 hm H locs ls hP hD hS (lv_sub hl [0, 1, 2, 3] rfl)
          · replace hm := if_f c14 hm
            exact J138 x2_j91 x3_j91 M_ou_j91 M_om_j91 hm H locs ls hP hD hS (lv_sub hl [0, 1, 2, 3] rfl)
  have J81 : ∀ (x2_j81 : Int32) (x3_j81 : Int32) (x4_j81 : Int32) (M_ou_j81 : Nat → Int32) (M_om_j81 : Int32), (m_X12_putAuthorYear_J81 x1 x2_j81 x3_j81 x4_j81 M_s M_sh M_in M_su M_ou_j81 M_om_j81 M_ro = some x) → ∀ (H : Heap) (locs : List Loc) (ls : Array Slot), va_P D vwCl (w_X12_putAuthorYear cI cZ aM aM_s aM_ke aM_te aM_re aM_bo aM_bn aM_sh aM_in aM_su aM_gr aM_tr aM_ou aM_ro M_s M_km M_n M_be M_ma M_so M_sh M_in M_su M_ou_j81 M_om_j81 M_ro) H → va_D A (w_X12_putAuthorYear cI cZ aM aM_s aM_ke aM_te aM_re aM_bo aM_bn aM_sh aM_in aM_su aM_gr aM_tr aM_ou aM_ro M_s M_km M_n M_be M_ma M_so M_sh M_in M_su M_ou_j81 M_om_j81 M_ro) → va_S A s.heap H locs → lv_has ls 5 [(0, .ref aM), (1, .int x1), (2, .int x2_j81), (3, .int x3_j81), (4, .int x4_j81)] → W p l e rm_X12_putAuthorYear s m args below meth c H locs 0 0 Q (F0 m 81 ls []) := by
    intro x2_j81 x3_j81 x4_j81 M_ou_j81 M_om_j81 hm H locs ls hP hD hS hl
    refine lv_iload hx hb dX12_putAuthorYear_81 (lv_at hl 4 rfl) ?_
    refine lv_if_ne (tgt := 91) hx hb dX12_putAuthorYear_83 (by decide) (fun c15 => ?_) (fun c15 => ?_)
    · replace hm := if_f c15 hm
      exact J91 x2_j81 x3_j81 x4_j81 M_ou_j81 M_om_j81 hm H locs ls hP hD hS (lv_sub hl [0, 1, 2, 3, 4] rfl)
    · replace hm := if_t c15 hm
      refine lv_aload_n hx hb dX12_putAuthorYear_86 rfl (lv_at hl 0 rfl) ?_
      refine lv_iload_n hx hb dX12_putAuthorYear_87 rfl (lv_at hl 3 rfl) ?_
      replace hm := bd_some hm
      obtain ⟨e16, hc16, hm⟩ := hm
      refine kV_v (rest := []) (ws' := (w_X12_putAuthorYear cI cZ aM aM_s aM_ke aM_te aM_re aM_bo aM_bn aM_sh aM_in aM_su aM_gr aM_tr aM_ou aM_ro M_s M_km M_n M_be M_ma M_so M_sh M_in M_su e16.1 e16.2 M_ro)) S (c_X12_putNames l D cI cJ cZ cS aM aM_s aM_ke aM_te aM_re aM_bo aM_bn aM_sh aM_in aM_su aM_gr aM_tr aM_ou aM_ro M_s M_km M_n M_be M_ma M_so M_sh M_in M_ou_j81 M_om_j81 x3_j81 e16 hc16) k9 hK hP hD hS hA 0 rfl rfl rfl rfl hl.1 rfl (Nat.le_of_ble_eq_true rfl) ⟨Nat.zero_le _, Nat.zero_le _⟩ dX12_putAuthorYear_88 [0, 1, 2, 3, 5] rfl rfl wa_X12_putNames (sa_eq [(aM_su, .inl (cI, 8, .inl M_su)), (aM_ro, .inl (cI, 5, .inl M_ro))] [4, 6] 7 rfl rfl rfl rfl rfl rfl rfl) (fun H locs hP hD hS => ?_)
      exact J91 x2_j81 x3_j81 x4_j81 e16.1 e16.2 hm H locs ls hP hD hS (lv_sub hl [0, 1, 2, 3, 4] rfl)
  have J78 : ∀ (x2_j78 : Int32) (x3_j78 : Int32) (x4_j78 : Int32) (y0_j78 : Int32) (M_ou_j78 : Nat → Int32) (M_om_j78 : Int32), (m_X12_putAuthorYear_J78 x1 x2_j78 x3_j78 x4_j78 y0_j78 M_s M_sh M_in M_su M_ou_j78 M_om_j78 M_ro = some x) → ∀ (H : Heap) (locs : List Loc) (ls : Array Slot), va_P D vwCl (w_X12_putAuthorYear cI cZ aM aM_s aM_ke aM_te aM_re aM_bo aM_bn aM_sh aM_in aM_su aM_gr aM_tr aM_ou aM_ro M_s M_km M_n M_be M_ma M_so M_sh M_in M_su M_ou_j78 M_om_j78 M_ro) H → va_D A (w_X12_putAuthorYear cI cZ aM aM_s aM_ke aM_te aM_re aM_bo aM_bn aM_sh aM_in aM_su aM_gr aM_tr aM_ou aM_ro M_s M_km M_n M_be M_ma M_so M_sh M_in M_su M_ou_j78 M_om_j78 M_ro) → va_S A s.heap H locs → lv_has ls 5 [(0, .ref aM), (1, .int x1), (2, .int x2_j78), (3, .int x3_j78), (4, .int x4_j78)] → W p l e rm_X12_putAuthorYear s m args below meth c H locs 0 0 Q (F0 m 78 ls [.int y0_j78, .ref aM]) := by
    intro x2_j78 x3_j78 x4_j78 y0_j78 M_ou_j78 M_om_j78 hm H locs ls hP hD hS hl
    replace hm := bd_some hm
    obtain ⟨e17, hc17, hm⟩ := hm
    refine kV_v (rest := []) (ws' := (w_X12_putAuthorYear cI cZ aM aM_s aM_ke aM_te aM_re aM_bo aM_bn aM_sh aM_in aM_su aM_gr aM_tr aM_ou aM_ro M_s M_km M_n M_be M_ma M_so M_sh M_in M_su e17.1 e17.2 M_ro)) S (c_X12_put l D cI cJ cZ cS aM aM_s aM_ke aM_te aM_re aM_bo aM_bn aM_sh aM_in aM_su aM_gr aM_tr aM_ou aM_ro M_km M_n M_be M_ma M_so M_ou_j78 M_om_j78 y0_j78 e17 hc17) k1 hK hP hD hS hA 0 rfl rfl rfl rfl hl.1 rfl (Nat.le_of_ble_eq_true rfl) ⟨Nat.zero_le _, Nat.zero_le _⟩ dX12_putAuthorYear_78 [0, 5] rfl rfl wa_X12_put (sa_eq [(aM_s, .inl (cI, 131, .inl M_s)), (aM_sh, .inl (cI, 8, .inl M_sh)), (aM_in, .inl (cZ, 8, .inl M_in)), (aM_su, .inl (cI, 8, .inl M_su)), (aM_ro, .inl (cI, 5, .inl M_ro))] [1, 2, 3, 4, 6] 7 rfl rfl rfl rfl rfl rfl rfl) (fun H locs hP hD hS => ?_)
    exact J81 x2_j78 x3_j78 x4_j78 e17.1 e17.2 hm H locs ls hP hD hS (lv_sub hl [0, 1, 2, 3, 4] rfl)
  have J59 : ∀ (x2_j59 : Int32) (x3_j59 : Int32) (y0_j59 : Int32) (M_ou_j59 : Nat → Int32) (M_om_j59 : Int32), (m_X12_putAuthorYear_J59 x1 x2_j59 x3_j59 y0_j59 M_s M_sh M_in M_su M_ou_j59 M_om_j59 M_ro = some x) → ∀ (H : Heap) (locs : List Loc) (ls : Array Slot), va_P D vwCl (w_X12_putAuthorYear cI cZ aM aM_s aM_ke aM_te aM_re aM_bo aM_bn aM_sh aM_in aM_su aM_gr aM_tr aM_ou aM_ro M_s M_km M_n M_be M_ma M_so M_sh M_in M_su M_ou_j59 M_om_j59 M_ro) H → va_D A (w_X12_putAuthorYear cI cZ aM aM_s aM_ke aM_te aM_re aM_bo aM_bn aM_sh aM_in aM_su aM_gr aM_tr aM_ou aM_ro M_s M_km M_n M_be M_ma M_so M_sh M_in M_su M_ou_j59 M_om_j59 M_ro) → va_S A s.heap H locs → lv_has ls 5 [(0, .ref aM), (1, .int x1), (2, .int x2_j59), (3, .int x3_j59)] → W p l e rm_X12_putAuthorYear s m args below meth c H locs 0 0 Q (F0 m 59 ls [.int y0_j59]) := by
    intro x2_j59 x3_j59 y0_j59 M_ou_j59 M_om_j59 hm H locs ls hP hD hS hl
    refine lv_istore (lv' := [(4, .int y0_j59), (0, .ref aM), (1, .int x1), (2, .int x2_j59), (3, .int x3_j59)]) hx hb dX12_putAuthorYear_59 hl (by decide) rfl (fun ls hl => ?_)
    refine lv_iload_n hx hb dX12_putAuthorYear_61 rfl (lv_at hl 3 rfl) ?_
    refine lv_if_le (tgt := 81) hx hb dX12_putAuthorYear_62 (by decide) (fun c18 => ?_) (fun c18 => ?_)
    · replace hm := if_t c18 hm
      exact J81 x2_j59 x3_j59 y0_j59 M_ou_j59 M_om_j59 hm H locs ls hP hD hS (lv_sub hl [1, 2, 3, 4, 0] rfl)
    · replace hm := if_f c18 hm
      refine lv_aload_n hx hb dX12_putAuthorYear_65 rfl (lv_at hl 1 rfl) ?_
      refine lv_iload hx hb dX12_putAuthorYear_66 (lv_at hl 0 rfl) ?_
      refine lv_if_eq (tgt := 76) hx hb dX12_putAuthorYear_68 (by decide) (fun c19 => ?_) (fun c19 => ?_)
      · replace hm := if_t c19 hm
        refine lv_bipush (v := 59) hx hb dX12_putAuthorYear_76 (by decide) ?_
        exact J78 x2_j59 x3_j59 y0_j59 59 M_ou_j59 M_om_j59 hm H locs ls hP hD hS (lv_sub hl [1, 2, 3, 4, 0] rfl)
      · replace hm := if_f c19 hm
        refine lv_bipush (v := 44) hx hb dX12_putAuthorYear_71 (by decide) ?_
        refine lv_goto (tgt := 78) hx hb dX12_putAuthorYear_73 (by decide) ?_
        exact J78 x2_j59 x3_j59 y0_j59 44 M_ou_j59 M_om_j59 hm H locs ls hP hD hS (lv_sub hl [1, 2, 3, 4, 0] rfl)
  have J58 : ∀ (x2_j58 : Int32) (x3_j58 : Int32) (M_ou_j58 : Nat → Int32) (M_om_j58 : Int32), (m_X12_putAuthorYear_J58 x1 x2_j58 x3_j58 M_s M_sh M_in M_su M_ou_j58 M_om_j58 M_ro = some x) → ∀ (H : Heap) (locs : List Loc) (ls : Array Slot), va_P D vwCl (w_X12_putAuthorYear cI cZ aM aM_s aM_ke aM_te aM_re aM_bo aM_bn aM_sh aM_in aM_su aM_gr aM_tr aM_ou aM_ro M_s M_km M_n M_be M_ma M_so M_sh M_in M_su M_ou_j58 M_om_j58 M_ro) H → va_D A (w_X12_putAuthorYear cI cZ aM aM_s aM_ke aM_te aM_re aM_bo aM_bn aM_sh aM_in aM_su aM_gr aM_tr aM_ou aM_ro M_s M_km M_n M_be M_ma M_so M_sh M_in M_su M_ou_j58 M_om_j58 M_ro) → va_S A s.heap H locs → lv_has ls 5 [(0, .ref aM), (1, .int x1), (2, .int x2_j58), (3, .int x3_j58)] → W p l e rm_X12_putAuthorYear s m args below meth c H locs 0 0 Q (F0 m 58 ls []) := by
    intro x2_j58 x3_j58 M_ou_j58 M_om_j58 hm H locs ls hP hD hS hl
    refine lv_iconst (v := 0) hx hb dX12_putAuthorYear_58 (by decide) ?_
    exact J59 x2_j58 x3_j58 0 M_ou_j58 M_om_j58 hm H locs ls hP hD hS (lv_sub hl [0, 1, 2, 3] rfl)
  refine lv_iload_n hx hb dX12_putAuthorYear_8 rfl (lv_at hl 2 rfl) ?_
  refine lv_aload_n hx hb dX12_putAuthorYear_9 rfl (lv_at hl 0 rfl) ?_
  refine lv_iload_n hx hb dX12_putAuthorYear_10 rfl (lv_at hl 1 rfl) ?_
  replace hm := bd_some hm
  obtain ⟨e20, hc20, hm⟩ := hm
  refine kV_i (rest := [.int st8.1]) (ws' := (w_X12_putAuthorYear cI cZ aM aM_s aM_ke aM_te aM_re aM_bo aM_bn aM_sh aM_in aM_su aM_gr aM_tr aM_ou aM_ro M_s M_km M_n M_be M_ma M_so M_sh M_in M_su st8.2.1 st8.2.2 M_ro)) S (c_X12_cites l D cI cJ cZ cS aM aM_s aM_ke aM_te aM_re aM_bo aM_bn aM_sh aM_in aM_su aM_gr aM_tr aM_ou aM_ro M_s M_km M_n M_be M_ma M_so st8.2.2 x1 e20 hc20) k10 hK hP hD hS hA 0 rfl rfl rfl rfl hl.1 rfl (Nat.le_of_ble_eq_true rfl) ⟨Nat.zero_le _, Nat.zero_le _⟩ dX12_putAuthorYear_11 [0, 1] rfl rfl wa_X12_cites (sa_eq [(aM_sh, .inl (cI, 8, .inl M_sh)), (aM_in, .inl (cZ, 8, .inl M_in)), (aM_su, .inl (cI, 8, .inl M_su)), (aM_ou, .inl (cI, 300, .inl st8.2.1)), (aM_ro, .inl (cI, 5, .inl M_ro))] [2, 3, 4, 5, 6] 7 rfl rfl rfl rfl rfl rfl rfl) (fun H locs hP hD hS => ?_)
  refine lv_icmp_ge (tgt := 154) hx hb dX12_putAuthorYear_14 (by decide) (fun c21 => ?_) (fun c21 => ?_)
  · replace hm := if_t c21 hm
    have h9 := hE _ (Option.some.inj hm).symm
    subst h9
    exact X2_0 H locs ls hP hD hS (lv_sub hl [0] rfl)
  · replace hm := if_f c21 hm
    refine lv_aload_n hx hb dX12_putAuthorYear_17 rfl (lv_at hl 0 rfl) ?_
    refine va_get (D := D) (ci := 12) (v := .ref aM_ro) (C := RX12) (T := TX12) (N := 19) hx hb hts k5 hown hKv hP 0 rfl rfl 18 (by decide) k8 (fun _ h9 => h9) rfl dX12_putAuthorYear_18 ?_
    refine lv_iload_n hx hb dX12_putAuthorYear_21 rfl (lv_at hl 2 rfl) ?_
    replace hm := ck_some hm
    obtain ⟨h22, hm⟩ := hm
    refine va_iald hx hb hKv hP 6 0 rfl rfl h22 dX12_putAuthorYear_22 ?_
    refine lv_istore_n (lv' := [(3, .int (M_ro (Int32.toNatClampNeg st8.1))), (0, .ref aM), (1, .int x1), (2, .int st8.1)]) hx hb dX12_putAuthorYear_23 rfl hl (by decide) rfl (fun ls hl => ?_)
    refine lv_iload_n hx hb dX12_putAuthorYear_24 rfl (lv_at hl 3 rfl) ?_
    refine lv_if_le (tgt := 58) hx hb dX12_putAuthorYear_25 (by decide) (fun c23 => ?_) (fun c23 => ?_)
    · replace hm := if_t c23 hm
      exact J58 st8.1 (M_ro (Int32.toNatClampNeg st8.1)) st8.2.1 st8.2.2 hm H locs ls hP hD hS (lv_sub hl [1, 2, 3, 0] rfl)
    · replace hm := if_f c23 hm
      refine lv_aload_n hx hb dX12_putAuthorYear_28 rfl (lv_at hl 1 rfl) ?_
      refine va_get (D := D) (ci := 12) (v := .ref aM_s) (C := RX12) (T := TX12) (N := 19) hx hb hts k5 hown hKv hP 0 rfl rfl 0 (by decide) k4 (fun _ h9 => h9) rfl dX12_putAuthorYear_29 ?_
      refine lv_bipush (v := 61) hx hb dX12_putAuthorYear_32 (by decide) ?_
      replace hm := ck_some hm
      obtain ⟨h24, hm⟩ := hm
      refine va_iald hx hb hKv hP 1 0 rfl rfl h24 dX12_putAuthorYear_34 ?_
      refine lv_if_le (tgt := 58) hx hb dX12_putAuthorYear_35 (by decide) (fun c25 => ?_) (fun c25 => ?_)
      · replace hm := if_t c25 hm
        exact J58 st8.1 (M_ro (Int32.toNatClampNeg st8.1)) st8.2.1 st8.2.2 hm H locs ls hP hD hS (lv_sub hl [1, 2, 3, 0] rfl)
      · replace hm := if_f c25 hm
        refine lv_aload_n hx hb dX12_putAuthorYear_38 rfl (lv_at hl 1 rfl) ?_
        refine lv_aload_n hx hb dX12_putAuthorYear_39 rfl (lv_at hl 1 rfl) ?_
        refine va_get (D := D) (ci := 12) (v := .ref aM_ro) (C := RX12) (T := TX12) (N := 19) hx hb hts k5 hown hKv hP 0 rfl rfl 18 (by decide) k8 (fun _ h9 => h9) rfl dX12_putAuthorYear_40 ?_
        refine lv_iload_n hx hb dX12_putAuthorYear_43 rfl (lv_at hl 3 rfl) ?_
        refine lv_iconst (v := 1) hx hb dX12_putAuthorYear_44 (by decide) ?_
        refine lv_isub hx hb dX12_putAuthorYear_45 ?_
        replace hm := ck_some hm
        obtain ⟨h26, hm⟩ := hm
        refine va_iald hx hb hKv hP 6 0 rfl rfl h26 dX12_putAuthorYear_46 ?_
        refine lv_iload_n hx hb dX12_putAuthorYear_47 rfl (lv_at hl 0 rfl) ?_
        replace hm := bd_some hm
        obtain ⟨e27, hc27, hm⟩ := hm
        refine kV_i (rest := []) (ws' := (w_X12_putAuthorYear cI cZ aM aM_s aM_ke aM_te aM_re aM_bo aM_bn aM_sh aM_in aM_su aM_gr aM_tr aM_ou aM_ro M_s M_km M_n M_be M_ma M_so M_sh M_in M_su st8.2.1 st8.2.2 M_ro)) S (c_X12_haveOneNames l D cI cJ cZ cS aM aM_s aM_ke aM_te aM_re aM_bo aM_bn aM_sh aM_in aM_su aM_gr aM_tr aM_ou aM_ro M_s M_km M_n M_be M_ma M_so M_sh M_in st8.2.2 (M_ro (Int32.toNatClampNeg (st8.1 - 1))) (M_ro (Int32.toNatClampNeg st8.1)) e27 hc27) k11 hK hP hD hS hA 0 rfl rfl rfl rfl hl.1 rfl (Nat.le_of_ble_eq_true rfl) ⟨Nat.zero_le _, Nat.zero_le _⟩ dX12_putAuthorYear_48 [0, 1, 2, 3] rfl rfl wa_X12_haveOneNames (sa_eq [(aM_su, .inl (cI, 8, .inl M_su)), (aM_ou, .inl (cI, 300, .inl st8.2.1)), (aM_ro, .inl (cI, 5, .inl M_ro))] [4, 5, 6] 7 rfl rfl rfl rfl rfl rfl rfl) (fun H locs hP hD hS => ?_)
        refine lv_if_eq (tgt := 58) hx hb dX12_putAuthorYear_51 (by decide) (fun c28 => ?_) (fun c28 => ?_)
        · replace hm := if_t c28 hm
          exact J58 st8.1 (M_ro (Int32.toNatClampNeg st8.1)) st8.2.1 st8.2.2 hm H locs ls hP hD hS (lv_sub hl [1, 2, 3, 0] rfl)
        · replace hm := if_f c28 hm
          refine lv_iconst (v := 1) hx hb dX12_putAuthorYear_54 (by decide) ?_
          refine lv_goto (tgt := 59) hx hb dX12_putAuthorYear_55 (by decide) ?_
          exact J59 st8.1 (M_ro (Int32.toNatClampNeg st8.1)) 1 st8.2.1 st8.2.2 hm H locs ls hP hD hS (lv_sub hl [1, 2, 3, 0] rfl)
set_option maxHeartbeats 4000000 in
set_option maxRecDepth 100000 in
theorem c_X12_putNote (l : Launch) (D : va_G) (cI cJ cZ cS : ClassId) (aM aM_s aM_ke aM_te aM_re aM_bo aM_bn aM_sh aM_in aM_su aM_gr aM_tr aM_ou aM_ro : Nat) (M_s : Nat → Int32) (M_km : Int32) (M_n : Int32) (M_be : Int32) (M_ma : Int32) (M_so : Int32) (M_sh : Nat → Int32) (M_in : Nat → Int32) (M_ou : Nat → Int32) (M_om : Int32) (M_ro : Nat → Int32) (x1 : Int32) (o : (Nat → Int32) × Int32) (hm : m_X12_putNote M_s M_sh M_in M_ou M_om M_ro x1 = some o) : MV l yX12_putNote wsX12_putNote rm_X12_putNote D (TY cI cJ cZ cS) [.ref aM, .int x1] (w_X12_putNote cI cZ aM aM_s aM_ke aM_te aM_re aM_bo aM_bn aM_sh aM_in aM_su aM_gr aM_tr aM_ou aM_ro M_s M_km M_n M_be M_ma M_so M_sh M_in M_ou M_om M_ro) (w_X12_putNote cI cZ aM aM_s aM_ke aM_te aM_re aM_bo aM_bn aM_sh aM_in aM_su aM_gr aM_tr aM_ou aM_ro M_s M_km M_n M_be M_ma M_so M_sh M_in o.1 o.2 M_ro) := by
  refine MV_of (cc := cX12_putNote) (maxL := 5) (by decide) rfl (Nat.le_of_ble_eq_true rfl) ?_
  intro p e s m args below meth c A Q ls H locs hx hb hml hts hown hK hA hP hD hS hl hret
  have hown : s.vm.findClass RX12 = some m.cls := hown
  have hKv : va_K D vwCl (TY cI cJ cZ cS) s := hK.1
  have hl : lv_has ls 5 [(0, .ref aM), (1, .int x1)] := hl
  have S : CallFix p m c cX12_putNote 5 s args wsX12_putNote RX12 := ⟨hx, hb, hml, hown, hts⟩
  have k1 : CallW rm_X12_putNote s args RX12 RX12 209 yX12_put cX12_put 2 none wsX12_put rm_X12_put 0 0 1 := cwV 1 hts gX12_putNote_X12_put rfl rfl rfl (by decide +kernel) ⟨Nat.le_of_ble_eq_true rfl, Nat.le_of_ble_eq_true rfl⟩
  have k2 : CallW rm_X12_putNote s args RX12 RX12 146 yX12_authors cX12_authors 2 (some .int) wsX12_authors rm_X12_authors 0 0 1 := cwV 1 hts gX12_putNote_X12_authors rfl rfl rfl (by decide +kernel) ⟨Nat.le_of_ble_eq_true rfl, Nat.le_of_ble_eq_true rfl⟩
  have k3 : CallW rm_X12_putNote s args RX12 RX12 212 yX12_putAuthors cX12_putAuthors 5 none wsX12_putAuthors rm_X12_putAuthors 0 0 3 := cwV 3 hts gX12_putNote_X12_putAuthors rfl rfl rfl (by decide +kernel) ⟨Nat.le_of_ble_eq_true rfl, Nat.le_of_ble_eq_true rfl⟩
  have k4 : CallW rm_X12_putNote s args RX12 RX12 158 yX12_title cX12_title 2 (some .int) wsX12_title rm_X12_title 0 0 1 := cwV 1 hts gX12_putNote_X12_title rfl rfl rfl (by decide +kernel) ⟨Nat.le_of_ble_eq_true rfl, Nat.le_of_ble_eq_true rfl⟩
  have k5 : CallW rm_X12_putNote s args RX12 RX12 222 yX12_putYear cX12_putYear 2 none wsX12_putYear rm_X12_putYear 0 0 1 := cwV 1 hts gX12_putNote_X12_putYear rfl rfl rfl (by decide +kernel) ⟨Nat.le_of_ble_eq_true rfl, Nat.le_of_ble_eq_true rfl⟩
  have k6 : CallW rm_X12_putNote s args RX12 RX12 219 yX12_putNames cX12_putNames 2 none wsX12_putNames rm_X12_putNames 0 0 1 := cwV 1 hts gX12_putNote_X12_putNames rfl rfl rfl (by decide +kernel) ⟨Nat.le_of_ble_eq_true rfl, Nat.le_of_ble_eq_true rfl⟩
  have k7 : CallW rm_X12_putNote s args RX12 RX12 119 yX12_cites cX12_cites 2 (some .int) wsX12_cites rm_X12_cites 0 0 1 := cwV 1 hts gX12_putNote_X12_cites rfl rfl rfl (by decide +kernel) ⟨Nat.le_of_ble_eq_true rfl, Nat.le_of_ble_eq_true rfl⟩
  have k8 : CallW rm_X12_putNote s args RX12 RX12 122 yX12_cited cX12_cited 3 (some .int) wsX12_cited rm_X12_cited 0 0 2 := cwV 2 hts gX12_putNote_X12_cited rfl rfl rfl (by decide +kernel) ⟨Nat.le_of_ble_eq_true rfl, Nat.le_of_ble_eq_true rfl⟩
  have k9 := hts (.fieldLink RX12 47 "CitationFormatterModel" "row" "[I") (by decide +kernel)
  have k10 : ∀ w ∈ wsX120, w ∈ wsX12_putNote := by decide +kernel
  have k11 : CallW rm_X12_putNote s args RX12 RX12 231 yX12_earliest cX12_earliest 4 (some .int) wsX12_earliest rm_X12_earliest 0 0 2 := cwV 2 hts gX12_putNote_X12_earliest rfl rfl rfl (by decide +kernel) ⟨Nat.le_of_ble_eq_true rfl, Nat.le_of_ble_eq_true rfl⟩
  refine lv_iconst (v := 0) hx hb dX12_putNote_0 (by decide) ?_
  refine lv_istore_n (lv' := [(2, .int 0), (0, .ref aM), (1, .int x1)]) hx hb dX12_putNote_1 rfl hl (by decide) rfl (fun ls hl => ?_)
  replace hm := bd_some hm
  obtain ⟨e1, hc1, hm⟩ := hm
  have X1_0 : ∀ (H : Heap) (locs : List Loc) (ls : Array Slot), va_P D vwCl (w_X12_putNote cI cZ aM aM_s aM_ke aM_te aM_re aM_bo aM_bn aM_sh aM_in aM_su aM_gr aM_tr aM_ou aM_ro M_s M_km M_n M_be M_ma M_so M_sh M_in e1.1 e1.2 M_ro) H → va_D A (w_X12_putNote cI cZ aM aM_s aM_ke aM_te aM_re aM_bo aM_bn aM_sh aM_in aM_su aM_gr aM_tr aM_ou aM_ro M_s M_km M_n M_be M_ma M_so M_sh M_in e1.1 e1.2 M_ro) → va_S A s.heap H locs → lv_has ls 5 [(0, .ref aM)] → W p l e rm_X12_putNote s m args below meth c H locs 0 0 Q (F0 m 143 ls []) := by
    intro H locs ls hP hD hS hl
    refine lv_aload_n hx hb dX12_putNote_143 rfl (lv_at hl 0 rfl) ?_
    refine lv_bipush (v := 46) hx hb dX12_putNote_144 (by decide) ?_
    replace hm := bd_some hm
    obtain ⟨e2, hc2, hm⟩ := hm
    refine kV_v (rest := []) (ws' := (w_X12_putNote cI cZ aM aM_s aM_ke aM_te aM_re aM_bo aM_bn aM_sh aM_in aM_su aM_gr aM_tr aM_ou aM_ro M_s M_km M_n M_be M_ma M_so M_sh M_in e2.1 e2.2 M_ro)) S (c_X12_put l D cI cJ cZ cS aM aM_s aM_ke aM_te aM_re aM_bo aM_bn aM_sh aM_in aM_su aM_gr aM_tr aM_ou aM_ro M_km M_n M_be M_ma M_so e1.1 e1.2 46 e2 hc2) k1 hK hP hD hS hA 0 rfl rfl rfl rfl hl.1 rfl (Nat.le_of_ble_eq_true rfl) ⟨Nat.zero_le _, Nat.zero_le _⟩ dX12_putNote_146 [0, 4] rfl rfl wa_X12_put (sa_eq [(aM_s, .inl (cI, 131, .inl M_s)), (aM_sh, .inl (cI, 8, .inl M_sh)), (aM_in, .inl (cZ, 8, .inl M_in)), (aM_ro, .inl (cI, 5, .inl M_ro))] [1, 2, 3, 5] 6 rfl rfl rfl rfl rfl rfl rfl) (fun H locs hP hD hS => ?_)
    have h9 := Option.some.inj hm
    subst h9
    exact hret H locs _ ls hP hD hS dX12_putNote_149
  refine it_W (G := fun (st2 : Int32 × (Nat → Int32) × Int32) => ∀ (H : Heap) (locs : List Loc) (ls : Array Slot), va_P D vwCl (w_X12_putNote cI cZ aM aM_s aM_ke aM_te aM_re aM_bo aM_bn aM_sh aM_in aM_su aM_gr aM_tr aM_ou aM_ro M_s M_km M_n M_be M_ma M_so M_sh M_in st2.2.1 st2.2.2 M_ro) H → va_D A (w_X12_putNote cI cZ aM aM_s aM_ke aM_te aM_re aM_bo aM_bn aM_sh aM_in aM_su aM_gr aM_tr aM_ou aM_ro M_s M_km M_n M_be M_ma M_so M_sh M_in st2.2.1 st2.2.2 M_ro) → va_S A s.heap H locs → lv_has ls 5 [(0, .ref aM), (1, .int x1), (2, .int st2.1)] → W p l e rm_X12_putNote s m args below meth c H locs 0 0 Q (F0 m 2 ls [])) (e := e1) (fun st2 x hm hG hE => ?_) fu _ hc1 H locs ls hP hD hS (lv_sub hl [1, 2, 0] rfl)
  intro H locs ls hP hD hS hl
  have J137 : ∀ (x2_j137 : Int32) (M_ou_j137 : Nat → Int32) (M_om_j137 : Int32), (m_X12_putNote_J137 x1 x2_j137 M_ou_j137 M_om_j137 = some x) → ∀ (H : Heap) (locs : List Loc) (ls : Array Slot), va_P D vwCl (w_X12_putNote cI cZ aM aM_s aM_ke aM_te aM_re aM_bo aM_bn aM_sh aM_in aM_su aM_gr aM_tr aM_ou aM_ro M_s M_km M_n M_be M_ma M_so M_sh M_in M_ou_j137 M_om_j137 M_ro) H → va_D A (w_X12_putNote cI cZ aM aM_s aM_ke aM_te aM_re aM_bo aM_bn aM_sh aM_in aM_su aM_gr aM_tr aM_ou aM_ro M_s M_km M_n M_be M_ma M_so M_sh M_in M_ou_j137 M_om_j137 M_ro) → va_S A s.heap H locs → lv_has ls 5 [(0, .ref aM), (1, .int x1), (2, .int x2_j137)] → W p l e rm_X12_putNote s m args below meth c H locs 0 0 Q (F0 m 137 ls []) := by
    intro x2_j137 M_ou_j137 M_om_j137 hm H locs ls hP hD hS hl
    refine lv_iinc (v := (x2_j137 + 1)) (lv' := [(2, .int (x2_j137 + 1)), (0, .ref aM), (1, .int x1)]) hx hb dX12_putNote_137 hl (k := 2) rfl rfl (by decide) rfl (fun ls hl => ?_)
    refine lv_goto (tgt := 2) hx hb dX12_putNote_140 (by decide) ?_
    exact hG _ (Option.some.inj hm).symm H locs ls hP hD hS (lv_sub hl [1, 2, 0] rfl)
  have J78 : ∀ (x2_j78 : Int32) (x3_j78 : Int32) (x4_j78 : Int32) (M_ou_j78 : Nat → Int32) (M_om_j78 : Int32), (m_X12_putNote_J78 x1 x2_j78 x3_j78 x4_j78 M_s M_sh M_in M_ou_j78 M_om_j78 = some x) → ∀ (H : Heap) (locs : List Loc) (ls : Array Slot), va_P D vwCl (w_X12_putNote cI cZ aM aM_s aM_ke aM_te aM_re aM_bo aM_bn aM_sh aM_in aM_su aM_gr aM_tr aM_ou aM_ro M_s M_km M_n M_be M_ma M_so M_sh M_in M_ou_j78 M_om_j78 M_ro) H → va_D A (w_X12_putNote cI cZ aM aM_s aM_ke aM_te aM_re aM_bo aM_bn aM_sh aM_in aM_su aM_gr aM_tr aM_ou aM_ro M_s M_km M_n M_be M_ma M_so M_sh M_in M_ou_j78 M_om_j78 M_ro) → va_S A s.heap H locs → lv_has ls 5 [(0, .ref aM), (1, .int x1), (2, .int x2_j78), (3, .int x3_j78), (4, .int x4_j78)] → W p l e rm_X12_putNote s m args below meth c H locs 0 0 Q (F0 m 78 ls []) := by
    intro x2_j78 x3_j78 x4_j78 M_ou_j78 M_om_j78 hm H locs ls hP hD hS hl
    refine lv_iload hx hb dX12_putNote_78 (lv_at hl 4 rfl) ?_
    refine lv_if_le (tgt := 109) hx hb dX12_putNote_80 (by decide) (fun c3 => ?_) (fun c3 => ?_)
    · replace hm := if_t c3 hm
      refine lv_aload_n hx hb dX12_putNote_109 rfl (lv_at hl 0 rfl) ?_
      refine lv_iload_n hx hb dX12_putNote_110 rfl (lv_at hl 3 rfl) ?_
      refine lv_aload_n hx hb dX12_putNote_111 rfl (lv_at hl 0 rfl) ?_
      refine lv_iload_n hx hb dX12_putNote_112 rfl (lv_at hl 3 rfl) ?_
      replace hm := bd_some hm
      obtain ⟨e4, hc4, hm⟩ := hm
      refine kV_i (rest := [.int x3_j78, .ref aM]) (ws' := (w_X12_putNote cI cZ aM aM_s aM_ke aM_te aM_re aM_bo aM_bn aM_sh aM_in aM_su aM_gr aM_tr aM_ou aM_ro M_s M_km M_n M_be M_ma M_so M_sh M_in M_ou_j78 M_om_j78 M_ro)) S (c_X12_authors l D cI cJ cZ cS aM aM_s aM_ke aM_te aM_re aM_bo aM_bn aM_sh aM_in aM_su aM_gr aM_tr aM_ou aM_ro M_s M_km M_n M_be M_ma M_so M_om_j78 x3_j78 e4 hc4) k2 hK hP hD hS hA 0 rfl rfl rfl rfl hl.1 rfl (Nat.le_of_ble_eq_true rfl) ⟨Nat.zero_le _, Nat.zero_le _⟩ dX12_putNote_113 [0, 1] rfl rfl wa_X12_authors (sa_eq [(aM_sh, .inl (cI, 8, .inl M_sh)), (aM_in, .inl (cZ, 8, .inl M_in)), (aM_ou, .inl (cI, 300, .inl M_ou_j78)), (aM_ro, .inl (cI, 5, .inl M_ro))] [2, 3, 4, 5] 6 rfl rfl rfl rfl rfl rfl rfl) (fun H locs hP hD hS => ?_)
      refine lv_iconst (v := 1) hx hb dX12_putNote_116 (by decide) ?_
      replace hm := bd_some hm
      obtain ⟨e5, hc5, hm⟩ := hm
      refine kV_v (rest := []) (ws' := (w_X12_putNote cI cZ aM aM_s aM_ke aM_te aM_re aM_bo aM_bn aM_sh aM_in aM_su aM_gr aM_tr aM_ou aM_ro M_s M_km M_n M_be M_ma M_so M_sh M_in e5.1 e5.2 M_ro)) S (c_X12_putAuthors l D cI cJ cZ cS aM aM_s aM_ke aM_te aM_re aM_bo aM_bn aM_sh aM_in aM_su aM_gr aM_tr aM_ou aM_ro M_s M_km M_n M_be M_ma M_so M_ou_j78 M_om_j78 x3_j78 e4 1 e5 hc5) k3 hK hP hD hS hA 0 rfl rfl rfl rfl hl.1 rfl (Nat.le_of_ble_eq_true rfl) ⟨Nat.zero_le _, Nat.zero_le _⟩ dX12_putNote_117 [0, 1, 4] rfl rfl wa_X12_putAuthors (sa_eq [(aM_sh, .inl (cI, 8, .inl M_sh)), (aM_in, .inl (cZ, 8, .inl M_in)), (aM_ro, .inl (cI, 5, .inl M_ro))] [2, 3, 5] 6 rfl rfl rfl rfl rfl rfl rfl) (fun H locs hP hD hS => ?_)
      refine lv_aload_n hx hb dX12_putNote_120 rfl (lv_at hl 0 rfl) ?_
      refine lv_bipush (v := 97) hx hb dX12_putNote_121 (by decide) ?_
      refine lv_aload_n hx hb dX12_putNote_123 rfl (lv_at hl 0 rfl) ?_
      refine lv_iload_n hx hb dX12_putNote_124 rfl (lv_at hl 3 rfl) ?_
      replace hm := bd_some hm
      obtain ⟨e6, hc6, hm⟩ := hm
      refine kV_i (rest := [.int 97, .ref aM]) (ws' := (w_X12_putNote cI cZ aM aM_s aM_ke aM_te aM_re aM_bo aM_bn aM_sh aM_in aM_su aM_gr aM_tr aM_ou aM_ro M_s M_km M_n M_be M_ma M_so M_sh M_in e5.1 e5.2 M_ro)) S (c_X12_title l D cI cJ cZ cS aM aM_s aM_ke aM_te aM_re aM_bo aM_bn aM_sh aM_in aM_su aM_gr aM_tr aM_ou aM_ro M_s M_km M_n M_be M_ma M_so e5.2 x3_j78 e6 hc6) k4 hK hP hD hS hA 0 rfl rfl rfl rfl hl.1 rfl (Nat.le_of_ble_eq_true rfl) ⟨Nat.zero_le _, Nat.zero_le _⟩ dX12_putNote_125 [0, 1] rfl rfl wa_X12_title (sa_eq [(aM_sh, .inl (cI, 8, .inl M_sh)), (aM_in, .inl (cZ, 8, .inl M_in)), (aM_ou, .inl (cI, 300, .inl e5.1)), (aM_ro, .inl (cI, 5, .inl M_ro))] [2, 3, 4, 5] 6 rfl rfl rfl rfl rfl rfl rfl) (fun H locs hP hD hS => ?_)
      refine lv_iadd hx hb dX12_putNote_128 ?_
      replace hm := bd_some hm
      obtain ⟨e7, hc7, hm⟩ := hm
      refine kV_v (rest := []) (ws' := (w_X12_putNote cI cZ aM aM_s aM_ke aM_te aM_re aM_bo aM_bn aM_sh aM_in aM_su aM_gr aM_tr aM_ou aM_ro M_s M_km M_n M_be M_ma M_so M_sh M_in e7.1 e7.2 M_ro)) S (c_X12_put l D cI cJ cZ cS aM aM_s aM_ke aM_te aM_re aM_bo aM_bn aM_sh aM_in aM_su aM_gr aM_tr aM_ou aM_ro M_km M_n M_be M_ma M_so e5.1 e5.2 (97 + e6) e7 hc7) k1 hK hP hD hS hA 0 rfl rfl rfl rfl hl.1 rfl (Nat.le_of_ble_eq_true rfl) ⟨Nat.zero_le _, Nat.zero_le _⟩ dX12_putNote_129 [0, 4] rfl rfl wa_X12_put (sa_eq [(aM_s, .inl (cI, 131, .inl M_s)), (aM_sh, .inl (cI, 8, .inl M_sh)), (aM_in, .inl (cZ, 8, .inl M_in)), (aM_ro, .inl (cI, 5, .inl M_ro))] [1, 2, 3, 5] 6 rfl rfl rfl rfl rfl rfl rfl) (fun H locs hP hD hS => ?_)
      refine lv_aload_n hx hb dX12_putNote_132 rfl (lv_at hl 0 rfl) ?_
      refine lv_iload_n hx hb dX12_putNote_133 rfl (lv_at hl 3 rfl) ?_
      replace hm := bd_some hm
      obtain ⟨e8, hc8, hm⟩ := hm
      refine kV_v (rest := []) (ws' := (w_X12_putNote cI cZ aM aM_s aM_ke aM_te aM_re aM_bo aM_bn aM_sh aM_in aM_su aM_gr aM_tr aM_ou aM_ro M_s M_km M_n M_be M_ma M_so M_sh M_in e8.1 e8.2 M_ro)) S (c_X12_putYear l D cI cJ cZ cS aM aM_s aM_ke aM_te aM_re aM_bo aM_bn aM_sh aM_in aM_su aM_gr aM_tr aM_ou aM_ro M_s M_km M_n M_be M_ma M_so e7.1 e7.2 x3_j78 e8 hc8) k5 hK hP hD hS hA 0 rfl rfl rfl rfl hl.1 rfl (Nat.le_of_ble_eq_true rfl) ⟨Nat.zero_le _, Nat.zero_le _⟩ dX12_putNote_134 [0, 1, 4] rfl rfl wa_X12_putYear (sa_eq [(aM_sh, .inl (cI, 8, .inl M_sh)), (aM_in, .inl (cZ, 8, .inl M_in)), (aM_ro, .inl (cI, 5, .inl M_ro))] [2, 3, 5] 6 rfl rfl rfl rfl rfl rfl rfl) (fun H locs hP hD hS => ?_)
      exact J137 x2_j78 e8.1 e8.2 hm H locs ls hP hD hS (lv_sub hl [0, 1, 2] rfl)
    · replace hm := if_f c3 hm
      refine lv_aload_n hx hb dX12_putNote_83 rfl (lv_at hl 0 rfl) ?_
      refine lv_iload_n hx hb dX12_putNote_84 rfl (lv_at hl 3 rfl) ?_
      replace hm := bd_some hm
      obtain ⟨e9, hc9, hm⟩ := hm
      refine kV_v (rest := []) (ws' := (w_X12_putNote cI cZ aM aM_s aM_ke aM_te aM_re aM_bo aM_bn aM_sh aM_in aM_su aM_gr aM_tr aM_ou aM_ro M_s M_km M_n M_be M_ma M_so M_sh M_in e9.1 e9.2 M_ro)) S (c_X12_putNames l D cI cJ cZ cS aM aM_s aM_ke aM_te aM_re aM_bo aM_bn aM_sh aM_in aM_su aM_gr aM_tr aM_ou aM_ro M_s M_km M_n M_be M_ma M_so M_sh M_in M_ou_j78 M_om_j78 x3_j78 e9 hc9) k6 hK hP hD hS hA 0 rfl rfl rfl rfl hl.1 rfl (Nat.le_of_ble_eq_true rfl) ⟨Nat.zero_le _, Nat.zero_le _⟩ dX12_putNote_85 [0, 1, 2, 3, 4] rfl rfl wa_X12_putNames (sa_eq [(aM_ro, .inl (cI, 5, .inl M_ro))] [5] 6 rfl rfl rfl rfl rfl rfl rfl) (fun H locs hP hD hS => ?_)
      refine lv_aload_n hx hb dX12_putNote_88 rfl (lv_at hl 0 rfl) ?_
      refine lv_bipush (v := 110) hx hb dX12_putNote_89 (by decide) ?_
      replace hm := bd_some hm
      obtain ⟨e10, hc10, hm⟩ := hm
      refine kV_v (rest := []) (ws' := (w_X12_putNote cI cZ aM aM_s aM_ke aM_te aM_re aM_bo aM_bn aM_sh aM_in aM_su aM_gr aM_tr aM_ou aM_ro M_s M_km M_n M_be M_ma M_so M_sh M_in e10.1 e10.2 M_ro)) S (c_X12_put l D cI cJ cZ cS aM aM_s aM_ke aM_te aM_re aM_bo aM_bn aM_sh aM_in aM_su aM_gr aM_tr aM_ou aM_ro M_km M_n M_be M_ma M_so e9.1 e9.2 110 e10 hc10) k1 hK hP hD hS hA 0 rfl rfl rfl rfl hl.1 rfl (Nat.le_of_ble_eq_true rfl) ⟨Nat.zero_le _, Nat.zero_le _⟩ dX12_putNote_91 [0, 4] rfl rfl wa_X12_put (sa_eq [(aM_s, .inl (cI, 131, .inl M_s)), (aM_sh, .inl (cI, 8, .inl M_sh)), (aM_in, .inl (cZ, 8, .inl M_in)), (aM_ro, .inl (cI, 5, .inl M_ro))] [1, 2, 3, 5] 6 rfl rfl rfl rfl rfl rfl rfl) (fun H locs hP hD hS => ?_)
      refine lv_aload_n hx hb dX12_putNote_94 rfl (lv_at hl 0 rfl) ?_
      refine lv_bipush (v := 48) hx hb dX12_putNote_95 (by decide) ?_
      refine lv_iload hx hb dX12_putNote_97 (lv_at hl 4 rfl) ?_
      refine lv_bipush (v := 10) hx hb dX12_putNote_99 (by decide) ?_
      refine lv_irem hx hb dX12_putNote_101 (by decide) ?_
      refine lv_iadd hx hb dX12_putNote_102 ?_
      replace hm := bd_some hm
      obtain ⟨e11, hc11, hm⟩ := hm
      refine kV_v (rest := []) (ws' := (w_X12_putNote cI cZ aM aM_s aM_ke aM_te aM_re aM_bo aM_bn aM_sh aM_in aM_su aM_gr aM_tr aM_ou aM_ro M_s M_km M_n M_be M_ma M_so M_sh M_in e11.1 e11.2 M_ro)) S (c_X12_put l D cI cJ cZ cS aM aM_s aM_ke aM_te aM_re aM_bo aM_bn aM_sh aM_in aM_su aM_gr aM_tr aM_ou aM_ro M_km M_n M_be M_ma M_so e10.1 e10.2 (48 + (x4_j78 - x4_j78 / 10 * 10)) e11 hc11) k1 hK hP hD hS hA 0 rfl rfl rfl rfl hl.1 rfl (Nat.le_of_ble_eq_true rfl) ⟨Nat.zero_le _, Nat.zero_le _⟩ dX12_putNote_103 [0, 4] rfl rfl wa_X12_put (sa_eq [(aM_s, .inl (cI, 131, .inl M_s)), (aM_sh, .inl (cI, 8, .inl M_sh)), (aM_in, .inl (cZ, 8, .inl M_in)), (aM_ro, .inl (cI, 5, .inl M_ro))] [1, 2, 3, 5] 6 rfl rfl rfl rfl rfl rfl rfl) (fun H locs hP hD hS => ?_)
      refine lv_goto (tgt := 137) hx hb dX12_putNote_106 (by decide) ?_
      exact J137 x2_j78 e11.1 e11.2 hm H locs ls hP hD hS (lv_sub hl [0, 1, 2] rfl)
  have J38 : ∀ (x2_j38 : Int32) (x3_j38 : Int32) (x4_j38 : Int32) (M_ou_j38 : Nat → Int32) (M_om_j38 : Int32), (m_X12_putNote_J38 x1 x2_j38 x3_j38 x4_j38 M_s M_sh M_in M_ou_j38 M_om_j38 = some x) → ∀ (H : Heap) (locs : List Loc) (ls : Array Slot), va_P D vwCl (w_X12_putNote cI cZ aM aM_s aM_ke aM_te aM_re aM_bo aM_bn aM_sh aM_in aM_su aM_gr aM_tr aM_ou aM_ro M_s M_km M_n M_be M_ma M_so M_sh M_in M_ou_j38 M_om_j38 M_ro) H → va_D A (w_X12_putNote cI cZ aM aM_s aM_ke aM_te aM_re aM_bo aM_bn aM_sh aM_in aM_su aM_gr aM_tr aM_ou aM_ro M_s M_km M_n M_be M_ma M_so M_sh M_in M_ou_j38 M_om_j38 M_ro) → va_S A s.heap H locs → lv_has ls 5 [(0, .ref aM), (1, .int x1), (2, .int x2_j38), (3, .int x3_j38), (4, .int x4_j38)] → W p l e rm_X12_putNote s m args below meth c H locs 0 0 Q (F0 m 38 ls []) := by
    intro x2_j38 x3_j38 x4_j38 M_ou_j38 M_om_j38 hm H locs ls hP hD hS hl
    refine lv_iload_n hx hb dX12_putNote_38 rfl (lv_at hl 2 rfl) ?_
    refine lv_if_ne (tgt := 78) hx hb dX12_putNote_39 (by decide) (fun c12 => ?_) (fun c12 => ?_)
    · replace hm := if_f c12 hm
      exact J78 x2_j38 x3_j38 x4_j38 M_ou_j38 M_om_j38 hm H locs ls hP hD hS (lv_sub hl [0, 1, 2, 3, 4] rfl)
    · replace hm := if_t c12 hm
      refine lv_iload_n hx hb dX12_putNote_42 rfl (lv_at hl 1 rfl) ?_
      refine lv_if_le (tgt := 78) hx hb dX12_putNote_43 (by decide) (fun c13 => ?_) (fun c13 => ?_)
      · replace hm := if_t c13 hm
        exact J78 x2_j38 x3_j38 x4_j38 M_ou_j38 M_om_j38 hm H locs ls hP hD hS (lv_sub hl [0, 1, 2, 3, 4] rfl)
      · replace hm := if_f c13 hm
        refine lv_aload_n hx hb dX12_putNote_46 rfl (lv_at hl 0 rfl) ?_
        refine lv_iload_n hx hb dX12_putNote_47 rfl (lv_at hl 1 rfl) ?_
        refine lv_iconst (v := 1) hx hb dX12_putNote_48 (by decide) ?_
        refine lv_isub hx hb dX12_putNote_49 ?_
        replace hm := bd_some hm
        obtain ⟨e14, hc14, hm⟩ := hm
        refine kV_i (rest := []) (ws' := (w_X12_putNote cI cZ aM aM_s aM_ke aM_te aM_re aM_bo aM_bn aM_sh aM_in aM_su aM_gr aM_tr aM_ou aM_ro M_s M_km M_n M_be M_ma M_so M_sh M_in M_ou_j38 M_om_j38 M_ro)) S (c_X12_cites l D cI cJ cZ cS aM aM_s aM_ke aM_te aM_re aM_bo aM_bn aM_sh aM_in aM_su aM_gr aM_tr aM_ou aM_ro M_s M_km M_n M_be M_ma M_so M_om_j38 (x1 - 1) e14 hc14) k7 hK hP hD hS hA 0 rfl rfl rfl rfl hl.1 rfl (Nat.le_of_ble_eq_true rfl) ⟨Nat.zero_le _, Nat.zero_le _⟩ dX12_putNote_50 [0, 1] rfl rfl wa_X12_cites (sa_eq [(aM_sh, .inl (cI, 8, .inl M_sh)), (aM_in, .inl (cZ, 8, .inl M_in)), (aM_ou, .inl (cI, 300, .inl M_ou_j38)), (aM_ro, .inl (cI, 5, .inl M_ro))] [2, 3, 4, 5] 6 rfl rfl rfl rfl rfl rfl rfl) (fun H locs hP hD hS => ?_)
        refine lv_iconst (v := 1) hx hb dX12_putNote_53 (by decide) ?_
        refine lv_icmp_ne (tgt := 78) hx hb dX12_putNote_54 (by decide) (fun c15 => ?_) (fun c15 => ?_)
        · replace hm := if_f c15 hm
          exact J78 x2_j38 x3_j38 x4_j38 M_ou_j38 M_om_j38 hm H locs ls hP hD hS (lv_sub hl [0, 1, 2, 3, 4] rfl)
        · replace hm := if_t c15 hm
          refine lv_aload_n hx hb dX12_putNote_57 rfl (lv_at hl 0 rfl) ?_
          refine lv_iload_n hx hb dX12_putNote_58 rfl (lv_at hl 1 rfl) ?_
          refine lv_iconst (v := 1) hx hb dX12_putNote_59 (by decide) ?_
          refine lv_isub hx hb dX12_putNote_60 ?_
          refine lv_iconst (v := 0) hx hb dX12_putNote_61 (by decide) ?_
          replace hm := bd_some hm
          obtain ⟨e16, hc16, hm⟩ := hm
          refine kV_i (rest := []) (ws' := (w_X12_putNote cI cZ aM aM_s aM_ke aM_te aM_re aM_bo aM_bn aM_sh aM_in aM_su aM_gr aM_tr aM_ou aM_ro M_s M_km M_n M_be M_ma M_so M_sh M_in M_ou_j38 M_om_j38 M_ro)) S (c_X12_cited l D cI cJ cZ cS aM aM_s aM_ke aM_te aM_re aM_bo aM_bn aM_sh aM_in aM_su aM_gr aM_tr aM_ou aM_ro M_s M_km M_n M_be M_ma M_so M_om_j38 (x1 - 1) 0 e16 hc16) k8 hK hP hD hS hA 0 rfl rfl rfl rfl hl.1 rfl (Nat.le_of_ble_eq_true rfl) ⟨Nat.zero_le _, Nat.zero_le _⟩ dX12_putNote_62 [0, 1] rfl rfl wa_X12_cited (sa_eq [(aM_sh, .inl (cI, 8, .inl M_sh)), (aM_in, .inl (cZ, 8, .inl M_in)), (aM_ou, .inl (cI, 300, .inl M_ou_j38)), (aM_ro, .inl (cI, 5, .inl M_ro))] [2, 3, 4, 5] 6 rfl rfl rfl rfl rfl rfl rfl) (fun H locs hP hD hS => ?_)
          refine lv_iload_n hx hb dX12_putNote_65 rfl (lv_at hl 3 rfl) ?_
          refine lv_icmp_ne (tgt := 78) hx hb dX12_putNote_66 (by decide) (fun c17 => ?_) (fun c17 => ?_)
          · replace hm := if_f c17 hm
            exact J78 x2_j38 x3_j38 x4_j38 M_ou_j38 M_om_j38 hm H locs ls hP hD hS (lv_sub hl [0, 1, 2, 3, 4] rfl)
          · replace hm := if_t c17 hm
            refine lv_aload_n hx hb dX12_putNote_69 rfl (lv_at hl 0 rfl) ?_
            refine lv_bipush (v := 105) hx hb dX12_putNote_70 (by decide) ?_
            replace hm := bd_some hm
            obtain ⟨e18, hc18, hm⟩ := hm
            refine kV_v (rest := []) (ws' := (w_X12_putNote cI cZ aM aM_s aM_ke aM_te aM_re aM_bo aM_bn aM_sh aM_in aM_su aM_gr aM_tr aM_ou aM_ro M_s M_km M_n M_be M_ma M_so M_sh M_in e18.1 e18.2 M_ro)) S (c_X12_put l D cI cJ cZ cS aM aM_s aM_ke aM_te aM_re aM_bo aM_bn aM_sh aM_in aM_su aM_gr aM_tr aM_ou aM_ro M_km M_n M_be M_ma M_so M_ou_j38 M_om_j38 105 e18 hc18) k1 hK hP hD hS hA 0 rfl rfl rfl rfl hl.1 rfl (Nat.le_of_ble_eq_true rfl) ⟨Nat.zero_le _, Nat.zero_le _⟩ dX12_putNote_72 [0, 4] rfl rfl wa_X12_put (sa_eq [(aM_s, .inl (cI, 131, .inl M_s)), (aM_sh, .inl (cI, 8, .inl M_sh)), (aM_in, .inl (cZ, 8, .inl M_in)), (aM_ro, .inl (cI, 5, .inl M_ro))] [1, 2, 3, 5] 6 rfl rfl rfl rfl rfl rfl rfl) (fun H locs hP hD hS => ?_)
            refine lv_goto (tgt := 137) hx hb dX12_putNote_75 (by decide) ?_
            exact J137 x2_j38 e18.1 e18.2 hm H locs ls hP hD hS (lv_sub hl [0, 1, 2] rfl)
  refine lv_iload_n hx hb dX12_putNote_2 rfl (lv_at hl 2 rfl) ?_
  refine lv_aload_n hx hb dX12_putNote_3 rfl (lv_at hl 0 rfl) ?_
  refine lv_iload_n hx hb dX12_putNote_4 rfl (lv_at hl 1 rfl) ?_
  replace hm := bd_some hm
  obtain ⟨e19, hc19, hm⟩ := hm
  refine kV_i (rest := [.int st2.1]) (ws' := (w_X12_putNote cI cZ aM aM_s aM_ke aM_te aM_re aM_bo aM_bn aM_sh aM_in aM_su aM_gr aM_tr aM_ou aM_ro M_s M_km M_n M_be M_ma M_so M_sh M_in st2.2.1 st2.2.2 M_ro)) S (c_X12_cites l D cI cJ cZ cS aM aM_s aM_ke aM_te aM_re aM_bo aM_bn aM_sh aM_in aM_su aM_gr aM_tr aM_ou aM_ro M_s M_km M_n M_be M_ma M_so st2.2.2 x1 e19 hc19) k7 hK hP hD hS hA 0 rfl rfl rfl rfl hl.1 rfl (Nat.le_of_ble_eq_true rfl) ⟨Nat.zero_le _, Nat.zero_le _⟩ dX12_putNote_5 [0, 1] rfl rfl wa_X12_cites (sa_eq [(aM_sh, .inl (cI, 8, .inl M_sh)), (aM_in, .inl (cZ, 8, .inl M_in)), (aM_ou, .inl (cI, 300, .inl st2.2.1)), (aM_ro, .inl (cI, 5, .inl M_ro))] [2, 3, 4, 5] 6 rfl rfl rfl rfl rfl rfl rfl) (fun H locs hP hD hS => ?_)
  refine lv_icmp_ge (tgt := 143) hx hb dX12_putNote_8 (by decide) (fun c20 => ?_) (fun c20 => ?_)
  · replace hm := if_t c20 hm
    have h9 := hE _ (Option.some.inj hm).symm
    subst h9
    exact X1_0 H locs ls hP hD hS (lv_sub hl [0] rfl)
  · replace hm := if_f c20 hm
    refine lv_aload_n hx hb dX12_putNote_11 rfl (lv_at hl 0 rfl) ?_
    refine va_get (D := D) (ci := 12) (v := .ref aM_ro) (C := RX12) (T := TX12) (N := 19) hx hb hts k10 hown hKv hP 0 rfl rfl 18 (by decide) k9 (fun _ h9 => h9) rfl dX12_putNote_12 ?_
    refine lv_iload_n hx hb dX12_putNote_15 rfl (lv_at hl 2 rfl) ?_
    replace hm := ck_some hm
    obtain ⟨h21, hm⟩ := hm
    refine va_iald hx hb hKv hP 5 0 rfl rfl h21 dX12_putNote_16 ?_
    refine lv_istore_n (lv' := [(3, .int (M_ro (Int32.toNatClampNeg st2.1))), (0, .ref aM), (1, .int x1), (2, .int st2.1)]) hx hb dX12_putNote_17 rfl hl (by decide) rfl (fun ls hl => ?_)
    refine lv_aload_n hx hb dX12_putNote_18 rfl (lv_at hl 1 rfl) ?_
    refine lv_iload_n hx hb dX12_putNote_19 rfl (lv_at hl 0 rfl) ?_
    refine lv_iload_n hx hb dX12_putNote_20 rfl (lv_at hl 2 rfl) ?_
    replace hm := bd_some hm
    obtain ⟨e22, hc22, hm⟩ := hm
    refine kV_i (rest := []) (ws' := (w_X12_putNote cI cZ aM aM_s aM_ke aM_te aM_re aM_bo aM_bn aM_sh aM_in aM_su aM_gr aM_tr aM_ou aM_ro M_s M_km M_n M_be M_ma M_so M_sh M_in st2.2.1 st2.2.2 M_ro)) S (c_X12_earliest l D cI cJ cZ cS aM aM_s aM_ke aM_te aM_re aM_bo aM_bn aM_sh aM_in aM_su aM_gr aM_tr aM_ou aM_ro M_s M_km M_n M_be M_ma M_so st2.2.2 (M_ro (Int32.toNatClampNeg st2.1)) x1 e22 hc22) k11 hK hP hD hS hA 0 rfl rfl rfl rfl hl.1 rfl (Nat.le_of_ble_eq_true rfl) ⟨Nat.zero_le _, Nat.zero_le _⟩ dX12_putNote_21 [0, 1] rfl rfl wa_X12_earliest (sa_eq [(aM_sh, .inl (cI, 8, .inl M_sh)), (aM_in, .inl (cZ, 8, .inl M_in)), (aM_ou, .inl (cI, 300, .inl st2.2.1)), (aM_ro, .inl (cI, 5, .inl M_ro))] [2, 3, 4, 5] 6 rfl rfl rfl rfl rfl rfl rfl) (fun H locs hP hD hS => ?_)
    refine lv_iconst (v := 1) hx hb dX12_putNote_24 (by decide) ?_
    refine lv_iadd hx hb dX12_putNote_25 ?_
    refine lv_istore (lv' := [(4, .int (e22 + 1)), (3, .int (M_ro (Int32.toNatClampNeg st2.1))), (0, .ref aM), (1, .int x1), (2, .int st2.1)]) hx hb dX12_putNote_26 hl (by decide) rfl (fun ls hl => ?_)
    refine lv_iload_n hx hb dX12_putNote_28 rfl (lv_at hl 4 rfl) ?_
    refine lv_if_le (tgt := 38) hx hb dX12_putNote_29 (by decide) (fun c23 => ?_) (fun c23 => ?_)
    · replace hm := if_t c23 hm
      exact J38 st2.1 (M_ro (Int32.toNatClampNeg st2.1)) (e22 + 1) st2.2.1 st2.2.2 hm H locs ls hP hD hS (lv_sub hl [2, 3, 4, 1, 0] rfl)
    · replace hm := if_f c23 hm
      refine lv_aload_n hx hb dX12_putNote_32 rfl (lv_at hl 2 rfl) ?_
      refine lv_bipush (v := 59) hx hb dX12_putNote_33 (by decide) ?_
      replace hm := bd_some hm
      obtain ⟨e24, hc24, hm⟩ := hm
      refine kV_v (rest := []) (ws' := (w_X12_putNote cI cZ aM aM_s aM_ke aM_te aM_re aM_bo aM_bn aM_sh aM_in aM_su aM_gr aM_tr aM_ou aM_ro M_s M_km M_n M_be M_ma M_so M_sh M_in e24.1 e24.2 M_ro)) S (c_X12_put l D cI cJ cZ cS aM aM_s aM_ke aM_te aM_re aM_bo aM_bn aM_sh aM_in aM_su aM_gr aM_tr aM_ou aM_ro M_km M_n M_be M_ma M_so st2.2.1 st2.2.2 59 e24 hc24) k1 hK hP hD hS hA 0 rfl rfl rfl rfl hl.1 rfl (Nat.le_of_ble_eq_true rfl) ⟨Nat.zero_le _, Nat.zero_le _⟩ dX12_putNote_35 [0, 4] rfl rfl wa_X12_put (sa_eq [(aM_s, .inl (cI, 131, .inl M_s)), (aM_sh, .inl (cI, 8, .inl M_sh)), (aM_in, .inl (cZ, 8, .inl M_in)), (aM_ro, .inl (cI, 5, .inl M_ro))] [1, 2, 3, 5] 6 rfl rfl rfl rfl rfl rfl rfl) (fun H locs hP hD hS => ?_)
      exact J38 st2.1 (M_ro (Int32.toNatClampNeg st2.1)) (e22 + 1) e24.1 e24.2 hm H locs ls hP hD hS (lv_sub hl [2, 3, 4, 1, 0] rfl)
set_option maxHeartbeats 4000000 in
set_option maxRecDepth 100000 in
theorem c_X12_putNumeric (l : Launch) (D : va_G) (cI cJ cZ cS : ClassId) (aM aM_s aM_ke aM_te aM_re aM_bo aM_bn aM_sh aM_in aM_su aM_gr aM_tr aM_ou aM_ro : Nat) (M_s : Nat → Int32) (M_km : Int32) (M_n : Int32) (M_be : Int32) (M_ma : Int32) (M_so : Int32) (M_bn : Nat → Int32) (M_ou : Nat → Int32) (M_om : Int32) (M_ro : Nat → Int32) (x1 : Int32) (o : (Nat → Int32) × Int32) (hm : m_X12_putNumeric M_s M_bn M_ou M_om M_ro x1 = some o) : MV l yX12_putNumeric wsX12_putNumeric rm_X12_putNumeric D (TY cI cJ cZ cS) [.ref aM, .int x1] (w_X12_putNumeric cI aM aM_s aM_ke aM_te aM_re aM_bo aM_bn aM_sh aM_in aM_su aM_gr aM_tr aM_ou aM_ro M_s M_km M_n M_be M_ma M_so M_bn M_ou M_om M_ro) (w_X12_putNumeric cI aM aM_s aM_ke aM_te aM_re aM_bo aM_bn aM_sh aM_in aM_su aM_gr aM_tr aM_ou aM_ro M_s M_km M_n M_be M_ma M_so M_bn o.1 o.2 M_ro) := by
  refine MV_of (cc := cX12_putNumeric) (maxL := 4) (by decide) rfl (Nat.le_of_ble_eq_true rfl) ?_
  intro p e s m args below meth c A Q ls H locs hx hb hml hts hown hK hA hP hD hS hl hret
  have hown : s.vm.findClass RX12 = some m.cls := hown
  have hKv : va_K D vwCl (TY cI cJ cZ cS) s := hK.1
  have hl : lv_has ls 4 [(0, .ref aM), (1, .int x1)] := hl
  have S : CallFix p m c cX12_putNumeric 4 s args wsX12_putNumeric RX12 := ⟨hx, hb, hml, hown, hts⟩
  have k1 : CallW rm_X12_putNumeric s args RX12 RX12 209 yX12_put cX12_put 2 none wsX12_put rm_X12_put 0 0 1 := cwV 1 hts gX12_putNumeric_X12_put rfl rfl rfl (by decide +kernel) ⟨Nat.le_of_ble_eq_true rfl, Nat.le_of_ble_eq_true rfl⟩
  have k2 : CallW rm_X12_putNumeric s args RX12 RX12 228 yX12_numberIn cX12_numberIn 2 (some .int) wsX12_numberIn rm_X12_numberIn 0 0 1 := cwV 1 hts gX12_putNumeric_X12_numberIn rfl rfl rfl (by decide +kernel) ⟨Nat.le_of_ble_eq_true rfl, Nat.le_of_ble_eq_true rfl⟩
  have k3 := hts (.fieldLink RX12 7 "CitationFormatterModel" "s" "[I") (by decide +kernel)
  have k4 : ∀ w ∈ wsX120, w ∈ wsX12_putNumeric := by decide +kernel
  have k5 : CallW rm_X12_putNumeric s args RX12 RX12 119 yX12_cites cX12_cites 2 (some .int) wsX12_cites rm_X12_cites 0 0 1 := cwV 1 hts gX12_putNumeric_X12_cites rfl rfl rfl (by decide +kernel) ⟨Nat.le_of_ble_eq_true rfl, Nat.le_of_ble_eq_true rfl⟩
  refine lv_aload_n hx hb dX12_putNumeric_0 rfl (lv_at hl 0 rfl) ?_
  refine lv_bipush (v := 91) hx hb dX12_putNumeric_1 (by decide) ?_
  replace hm := bd_some hm
  obtain ⟨e1, hc1, hm⟩ := hm
  refine kV_v (rest := []) (ws' := (w_X12_putNumeric cI aM aM_s aM_ke aM_te aM_re aM_bo aM_bn aM_sh aM_in aM_su aM_gr aM_tr aM_ou aM_ro M_s M_km M_n M_be M_ma M_so M_bn e1.1 e1.2 M_ro)) S (c_X12_put l D cI cJ cZ cS aM aM_s aM_ke aM_te aM_re aM_bo aM_bn aM_sh aM_in aM_su aM_gr aM_tr aM_ou aM_ro M_km M_n M_be M_ma M_so M_ou M_om 91 e1 hc1) k1 hK hP hD hS hA 0 rfl rfl rfl rfl hl.1 rfl (Nat.le_of_ble_eq_true rfl) ⟨Nat.zero_le _, Nat.zero_le _⟩ dX12_putNumeric_3 [0, 3] rfl rfl wa_X12_put (sa_eq [(aM_s, .inl (cI, 131, .inl M_s)), (aM_bn, .inl (cI, 8, .inl M_bn)), (aM_ro, .inl (cI, 5, .inl M_ro))] [1, 2, 4] 5 rfl rfl rfl rfl rfl rfl rfl) (fun H locs hP hD hS => ?_)
  refine lv_iconst (v := 0) hx hb dX12_putNumeric_6 (by decide) ?_
  refine lv_istore_n (lv' := [(2, .int 0), (0, .ref aM), (1, .int x1)]) hx hb dX12_putNumeric_7 rfl hl (by decide) rfl (fun ls hl => ?_)
  replace hm := bd_some hm
  obtain ⟨e2, hc2, hm⟩ := hm
  have X2_0 : ∀ (H : Heap) (locs : List Loc) (ls : Array Slot), va_P D vwCl (w_X12_putNumeric cI aM aM_s aM_ke aM_te aM_re aM_bo aM_bn aM_sh aM_in aM_su aM_gr aM_tr aM_ou aM_ro M_s M_km M_n M_be M_ma M_so M_bn e2.1 e2.2 M_ro) H → va_D A (w_X12_putNumeric cI aM aM_s aM_ke aM_te aM_re aM_bo aM_bn aM_sh aM_in aM_su aM_gr aM_tr aM_ou aM_ro M_s M_km M_n M_be M_ma M_so M_bn e2.1 e2.2 M_ro) → va_S A s.heap H locs → lv_has ls 4 [(0, .ref aM)] → W p l e rm_X12_putNumeric s m args below meth c H locs 0 0 Q (F0 m 118 ls []) := by
    intro H locs ls hP hD hS hl
    refine lv_aload_n hx hb dX12_putNumeric_118 rfl (lv_at hl 0 rfl) ?_
    refine lv_bipush (v := 93) hx hb dX12_putNumeric_119 (by decide) ?_
    replace hm := bd_some hm
    obtain ⟨e3, hc3, hm⟩ := hm
    refine kV_v (rest := []) (ws' := (w_X12_putNumeric cI aM aM_s aM_ke aM_te aM_re aM_bo aM_bn aM_sh aM_in aM_su aM_gr aM_tr aM_ou aM_ro M_s M_km M_n M_be M_ma M_so M_bn e3.1 e3.2 M_ro)) S (c_X12_put l D cI cJ cZ cS aM aM_s aM_ke aM_te aM_re aM_bo aM_bn aM_sh aM_in aM_su aM_gr aM_tr aM_ou aM_ro M_km M_n M_be M_ma M_so e2.1 e2.2 93 e3 hc3) k1 hK hP hD hS hA 0 rfl rfl rfl rfl hl.1 rfl (Nat.le_of_ble_eq_true rfl) ⟨Nat.zero_le _, Nat.zero_le _⟩ dX12_putNumeric_121 [0, 3] rfl rfl wa_X12_put (sa_eq [(aM_s, .inl (cI, 131, .inl M_s)), (aM_bn, .inl (cI, 8, .inl M_bn)), (aM_ro, .inl (cI, 5, .inl M_ro))] [1, 2, 4] 5 rfl rfl rfl rfl rfl rfl rfl) (fun H locs hP hD hS => ?_)
    have h9 := Option.some.inj hm
    subst h9
    exact hret H locs _ ls hP hD hS dX12_putNumeric_124
  refine it_W (G := fun (st8 : Int32 × (Nat → Int32) × Int32) => ∀ (H : Heap) (locs : List Loc) (ls : Array Slot), va_P D vwCl (w_X12_putNumeric cI aM aM_s aM_ke aM_te aM_re aM_bo aM_bn aM_sh aM_in aM_su aM_gr aM_tr aM_ou aM_ro M_s M_km M_n M_be M_ma M_so M_bn st8.2.1 st8.2.2 M_ro) H → va_D A (w_X12_putNumeric cI aM aM_s aM_ke aM_te aM_re aM_bo aM_bn aM_sh aM_in aM_su aM_gr aM_tr aM_ou aM_ro M_s M_km M_n M_be M_ma M_so M_bn st8.2.1 st8.2.2 M_ro) → va_S A s.heap H locs → lv_has ls 4 [(0, .ref aM), (1, .int x1), (2, .int st8.1)] → W p l e rm_X12_putNumeric s m args below meth c H locs 0 0 Q (F0 m 8 ls [])) (e := e2) (fun st8 x hm hG hE => ?_) fu _ hc2 H locs ls hP hD hS (lv_sub hl [1, 2, 0] rfl)
  intro H locs ls hP hD hS hl
  have J112 : ∀ (x2_j112 : Int32) (M_ou_j112 : Nat → Int32) (M_om_j112 : Int32), (m_X12_putNumeric_J112 x1 x2_j112 M_ou_j112 M_om_j112 = some x) → ∀ (H : Heap) (locs : List Loc) (ls : Array Slot), va_P D vwCl (w_X12_putNumeric cI aM aM_s aM_ke aM_te aM_re aM_bo aM_bn aM_sh aM_in aM_su aM_gr aM_tr aM_ou aM_ro M_s M_km M_n M_be M_ma M_so M_bn M_ou_j112 M_om_j112 M_ro) H → va_D A (w_X12_putNumeric cI aM aM_s aM_ke aM_te aM_re aM_bo aM_bn aM_sh aM_in aM_su aM_gr aM_tr aM_ou aM_ro M_s M_km M_n M_be M_ma M_so M_bn M_ou_j112 M_om_j112 M_ro) → va_S A s.heap H locs → lv_has ls 4 [(0, .ref aM), (1, .int x1), (2, .int x2_j112)] → W p l e rm_X12_putNumeric s m args below meth c H locs 0 0 Q (F0 m 112 ls []) := by
    intro x2_j112 M_ou_j112 M_om_j112 hm H locs ls hP hD hS hl
    refine lv_iinc (v := (x2_j112 + 1)) (lv' := [(2, .int (x2_j112 + 1)), (0, .ref aM), (1, .int x1)]) hx hb dX12_putNumeric_112 hl (k := 2) rfl rfl (by decide) rfl (fun ls hl => ?_)
    refine lv_goto (tgt := 8) hx hb dX12_putNumeric_115 (by decide) ?_
    exact hG _ (Option.some.inj hm).symm H locs ls hP hD hS (lv_sub hl [1, 2, 0] rfl)
  have J63 : ∀ (x2_j63 : Int32) (x3_j63 : Int32) (M_ou_j63 : Nat → Int32) (M_om_j63 : Int32), (m_X12_putNumeric_J63 x1 x2_j63 x3_j63 M_s M_bn M_ou_j63 M_om_j63 M_ro = some x) → ∀ (H : Heap) (locs : List Loc) (ls : Array Slot), va_P D vwCl (w_X12_putNumeric cI aM aM_s aM_ke aM_te aM_re aM_bo aM_bn aM_sh aM_in aM_su aM_gr aM_tr aM_ou aM_ro M_s M_km M_n M_be M_ma M_so M_bn M_ou_j63 M_om_j63 M_ro) H → va_D A (w_X12_putNumeric cI aM aM_s aM_ke aM_te aM_re aM_bo aM_bn aM_sh aM_in aM_su aM_gr aM_tr aM_ou aM_ro M_s M_km M_n M_be M_ma M_so M_bn M_ou_j63 M_om_j63 M_ro) → va_S A s.heap H locs → lv_has ls 4 [(0, .ref aM), (1, .int x1), (2, .int x2_j63), (3, .int x3_j63)] → W p l e rm_X12_putNumeric s m args below meth c H locs 0 0 Q (F0 m 63 ls []) := by
    intro x2_j63 x3_j63 M_ou_j63 M_om_j63 hm H locs ls hP hD hS hl
    refine lv_aload_n hx hb dX12_putNumeric_63 rfl (lv_at hl 0 rfl) ?_
    refine lv_bipush (v := 48) hx hb dX12_putNumeric_64 (by decide) ?_
    refine lv_aload_n hx hb dX12_putNumeric_66 rfl (lv_at hl 0 rfl) ?_
    refine lv_iload_n hx hb dX12_putNumeric_67 rfl (lv_at hl 2 rfl) ?_
    replace hm := bd_some hm
    obtain ⟨e4, hc4, hm⟩ := hm
    refine kV_i (rest := [.int 48, .ref aM]) (ws' := (w_X12_putNumeric cI aM aM_s aM_ke aM_te aM_re aM_bo aM_bn aM_sh aM_in aM_su aM_gr aM_tr aM_ou aM_ro M_s M_km M_n M_be M_ma M_so M_bn M_ou_j63 M_om_j63 M_ro)) S (c_X12_numberIn l D cI cJ cZ cS aM aM_s aM_ke aM_te aM_re aM_bo aM_bn aM_sh aM_in aM_su aM_gr aM_tr aM_ou aM_ro M_km M_n M_be M_ma M_so M_bn M_om_j63 M_ro x2_j63 e4 hc4) k2 hK hP hD hS hA 0 rfl rfl rfl rfl hl.1 rfl (Nat.le_of_ble_eq_true rfl) ⟨Nat.zero_le _, Nat.zero_le _⟩ dX12_putNumeric_68 [0, 2, 4] rfl rfl wa_X12_numberIn (sa_eq [(aM_s, .inl (cI, 131, .inl M_s)), (aM_ou, .inl (cI, 300, .inl M_ou_j63))] [1, 3] 5 rfl rfl rfl rfl rfl rfl rfl) (fun H locs hP hD hS => ?_)
    refine lv_iadd hx hb dX12_putNumeric_71 ?_
    replace hm := bd_some hm
    obtain ⟨e5, hc5, hm⟩ := hm
    refine kV_v (rest := []) (ws' := (w_X12_putNumeric cI aM aM_s aM_ke aM_te aM_re aM_bo aM_bn aM_sh aM_in aM_su aM_gr aM_tr aM_ou aM_ro M_s M_km M_n M_be M_ma M_so M_bn e5.1 e5.2 M_ro)) S (c_X12_put l D cI cJ cZ cS aM aM_s aM_ke aM_te aM_re aM_bo aM_bn aM_sh aM_in aM_su aM_gr aM_tr aM_ou aM_ro M_km M_n M_be M_ma M_so M_ou_j63 M_om_j63 (48 + e4) e5 hc5) k1 hK hP hD hS hA 0 rfl rfl rfl rfl hl.1 rfl (Nat.le_of_ble_eq_true rfl) ⟨Nat.zero_le _, Nat.zero_le _⟩ dX12_putNumeric_72 [0, 3] rfl rfl wa_X12_put (sa_eq [(aM_s, .inl (cI, 131, .inl M_s)), (aM_bn, .inl (cI, 8, .inl M_bn)), (aM_ro, .inl (cI, 5, .inl M_ro))] [1, 2, 4] 5 rfl rfl rfl rfl rfl rfl rfl) (fun H locs hP hD hS => ?_)
    refine lv_aload_n hx hb dX12_putNumeric_75 rfl (lv_at hl 0 rfl) ?_
    refine va_get (D := D) (ci := 12) (v := .ref aM_s) (C := RX12) (T := TX12) (N := 19) hx hb hts k4 hown hKv hP 0 rfl rfl 0 (by decide) k3 (fun _ h9 => h9) rfl dX12_putNumeric_76 ?_
    refine lv_bipush (v := 61) hx hb dX12_putNumeric_79 (by decide) ?_
    replace hm := ck_some hm
    obtain ⟨h6, hm⟩ := hm
    refine va_iald hx hb hKv hP 1 0 rfl rfl h6 dX12_putNumeric_81 ?_
    refine lv_if_le (tgt := 112) hx hb dX12_putNumeric_82 (by decide) (fun c7 => ?_) (fun c7 => ?_)
    · replace hm := if_t c7 hm
      exact J112 x2_j63 e5.1 e5.2 hm H locs ls hP hD hS (lv_sub hl [0, 1, 2] rfl)
    · replace hm := if_f c7 hm
      refine lv_iload_n hx hb dX12_putNumeric_85 rfl (lv_at hl 3 rfl) ?_
      refine lv_iload_n hx hb dX12_putNumeric_86 rfl (lv_at hl 2 rfl) ?_
      refine lv_isub hx hb dX12_putNumeric_87 ?_
      refine lv_iconst (v := 1) hx hb dX12_putNumeric_88 (by decide) ?_
      refine lv_icmp_le (tgt := 112) hx hb dX12_putNumeric_89 (by decide) (fun c8 => ?_) (fun c8 => ?_)
      · replace hm := if_t c8 hm
        exact J112 x2_j63 e5.1 e5.2 hm H locs ls hP hD hS (lv_sub hl [0, 1, 2] rfl)
      · replace hm := if_f c8 hm
        refine lv_aload_n hx hb dX12_putNumeric_92 rfl (lv_at hl 0 rfl) ?_
        refine lv_bipush (v := 45) hx hb dX12_putNumeric_93 (by decide) ?_
        replace hm := bd_some hm
        obtain ⟨e9, hc9, hm⟩ := hm
        refine kV_v (rest := []) (ws' := (w_X12_putNumeric cI aM aM_s aM_ke aM_te aM_re aM_bo aM_bn aM_sh aM_in aM_su aM_gr aM_tr aM_ou aM_ro M_s M_km M_n M_be M_ma M_so M_bn e9.1 e9.2 M_ro)) S (c_X12_put l D cI cJ cZ cS aM aM_s aM_ke aM_te aM_re aM_bo aM_bn aM_sh aM_in aM_su aM_gr aM_tr aM_ou aM_ro M_km M_n M_be M_ma M_so e5.1 e5.2 45 e9 hc9) k1 hK hP hD hS hA 0 rfl rfl rfl rfl hl.1 rfl (Nat.le_of_ble_eq_true rfl) ⟨Nat.zero_le _, Nat.zero_le _⟩ dX12_putNumeric_95 [0, 3] rfl rfl wa_X12_put (sa_eq [(aM_s, .inl (cI, 131, .inl M_s)), (aM_bn, .inl (cI, 8, .inl M_bn)), (aM_ro, .inl (cI, 5, .inl M_ro))] [1, 2, 4] 5 rfl rfl rfl rfl rfl rfl rfl) (fun H locs hP hD hS => ?_)
        refine lv_aload_n hx hb dX12_putNumeric_98 rfl (lv_at hl 0 rfl) ?_
        refine lv_bipush (v := 48) hx hb dX12_putNumeric_99 (by decide) ?_
        refine lv_aload_n hx hb dX12_putNumeric_101 rfl (lv_at hl 0 rfl) ?_
        refine lv_iload_n hx hb dX12_putNumeric_102 rfl (lv_at hl 3 rfl) ?_
        replace hm := bd_some hm
        obtain ⟨e10, hc10, hm⟩ := hm
        refine kV_i (rest := [.int 48, .ref aM]) (ws' := (w_X12_putNumeric cI aM aM_s aM_ke aM_te aM_re aM_bo aM_bn aM_sh aM_in aM_su aM_gr aM_tr aM_ou aM_ro M_s M_km M_n M_be M_ma M_so M_bn e9.1 e9.2 M_ro)) S (c_X12_numberIn l D cI cJ cZ cS aM aM_s aM_ke aM_te aM_re aM_bo aM_bn aM_sh aM_in aM_su aM_gr aM_tr aM_ou aM_ro M_km M_n M_be M_ma M_so M_bn e9.2 M_ro x3_j63 e10 hc10) k2 hK hP hD hS hA 0 rfl rfl rfl rfl hl.1 rfl (Nat.le_of_ble_eq_true rfl) ⟨Nat.zero_le _, Nat.zero_le _⟩ dX12_putNumeric_103 [0, 2, 4] rfl rfl wa_X12_numberIn (sa_eq [(aM_s, .inl (cI, 131, .inl M_s)), (aM_ou, .inl (cI, 300, .inl e9.1))] [1, 3] 5 rfl rfl rfl rfl rfl rfl rfl) (fun H locs hP hD hS => ?_)
        refine lv_iadd hx hb dX12_putNumeric_106 ?_
        replace hm := bd_some hm
        obtain ⟨e11, hc11, hm⟩ := hm
        refine kV_v (rest := []) (ws' := (w_X12_putNumeric cI aM aM_s aM_ke aM_te aM_re aM_bo aM_bn aM_sh aM_in aM_su aM_gr aM_tr aM_ou aM_ro M_s M_km M_n M_be M_ma M_so M_bn e11.1 e11.2 M_ro)) S (c_X12_put l D cI cJ cZ cS aM aM_s aM_ke aM_te aM_re aM_bo aM_bn aM_sh aM_in aM_su aM_gr aM_tr aM_ou aM_ro M_km M_n M_be M_ma M_so e9.1 e9.2 (48 + e10) e11 hc11) k1 hK hP hD hS hA 0 rfl rfl rfl rfl hl.1 rfl (Nat.le_of_ble_eq_true rfl) ⟨Nat.zero_le _, Nat.zero_le _⟩ dX12_putNumeric_107 [0, 3] rfl rfl wa_X12_put (sa_eq [(aM_s, .inl (cI, 131, .inl M_s)), (aM_bn, .inl (cI, 8, .inl M_bn)), (aM_ro, .inl (cI, 5, .inl M_ro))] [1, 2, 4] 5 rfl rfl rfl rfl rfl rfl rfl) (fun H locs hP hD hS => ?_)
        refine lv_iload_n hx hb dX12_putNumeric_110 rfl (lv_at hl 3 rfl) ?_
        refine lv_istore_n (lv' := [(2, .int x3_j63), (0, .ref aM), (1, .int x1), (3, .int x3_j63)]) hx hb dX12_putNumeric_111 rfl hl (by decide) rfl (fun ls hl => ?_)
        exact J112 x3_j63 e11.1 e11.2 hm H locs ls hP hD hS (lv_sub hl [1, 2, 0] rfl)
  refine lv_iload_n hx hb dX12_putNumeric_8 rfl (lv_at hl 2 rfl) ?_
  refine lv_aload_n hx hb dX12_putNumeric_9 rfl (lv_at hl 0 rfl) ?_
  refine lv_iload_n hx hb dX12_putNumeric_10 rfl (lv_at hl 1 rfl) ?_
  replace hm := bd_some hm
  obtain ⟨e12, hc12, hm⟩ := hm
  refine kV_i (rest := [.int st8.1]) (ws' := (w_X12_putNumeric cI aM aM_s aM_ke aM_te aM_re aM_bo aM_bn aM_sh aM_in aM_su aM_gr aM_tr aM_ou aM_ro M_s M_km M_n M_be M_ma M_so M_bn st8.2.1 st8.2.2 M_ro)) S (c_X12_cites l D cI cJ cZ cS aM aM_s aM_ke aM_te aM_re aM_bo aM_bn aM_sh aM_in aM_su aM_gr aM_tr aM_ou aM_ro M_s M_km M_n M_be M_ma M_so st8.2.2 x1 e12 hc12) k5 hK hP hD hS hA 0 rfl rfl rfl rfl hl.1 rfl (Nat.le_of_ble_eq_true rfl) ⟨Nat.zero_le _, Nat.zero_le _⟩ dX12_putNumeric_11 [0, 1] rfl rfl wa_X12_cites (sa_eq [(aM_bn, .inl (cI, 8, .inl M_bn)), (aM_ou, .inl (cI, 300, .inl st8.2.1)), (aM_ro, .inl (cI, 5, .inl M_ro))] [2, 3, 4] 5 rfl rfl rfl rfl rfl rfl rfl) (fun H locs hP hD hS => ?_)
  refine lv_icmp_ge (tgt := 118) hx hb dX12_putNumeric_14 (by decide) (fun c13 => ?_) (fun c13 => ?_)
  · replace hm := if_t c13 hm
    have h9 := hE _ (Option.some.inj hm).symm
    subst h9
    exact X2_0 H locs ls hP hD hS (lv_sub hl [0] rfl)
  · replace hm := if_f c13 hm
    refine lv_iload_n hx hb dX12_putNumeric_17 rfl (lv_at hl 2 rfl) ?_
    refine lv_istore_n (lv' := [(3, .int st8.1), (0, .ref aM), (1, .int x1), (2, .int st8.1)]) hx hb dX12_putNumeric_18 rfl hl (by decide) rfl (fun ls hl => ?_)
    replace hm := bd_some hm
    obtain ⟨e14, hc14, hm⟩ := hm
    have X14_0 : ∀ (H : Heap) (locs : List Loc) (ls : Array Slot), va_P D vwCl (w_X12_putNumeric cI aM aM_s aM_ke aM_te aM_re aM_bo aM_bn aM_sh aM_in aM_su aM_gr aM_tr aM_ou aM_ro M_s M_km M_n M_be M_ma M_so M_bn st8.2.1 st8.2.2 M_ro) H → va_D A (w_X12_putNumeric cI aM aM_s aM_ke aM_te aM_re aM_bo aM_bn aM_sh aM_in aM_su aM_gr aM_tr aM_ou aM_ro M_s M_km M_n M_be M_ma M_so M_bn st8.2.1 st8.2.2 M_ro) → va_S A s.heap H locs → lv_has ls 4 [(0, .ref aM), (1, .int x1), (2, .int st8.1), (3, .int e14)] → W p l e rm_X12_putNumeric s m args below meth c H locs 0 0 Q (F0 m 53 ls []) := by
      intro H locs ls hP hD hS hl
      refine lv_iload_n hx hb dX12_putNumeric_53 rfl (lv_at hl 2 rfl) ?_
      refine lv_if_le (tgt := 63) hx hb dX12_putNumeric_54 (by decide) (fun c15 => ?_) (fun c15 => ?_)
      · replace hm := if_t c15 hm
        exact J63 st8.1 e14 st8.2.1 st8.2.2 hm H locs ls hP hD hS (lv_sub hl [0, 1, 2, 3] rfl)
      · replace hm := if_f c15 hm
        refine lv_aload_n hx hb dX12_putNumeric_57 rfl (lv_at hl 0 rfl) ?_
        refine lv_bipush (v := 44) hx hb dX12_putNumeric_58 (by decide) ?_
        replace hm := bd_some hm
        obtain ⟨e16, hc16, hm⟩ := hm
        refine kV_v (rest := []) (ws' := (w_X12_putNumeric cI aM aM_s aM_ke aM_te aM_re aM_bo aM_bn aM_sh aM_in aM_su aM_gr aM_tr aM_ou aM_ro M_s M_km M_n M_be M_ma M_so M_bn e16.1 e16.2 M_ro)) S (c_X12_put l D cI cJ cZ cS aM aM_s aM_ke aM_te aM_re aM_bo aM_bn aM_sh aM_in aM_su aM_gr aM_tr aM_ou aM_ro M_km M_n M_be M_ma M_so st8.2.1 st8.2.2 44 e16 hc16) k1 hK hP hD hS hA 0 rfl rfl rfl rfl hl.1 rfl (Nat.le_of_ble_eq_true rfl) ⟨Nat.zero_le _, Nat.zero_le _⟩ dX12_putNumeric_60 [0, 3] rfl rfl wa_X12_put (sa_eq [(aM_s, .inl (cI, 131, .inl M_s)), (aM_bn, .inl (cI, 8, .inl M_bn)), (aM_ro, .inl (cI, 5, .inl M_ro))] [1, 2, 4] 5 rfl rfl rfl rfl rfl rfl rfl) (fun H locs hP hD hS => ?_)
        exact J63 st8.1 e14 e16.1 e16.2 hm H locs ls hP hD hS (lv_sub hl [0, 1, 2, 3] rfl)
    refine it_W (G := fun (st19 : Int32) => ∀ (H : Heap) (locs : List Loc) (ls : Array Slot), va_P D vwCl (w_X12_putNumeric cI aM aM_s aM_ke aM_te aM_re aM_bo aM_bn aM_sh aM_in aM_su aM_gr aM_tr aM_ou aM_ro M_s M_km M_n M_be M_ma M_so M_bn st8.2.1 st8.2.2 M_ro) H → va_D A (w_X12_putNumeric cI aM aM_s aM_ke aM_te aM_re aM_bo aM_bn aM_sh aM_in aM_su aM_gr aM_tr aM_ou aM_ro M_s M_km M_n M_be M_ma M_so M_bn st8.2.1 st8.2.2 M_ro) → va_S A s.heap H locs → lv_has ls 4 [(0, .ref aM), (1, .int x1), (2, .int st8.1), (3, .int st19)] → W p l e rm_X12_putNumeric s m args below meth c H locs 0 0 Q (F0 m 19 ls [])) (e := e14) (fun st19 x hm hG hE => ?_) fu _ hc14 H locs ls hP hD hS (lv_sub hl [1, 2, 3, 0] rfl)
    intro H locs ls hP hD hS hl
    refine lv_iload_n hx hb dX12_putNumeric_19 rfl (lv_at hl 3 rfl) ?_
    refine lv_iconst (v := 1) hx hb dX12_putNumeric_20 (by decide) ?_
    refine lv_iadd hx hb dX12_putNumeric_21 ?_
    refine lv_aload_n hx hb dX12_putNumeric_22 rfl (lv_at hl 0 rfl) ?_
    refine lv_iload_n hx hb dX12_putNumeric_23 rfl (lv_at hl 1 rfl) ?_
    replace hm := bd_some hm
    obtain ⟨e17, hc17, hm⟩ := hm
    refine kV_i (rest := [.int (st19 + 1)]) (ws' := (w_X12_putNumeric cI aM aM_s aM_ke aM_te aM_re aM_bo aM_bn aM_sh aM_in aM_su aM_gr aM_tr aM_ou aM_ro M_s M_km M_n M_be M_ma M_so M_bn st8.2.1 st8.2.2 M_ro)) S (c_X12_cites l D cI cJ cZ cS aM aM_s aM_ke aM_te aM_re aM_bo aM_bn aM_sh aM_in aM_su aM_gr aM_tr aM_ou aM_ro M_s M_km M_n M_be M_ma M_so st8.2.2 x1 e17 hc17) k5 hK hP hD hS hA 0 rfl rfl rfl rfl hl.1 rfl (Nat.le_of_ble_eq_true rfl) ⟨Nat.zero_le _, Nat.zero_le _⟩ dX12_putNumeric_24 [0, 1] rfl rfl wa_X12_cites (sa_eq [(aM_bn, .inl (cI, 8, .inl M_bn)), (aM_ou, .inl (cI, 300, .inl st8.2.1)), (aM_ro, .inl (cI, 5, .inl M_ro))] [2, 3, 4] 5 rfl rfl rfl rfl rfl rfl rfl) (fun H locs hP hD hS => ?_)
    refine lv_icmp_ge (tgt := 53) hx hb dX12_putNumeric_27 (by decide) (fun c18 => ?_) (fun c18 => ?_)
    · replace hm := if_t c18 hm
      have h9 := hE _ (Option.some.inj hm).symm
      subst h9
      exact X14_0 H locs ls hP hD hS (lv_sub hl [0, 1, 2, 3] rfl)
    · replace hm := if_f c18 hm
      refine lv_aload_n hx hb dX12_putNumeric_30 rfl (lv_at hl 0 rfl) ?_
      refine lv_iload_n hx hb dX12_putNumeric_31 rfl (lv_at hl 3 rfl) ?_
      refine lv_iconst (v := 1) hx hb dX12_putNumeric_32 (by decide) ?_
      refine lv_iadd hx hb dX12_putNumeric_33 ?_
      replace hm := bd_some hm
      obtain ⟨e19, hc19, hm⟩ := hm
      refine kV_i (rest := []) (ws' := (w_X12_putNumeric cI aM aM_s aM_ke aM_te aM_re aM_bo aM_bn aM_sh aM_in aM_su aM_gr aM_tr aM_ou aM_ro M_s M_km M_n M_be M_ma M_so M_bn st8.2.1 st8.2.2 M_ro)) S (c_X12_numberIn l D cI cJ cZ cS aM aM_s aM_ke aM_te aM_re aM_bo aM_bn aM_sh aM_in aM_su aM_gr aM_tr aM_ou aM_ro M_km M_n M_be M_ma M_so M_bn st8.2.2 M_ro (st19 + 1) e19 hc19) k2 hK hP hD hS hA 0 rfl rfl rfl rfl hl.1 rfl (Nat.le_of_ble_eq_true rfl) ⟨Nat.zero_le _, Nat.zero_le _⟩ dX12_putNumeric_34 [0, 2, 4] rfl rfl wa_X12_numberIn (sa_eq [(aM_s, .inl (cI, 131, .inl M_s)), (aM_ou, .inl (cI, 300, .inl st8.2.1))] [1, 3] 5 rfl rfl rfl rfl rfl rfl rfl) (fun H locs hP hD hS => ?_)
      refine lv_aload_n hx hb dX12_putNumeric_37 rfl (lv_at hl 0 rfl) ?_
      refine lv_iload_n hx hb dX12_putNumeric_38 rfl (lv_at hl 3 rfl) ?_
      replace hm := bd_some hm
      obtain ⟨e20, hc20, hm⟩ := hm
      refine kV_i (rest := [.int e19]) (ws' := (w_X12_putNumeric cI aM aM_s aM_ke aM_te aM_re aM_bo aM_bn aM_sh aM_in aM_su aM_gr aM_tr aM_ou aM_ro M_s M_km M_n M_be M_ma M_so M_bn st8.2.1 st8.2.2 M_ro)) S (c_X12_numberIn l D cI cJ cZ cS aM aM_s aM_ke aM_te aM_re aM_bo aM_bn aM_sh aM_in aM_su aM_gr aM_tr aM_ou aM_ro M_km M_n M_be M_ma M_so M_bn st8.2.2 M_ro st19 e20 hc20) k2 hK hP hD hS hA 0 rfl rfl rfl rfl hl.1 rfl (Nat.le_of_ble_eq_true rfl) ⟨Nat.zero_le _, Nat.zero_le _⟩ dX12_putNumeric_39 [0, 2, 4] rfl rfl wa_X12_numberIn (sa_eq [(aM_s, .inl (cI, 131, .inl M_s)), (aM_ou, .inl (cI, 300, .inl st8.2.1))] [1, 3] 5 rfl rfl rfl rfl rfl rfl rfl) (fun H locs hP hD hS => ?_)
      refine lv_iconst (v := 1) hx hb dX12_putNumeric_42 (by decide) ?_
      refine lv_iadd hx hb dX12_putNumeric_43 ?_
      refine lv_icmp_ne (tgt := 53) hx hb dX12_putNumeric_44 (by decide) (fun c21 => ?_) (fun c21 => ?_)
      · replace hm := if_f c21 hm
        have h9 := hE _ (Option.some.inj hm).symm
        subst h9
        exact X14_0 H locs ls hP hD hS (lv_sub hl [0, 1, 2, 3] rfl)
      · replace hm := if_t c21 hm
        refine lv_iinc (v := (st19 + 1)) (lv' := [(3, .int (st19 + 1)), (0, .ref aM), (1, .int x1), (2, .int st8.1)]) hx hb dX12_putNumeric_47 hl (k := 3) rfl rfl (by decide) rfl (fun ls hl => ?_)
        refine lv_goto (tgt := 19) hx hb dX12_putNumeric_50 (by decide) ?_
        exact hG _ (Option.some.inj hm).symm H locs ls hP hD hS (lv_sub hl [1, 2, 3, 0] rfl)
set_option maxHeartbeats 4000000 in
set_option maxRecDepth 100000 in
theorem c_X12_removeCitation (l : Launch) (D : va_G) (cI cJ cZ cS : ClassId) (aM aM_s aM_ke aM_te aM_re aM_bo aM_bn aM_sh aM_in aM_su aM_gr aM_tr aM_ou aM_ro : Nat) (M_s : Nat → Int32) (M_ke : Nat → Int32) (M_km : Int32) (M_n : Int32) (M_be : Int32) (M_ma : Int32) (M_so : Int32) (M_om : Int32) (x1 : Int32) (o : Int32 × (Nat → Int32) × (Nat → Int32) × Int32) (hm : m_X12_removeCitation M_s M_ke M_km x1 = some o) : MI l yX12_removeCitation wsX12_removeCitation rm_X12_removeCitation D (TY cI cJ cZ cS) [.ref aM, .int x1] (w_X12_removeCitation cI aM aM_s aM_ke aM_te aM_re aM_bo aM_bn aM_sh aM_in aM_su aM_gr aM_tr aM_ou aM_ro M_s M_ke M_km M_n M_be M_ma M_so M_om) (w_X12_removeCitation cI aM aM_s aM_ke aM_te aM_re aM_bo aM_bn aM_sh aM_in aM_su aM_gr aM_tr aM_ou aM_ro o.2.1 o.2.2.1 o.2.2.2 M_n M_be M_ma M_so M_om) (o.1) := by
  refine MI_of (cc := cX12_removeCitation) (maxL := 4) (by decide) rfl (Nat.le_of_ble_eq_true rfl) ?_
  intro p e s m args below meth c A Q ls H locs hx hb hml hts hown hK hA hP hD hS hl hret
  have hown : s.vm.findClass RX12 = some m.cls := hown
  have hKv : va_K D vwCl (TY cI cJ cZ cS) s := hK.1
  have hl : lv_has ls 4 [(0, .ref aM), (1, .int x1)] := hl
  have S : CallFix p m c cX12_removeCitation 4 s args wsX12_removeCitation RX12 := ⟨hx, hb, hml, hown, hts⟩
  have k1 : CallW rm_X12_removeCitation s args RX12 RX12 143 yX12_isCitation cX12_isCitation 2 (some .boolean) wsX12_isCitation rm_X12_isCitation 0 0 1 := cwV 1 hts gX12_removeCitation_X12_isCitation rfl rfl rfl (by decide +kernel) ⟨Nat.le_of_ble_eq_true rfl, Nat.le_of_ble_eq_true rfl⟩
  have k2 : CallW rm_X12_removeCitation s args RX12 RX12 105 yX12_keeps cX12_keeps 2 none wsX12_keeps rm_X12_keeps 0 0 0 := cwV 0 hts gX12_removeCitation_X12_keeps rfl rfl rfl (by decide +kernel) ⟨Nat.le_of_ble_eq_true rfl, Nat.le_of_ble_eq_true rfl⟩
  have k3 : CallW rm_X12_removeCitation s args RX12 RX12 119 yX12_cites cX12_cites 2 (some .int) wsX12_cites rm_X12_cites 0 0 1 := cwV 1 hts gX12_removeCitation_X12_cites rfl rfl rfl (by decide +kernel) ⟨Nat.le_of_ble_eq_true rfl, Nat.le_of_ble_eq_true rfl⟩
  have k4 := hts (.fieldLink RX12 7 "CitationFormatterModel" "s" "[I") (by decide +kernel)
  have k5 : ∀ w ∈ wsX120, w ∈ wsX12_removeCitation := by decide +kernel
  refine lv_aload_n hx hb dX12_removeCitation_0 rfl (lv_at hl 0 rfl) ?_
  refine lv_iload_n hx hb dX12_removeCitation_1 rfl (lv_at hl 1 rfl) ?_
  replace hm := bd_some hm
  obtain ⟨e1, hc1, hm⟩ := hm
  refine kV_i (rest := []) (ws' := (w_X12_removeCitation cI aM aM_s aM_ke aM_te aM_re aM_bo aM_bn aM_sh aM_in aM_su aM_gr aM_tr aM_ou aM_ro M_s M_ke M_km M_n M_be M_ma M_so M_om)) S (c_X12_isCitation l D cI cJ cZ cS aM aM_s aM_ke aM_te aM_re aM_bo aM_bn aM_sh aM_in aM_su aM_gr aM_tr aM_ou aM_ro M_s M_km M_n M_be M_ma M_so M_om x1 e1 hc1) k1 hK hP hD hS hA 0 rfl rfl rfl rfl hl.1 rfl (Nat.le_of_ble_eq_true rfl) ⟨Nat.zero_le _, Nat.zero_le _⟩ dX12_removeCitation_2 [0, 1] rfl rfl wa_X12_isCitation (sa_eq [(aM_ke, .inl (cI, 1048, .inl M_ke))] [2] 3 rfl rfl rfl rfl rfl rfl rfl) (fun H locs hP hD hS => ?_)
  refine lv_if_ne (tgt := 10) hx hb dX12_removeCitation_5 (by decide) (fun c2 => ?_) (fun c2 => ?_)
  · replace hm := if_f c2 hm
    refine lv_aload_n hx hb dX12_removeCitation_10 rfl (lv_at hl 0 rfl) ?_
    replace hm := bd_some hm
    obtain ⟨e3, hc3, hm⟩ := hm
    refine kV_v (rest := []) (ws' := (w_X12_removeCitation cI aM aM_s aM_ke aM_te aM_re aM_bo aM_bn aM_sh aM_in aM_su aM_gr aM_tr aM_ou aM_ro M_s e3.1 e3.2 M_n M_be M_ma M_so M_om)) S (c_X12_keeps l D cI cJ cZ cS aM aM_s aM_ke aM_te aM_re aM_bo aM_bn aM_sh aM_in aM_su aM_gr aM_tr aM_ou aM_ro M_s M_ke M_km M_n M_be M_ma M_so M_om e3 hc3) k2 hK hP hD hS hA 0 rfl rfl rfl rfl hl.1 rfl (Nat.le_of_ble_eq_true rfl) ⟨Nat.zero_le _, Nat.zero_le _⟩ dX12_removeCitation_11 [0, 1, 2] rfl rfl wa_X12_keeps (sa_eq [] [] 3 rfl rfl rfl rfl rfl rfl rfl) (fun H locs hP hD hS => ?_)
    refine lv_aload_n hx hb dX12_removeCitation_14 rfl (lv_at hl 0 rfl) ?_
    refine lv_iload_n hx hb dX12_removeCitation_15 rfl (lv_at hl 1 rfl) ?_
    replace hm := bd_some hm
    obtain ⟨e4, hc4, hm⟩ := hm
    refine kV_i (rest := []) (ws' := (w_X12_removeCitation cI aM aM_s aM_ke aM_te aM_re aM_bo aM_bn aM_sh aM_in aM_su aM_gr aM_tr aM_ou aM_ro M_s e3.1 e3.2 M_n M_be M_ma M_so M_om)) S (c_X12_cites l D cI cJ cZ cS aM aM_s aM_ke aM_te aM_re aM_bo aM_bn aM_sh aM_in aM_su aM_gr aM_tr aM_ou aM_ro M_s e3.2 M_n M_be M_ma M_so M_om x1 e4 hc4) k3 hK hP hD hS hA 0 rfl rfl rfl rfl hl.1 rfl (Nat.le_of_ble_eq_true rfl) ⟨Nat.zero_le _, Nat.zero_le _⟩ dX12_removeCitation_16 [0, 1] rfl rfl wa_X12_cites (sa_eq [(aM_ke, .inl (cI, 1048, .inl e3.1))] [2] 3 rfl rfl rfl rfl rfl rfl rfl) (fun H locs hP hD hS => ?_)
    refine lv_istore_n (lv' := [(2, .int e4), (0, .ref aM), (1, .int x1)]) hx hb dX12_removeCitation_19 rfl hl (by decide) rfl (fun ls hl => ?_)
    refine lv_aload_n hx hb dX12_removeCitation_20 rfl (lv_at hl 1 rfl) ?_
    refine va_get (D := D) (ci := 12) (v := .ref aM_s) (C := RX12) (T := TX12) (N := 19) hx hb hts k5 hown hKv hP 0 rfl rfl 0 (by decide) k4 (fun _ h9 => h9) rfl dX12_removeCitation_21 ?_
    refine lv_bipush (v := 70) hx hb dX12_removeCitation_24 (by decide) ?_
    refine lv_dup2_11 hx hb dX12_removeCitation_26 rfl rfl ?_
    replace hm := ck_some hm
    obtain ⟨h5, hm⟩ := hm
    refine va_iald hx hb hKv hP 1 0 rfl rfl h5 dX12_removeCitation_27 ?_
    refine lv_iconst (v := 1) hx hb dX12_removeCitation_28 (by decide) ?_
    refine lv_isub hx hb dX12_removeCitation_29 ?_
    replace hm := ck_some hm
    obtain ⟨h6, hm⟩ := hm
    refine va_iast hx hb hKv hP hD hS 1 0 rfl rfl h6 dX12_removeCitation_30 (fun H locs hP hD hS => ?_)
    replace hP : va_P D vwCl (w_X12_removeCitation cI aM aM_s aM_ke aM_te aM_re aM_bo aM_bn aM_sh aM_in aM_su aM_gr aM_tr aM_ou aM_ro (upd M_s (Int32.toNatClampNeg 70) ((M_s (Int32.toNatClampNeg 70)) - 1)) e3.1 e3.2 M_n M_be M_ma M_so M_om) H := hP
    replace hD : va_D A (w_X12_removeCitation cI aM aM_s aM_ke aM_te aM_re aM_bo aM_bn aM_sh aM_in aM_su aM_gr aM_tr aM_ou aM_ro (upd M_s (Int32.toNatClampNeg 70) ((M_s (Int32.toNatClampNeg 70)) - 1)) e3.1 e3.2 M_n M_be M_ma M_so M_om) := hD
    refine lv_bipush (v := 71) hx hb dX12_removeCitation_31 (by decide) ?_
    refine lv_bipush (v := 6) hx hb dX12_removeCitation_33 (by decide) ?_
    refine lv_iload_n hx hb dX12_removeCitation_35 rfl (lv_at hl 2 rfl) ?_
    refine lv_imul hx hb dX12_removeCitation_36 ?_
    refine lv_iadd hx hb dX12_removeCitation_37 ?_
    refine lv_istore_n (lv' := [(3, .int (71 + (6 * x1))), (2, .int e4), (0, .ref aM), (1, .int x1)]) hx hb dX12_removeCitation_38 rfl hl (by decide) rfl (fun ls hl => ?_)
    replace hm := bd_some hm
    obtain ⟨e7, hc7, hm⟩ := hm
    have X7_0 : ∀ (H : Heap) (locs : List Loc) (ls : Array Slot), va_P D vwCl (w_X12_removeCitation cI aM aM_s aM_ke aM_te aM_re aM_bo aM_bn aM_sh aM_in aM_su aM_gr aM_tr aM_ou aM_ro e7 e3.1 e3.2 M_n M_be M_ma M_so M_om) H → va_D A (w_X12_removeCitation cI aM aM_s aM_ke aM_te aM_re aM_bo aM_bn aM_sh aM_in aM_su aM_gr aM_tr aM_ou aM_ro e7 e3.1 e3.2 M_n M_be M_ma M_so M_om) → va_S A s.heap H locs → lv_has ls 4 [(0, .ref aM), (2, .int e4)] → W p l e rm_X12_removeCitation s m args below meth c H locs 0 0 Q (F0 m 77 ls []) := by
      intro H locs ls hP hD hS hl
      refine lv_iload_n hx hb dX12_removeCitation_77 rfl (lv_at hl 1 rfl) ?_
      have h9 := Option.some.inj hm
      subst h9
      exact hret H locs _ ls _ hP hD hS rfl dX12_removeCitation_78
    refine it_W (G := fun (st39 : Int32 × (Nat → Int32)) => ∀ (H : Heap) (locs : List Loc) (ls : Array Slot), va_P D vwCl (w_X12_removeCitation cI aM aM_s aM_ke aM_te aM_re aM_bo aM_bn aM_sh aM_in aM_su aM_gr aM_tr aM_ou aM_ro st39.2 e3.1 e3.2 M_n M_be M_ma M_so M_om) H → va_D A (w_X12_removeCitation cI aM aM_s aM_ke aM_te aM_re aM_bo aM_bn aM_sh aM_in aM_su aM_gr aM_tr aM_ou aM_ro st39.2 e3.1 e3.2 M_n M_be M_ma M_so M_om) → va_S A s.heap H locs → lv_has ls 4 [(0, .ref aM), (2, .int e4), (3, .int st39.1)] → W p l e rm_X12_removeCitation s m args below meth c H locs 0 0 Q (F0 m 39 ls [])) (e := e7) (fun st39 x hm hG hE => ?_) fu _ hc7 H locs ls hP hD hS (lv_sub hl [2, 1, 0] rfl)
    intro H locs ls hP hD hS hl
    refine lv_iload_n hx hb dX12_removeCitation_39 rfl (lv_at hl 2 rfl) ?_
    refine lv_bipush (v := 71) hx hb dX12_removeCitation_40 (by decide) ?_
    refine lv_bipush (v := 6) hx hb dX12_removeCitation_42 (by decide) ?_
    refine lv_aload_n hx hb dX12_removeCitation_44 rfl (lv_at hl 0 rfl) ?_
    refine va_get (D := D) (ci := 12) (v := .ref aM_s) (C := RX12) (T := TX12) (N := 19) hx hb hts k5 hown hKv hP 0 rfl rfl 0 (by decide) k4 (fun _ h9 => h9) rfl dX12_removeCitation_45 ?_
    refine lv_bipush (v := 70) hx hb dX12_removeCitation_48 (by decide) ?_
    replace hm := ck_some hm
    obtain ⟨h8, hm⟩ := hm
    refine va_iald hx hb hKv hP 1 0 rfl rfl h8 dX12_removeCitation_50 ?_
    refine lv_imul hx hb dX12_removeCitation_51 ?_
    refine lv_iadd hx hb dX12_removeCitation_52 ?_
    refine lv_icmp_ge (tgt := 77) hx hb dX12_removeCitation_53 (by decide) (fun c9 => ?_) (fun c9 => ?_)
    · replace hm := if_t c9 hm
      have h9 := hE _ (Option.some.inj hm).symm
      subst h9
      exact X7_0 H locs ls hP hD hS (lv_sub hl [0, 1] rfl)
    · replace hm := if_f c9 hm
      refine lv_aload_n hx hb dX12_removeCitation_56 rfl (lv_at hl 0 rfl) ?_
      refine va_get (D := D) (ci := 12) (v := .ref aM_s) (C := RX12) (T := TX12) (N := 19) hx hb hts k5 hown hKv hP 0 rfl rfl 0 (by decide) k4 (fun _ h9 => h9) rfl dX12_removeCitation_57 ?_
      refine lv_iload_n hx hb dX12_removeCitation_60 rfl (lv_at hl 2 rfl) ?_
      refine lv_aload_n hx hb dX12_removeCitation_61 rfl (lv_at hl 0 rfl) ?_
      refine va_get (D := D) (ci := 12) (v := .ref aM_s) (C := RX12) (T := TX12) (N := 19) hx hb hts k5 hown hKv hP 0 rfl rfl 0 (by decide) k4 (fun _ h9 => h9) rfl dX12_removeCitation_62 ?_
      refine lv_iload_n hx hb dX12_removeCitation_65 rfl (lv_at hl 2 rfl) ?_
      refine lv_bipush (v := 6) hx hb dX12_removeCitation_66 (by decide) ?_
      refine lv_iadd hx hb dX12_removeCitation_68 ?_
      replace hm := ck_some hm
      obtain ⟨h10, hm⟩ := hm
      refine va_iald hx hb hKv hP 1 0 rfl rfl h10 dX12_removeCitation_69 ?_
      replace hm := ck_some hm
      obtain ⟨h11, hm⟩ := hm
      refine va_iast hx hb hKv hP hD hS 1 0 rfl rfl h11 dX12_removeCitation_70 (fun H locs hP hD hS => ?_)
      replace hP : va_P D vwCl (w_X12_removeCitation cI aM aM_s aM_ke aM_te aM_re aM_bo aM_bn aM_sh aM_in aM_su aM_gr aM_tr aM_ou aM_ro (upd st39.2 (Int32.toNatClampNeg st39.1) (st39.2 (Int32.toNatClampNeg (st39.1 + 6)))) e3.1 e3.2 M_n M_be M_ma M_so M_om) H := hP
      replace hD : va_D A (w_X12_removeCitation cI aM aM_s aM_ke aM_te aM_re aM_bo aM_bn aM_sh aM_in aM_su aM_gr aM_tr aM_ou aM_ro (upd st39.2 (Int32.toNatClampNeg st39.1) (st39.2 (Int32.toNatClampNeg (st39.1 + 6)))) e3.1 e3.2 M_n M_be M_ma M_so M_om) := hD
      refine lv_iinc (v := (st39.1 + 1)) (lv' := [(3, .int (st39.1 + 1)), (0, .ref aM), (2, .int e4)]) hx hb dX12_removeCitation_71 hl (k := 2) rfl rfl (by decide) rfl (fun ls hl => ?_)
      refine lv_goto (tgt := 39) hx hb dX12_removeCitation_74 (by decide) ?_
      exact hG _ (Option.some.inj hm).symm H locs ls hP hD hS (lv_sub hl [1, 2, 0] rfl)
  · replace hm := if_t c2 hm
    refine lv_iconst (v := (-1)) hx hb dX12_removeCitation_8 (by decide) ?_
    have h9 := Option.some.inj hm
    subst h9
    exact hret H locs _ ls _ hP hD hS rfl dX12_removeCitation_9
set_option maxHeartbeats 4000000 in
set_option maxRecDepth 100000 in
theorem c_X12_removeWork (l : Launch) (D : va_G) (cI cJ cZ cS : ClassId) (aM aM_s aM_ke aM_te aM_re aM_bo aM_bn aM_sh aM_in aM_su aM_gr aM_tr aM_ou aM_ro : Nat) (M_s : Nat → Int32) (M_ke : Nat → Int32) (M_km : Int32) (M_n : Int32) (M_be : Int32) (M_ma : Int32) (M_so : Int32) (M_om : Int32) (x1 : Int32) (o : Int32 × (Nat → Int32) × (Nat → Int32) × Int32) (hm : m_X12_removeWork M_s M_ke M_km x1 = some o) : MI l yX12_removeWork wsX12_removeWork rm_X12_removeWork D (TY cI cJ cZ cS) [.ref aM, .int x1] (w_X12_removeWork cI aM aM_s aM_ke aM_te aM_re aM_bo aM_bn aM_sh aM_in aM_su aM_gr aM_tr aM_ou aM_ro M_s M_ke M_km M_n M_be M_ma M_so M_om) (w_X12_removeWork cI aM aM_s aM_ke aM_te aM_re aM_bo aM_bn aM_sh aM_in aM_su aM_gr aM_tr aM_ou aM_ro o.2.1 o.2.2.1 o.2.2.2 M_n M_be M_ma M_so M_om) (o.1) := by
  refine MI_of (cc := cX12_removeWork) (maxL := 8) (by decide) rfl (Nat.le_of_ble_eq_true rfl) ?_
  intro p e s m args below meth c A Q ls H locs hx hb hml hts hown hK hA hP hD hS hl hret
  have hown : s.vm.findClass RX12 = some m.cls := hown
  have hKv : va_K D vwCl (TY cI cJ cZ cS) s := hK.1
  have hl : lv_has ls 8 [(0, .ref aM), (1, .int x1)] := hl
  have S : CallFix p m c cX12_removeWork 8 s args wsX12_removeWork RX12 := ⟨hx, hb, hml, hown, hts⟩
  have k1 : CallW rm_X12_removeWork s args RX12 RX12 116 yX12_isWork cX12_isWork 2 (some .boolean) wsX12_isWork rm_X12_isWork 0 0 1 := cwV 1 hts gX12_removeWork_X12_isWork rfl rfl rfl (by decide +kernel) ⟨Nat.le_of_ble_eq_true rfl, Nat.le_of_ble_eq_true rfl⟩
  have k2 : CallW rm_X12_removeWork s args RX12 RX12 105 yX12_keeps cX12_keeps 2 none wsX12_keeps rm_X12_keeps 0 0 0 := cwV 0 hts gX12_removeWork_X12_keeps rfl rfl rfl (by decide +kernel) ⟨Nat.le_of_ble_eq_true rfl, Nat.le_of_ble_eq_true rfl⟩
  have k3 := hts (.fieldLink RX12 7 "CitationFormatterModel" "s" "[I") (by decide +kernel)
  have k4 : ∀ w ∈ wsX120, w ∈ wsX12_removeWork := by decide +kernel
  have k5 : CallW rm_X12_removeWork s args RX12 RX12 119 yX12_cites cX12_cites 2 (some .int) wsX12_cites rm_X12_cites 0 0 1 := cwV 1 hts gX12_removeWork_X12_cites rfl rfl rfl (by decide +kernel) ⟨Nat.le_of_ble_eq_true rfl, Nat.le_of_ble_eq_true rfl⟩
  have k6 : CallW rm_X12_removeWork s args RX12 RX12 122 yX12_cited cX12_cited 3 (some .int) wsX12_cited rm_X12_cited 0 0 2 := cwV 2 hts gX12_removeWork_X12_cited rfl rfl rfl (by decide +kernel) ⟨Nat.le_of_ble_eq_true rfl, Nat.le_of_ble_eq_true rfl⟩
  refine lv_aload_n hx hb dX12_removeWork_0 rfl (lv_at hl 0 rfl) ?_
  refine lv_iload_n hx hb dX12_removeWork_1 rfl (lv_at hl 1 rfl) ?_
  replace hm := bd_some hm
  obtain ⟨e1, hc1, hm⟩ := hm
  refine kV_i (rest := []) (ws' := (w_X12_removeWork cI aM aM_s aM_ke aM_te aM_re aM_bo aM_bn aM_sh aM_in aM_su aM_gr aM_tr aM_ou aM_ro M_s M_ke M_km M_n M_be M_ma M_so M_om)) S (c_X12_isWork l D cI cJ cZ cS aM aM_s aM_ke aM_te aM_re aM_bo aM_bn aM_sh aM_in aM_su aM_gr aM_tr aM_ou aM_ro M_s M_km M_n M_be M_ma M_so M_om x1 e1 hc1) k1 hK hP hD hS hA 0 rfl rfl rfl rfl hl.1 rfl (Nat.le_of_ble_eq_true rfl) ⟨Nat.zero_le _, Nat.zero_le _⟩ dX12_removeWork_2 [0, 1] rfl rfl wa_X12_isWork (sa_eq [(aM_ke, .inl (cI, 1048, .inl M_ke))] [2] 3 rfl rfl rfl rfl rfl rfl rfl) (fun H locs hP hD hS => ?_)
  refine lv_if_ne (tgt := 10) hx hb dX12_removeWork_5 (by decide) (fun c2 => ?_) (fun c2 => ?_)
  · replace hm := if_f c2 hm
    refine lv_aload_n hx hb dX12_removeWork_10 rfl (lv_at hl 0 rfl) ?_
    replace hm := bd_some hm
    obtain ⟨e3, hc3, hm⟩ := hm
    refine kV_v (rest := []) (ws' := (w_X12_removeWork cI aM aM_s aM_ke aM_te aM_re aM_bo aM_bn aM_sh aM_in aM_su aM_gr aM_tr aM_ou aM_ro M_s e3.1 e3.2 M_n M_be M_ma M_so M_om)) S (c_X12_keeps l D cI cJ cZ cS aM aM_s aM_ke aM_te aM_re aM_bo aM_bn aM_sh aM_in aM_su aM_gr aM_tr aM_ou aM_ro M_s M_ke M_km M_n M_be M_ma M_so M_om e3 hc3) k2 hK hP hD hS hA 0 rfl rfl rfl rfl hl.1 rfl (Nat.le_of_ble_eq_true rfl) ⟨Nat.zero_le _, Nat.zero_le _⟩ dX12_removeWork_11 [0, 1, 2] rfl rfl wa_X12_keeps (sa_eq [] [] 3 rfl rfl rfl rfl rfl rfl rfl) (fun H locs hP hD hS => ?_)
    refine lv_aload_n hx hb dX12_removeWork_14 rfl (lv_at hl 0 rfl) ?_
    refine va_get (D := D) (ci := 12) (v := .ref aM_s) (C := RX12) (T := TX12) (N := 19) hx hb hts k4 hown hKv hP 0 rfl rfl 0 (by decide) k3 (fun _ h9 => h9) rfl dX12_removeWork_15 ?_
    refine lv_iconst (v := 0) hx hb dX12_removeWork_18 (by decide) ?_
    refine lv_dup2_11 hx hb dX12_removeWork_19 rfl rfl ?_
    replace hm := ck_some hm
    obtain ⟨h4, hm⟩ := hm
    refine va_iald hx hb hKv hP 1 0 rfl rfl h4 dX12_removeWork_20 ?_
    refine lv_iconst (v := 1) hx hb dX12_removeWork_21 (by decide) ?_
    refine lv_isub hx hb dX12_removeWork_22 ?_
    replace hm := ck_some hm
    obtain ⟨h5, hm⟩ := hm
    refine va_iast hx hb hKv hP hD hS 1 0 rfl rfl h5 dX12_removeWork_23 (fun H locs hP hD hS => ?_)
    replace hP : va_P D vwCl (w_X12_removeWork cI aM aM_s aM_ke aM_te aM_re aM_bo aM_bn aM_sh aM_in aM_su aM_gr aM_tr aM_ou aM_ro (upd M_s (Int32.toNatClampNeg 0) ((M_s (Int32.toNatClampNeg 0)) - 1)) e3.1 e3.2 M_n M_be M_ma M_so M_om) H := hP
    replace hD : va_D A (w_X12_removeWork cI aM aM_s aM_ke aM_te aM_re aM_bo aM_bn aM_sh aM_in aM_su aM_gr aM_tr aM_ou aM_ro (upd M_s (Int32.toNatClampNeg 0) ((M_s (Int32.toNatClampNeg 0)) - 1)) e3.1 e3.2 M_n M_be M_ma M_so M_om) := hD
    refine lv_iconst (v := 1) hx hb dX12_removeWork_24 (by decide) ?_
    refine lv_bipush (v := 7) hx hb dX12_removeWork_25 (by decide) ?_
    refine lv_iload_n hx hb dX12_removeWork_27 rfl (lv_at hl 1 rfl) ?_
    refine lv_imul hx hb dX12_removeWork_28 ?_
    refine lv_iadd hx hb dX12_removeWork_29 ?_
    refine lv_istore_n (lv' := [(2, .int (1 + (7 * x1))), (0, .ref aM), (1, .int x1)]) hx hb dX12_removeWork_30 rfl hl (by decide) rfl (fun ls hl => ?_)
    replace hm := bd_some hm
    obtain ⟨e6, hc6, hm⟩ := hm
    have X6_0 : ∀ (H : Heap) (locs : List Loc) (ls : Array Slot), va_P D vwCl (w_X12_removeWork cI aM aM_s aM_ke aM_te aM_re aM_bo aM_bn aM_sh aM_in aM_su aM_gr aM_tr aM_ou aM_ro e6 e3.1 e3.2 M_n M_be M_ma M_so M_om) H → va_D A (w_X12_removeWork cI aM aM_s aM_ke aM_te aM_re aM_bo aM_bn aM_sh aM_in aM_su aM_gr aM_tr aM_ou aM_ro e6 e3.1 e3.2 M_n M_be M_ma M_so M_om) → va_S A s.heap H locs → lv_has ls 8 [(0, .ref aM), (1, .int x1)] → W p l e rm_X12_removeWork s m args below meth c H locs 0 0 Q (F0 m 67 ls []) := by
      intro H locs ls hP hD hS hl
      refine lv_iconst (v := 0) hx hb dX12_removeWork_67 (by decide) ?_
      refine lv_istore_n (lv' := [(2, .int 0), (0, .ref aM), (1, .int x1)]) hx hb dX12_removeWork_68 rfl hl (by decide) rfl (fun ls hl => ?_)
      refine lv_iconst (v := 0) hx hb dX12_removeWork_69 (by decide) ?_
      refine lv_istore_n (lv' := [(3, .int 0), (2, .int 0), (0, .ref aM), (1, .int x1)]) hx hb dX12_removeWork_70 rfl hl (by decide) rfl (fun ls hl => ?_)
      replace hm := bd_some hm
      obtain ⟨e7, hc7, hm⟩ := hm
      have X7_0 : ∀ (H : Heap) (locs : List Loc) (ls : Array Slot), va_P D vwCl (w_X12_removeWork cI aM aM_s aM_ke aM_te aM_re aM_bo aM_bn aM_sh aM_in aM_su aM_gr aM_tr aM_ou aM_ro e7.2 e3.1 e3.2 M_n M_be M_ma M_so M_om) H → va_D A (w_X12_removeWork cI aM aM_s aM_ke aM_te aM_re aM_bo aM_bn aM_sh aM_in aM_su aM_gr aM_tr aM_ou aM_ro e7.2 e3.1 e3.2 M_n M_be M_ma M_so M_om) → va_S A s.heap H locs → lv_has ls 8 [(0, .ref aM), (2, .int e7.1)] → W p l e rm_X12_removeWork s m args below meth c H locs 0 0 Q (F0 m 191 ls []) := by
        intro H locs ls hP hD hS hl
        refine lv_aload_n hx hb dX12_removeWork_191 rfl (lv_at hl 0 rfl) ?_
        refine va_get (D := D) (ci := 12) (v := .ref aM_s) (C := RX12) (T := TX12) (N := 19) hx hb hts k4 hown hKv hP 0 rfl rfl 0 (by decide) k3 (fun _ h9 => h9) rfl dX12_removeWork_192 ?_
        refine lv_bipush (v := 70) hx hb dX12_removeWork_195 (by decide) ?_
        refine lv_iload_n hx hb dX12_removeWork_197 rfl (lv_at hl 1 rfl) ?_
        replace hm := ck_some hm
        obtain ⟨h8, hm⟩ := hm
        refine va_iast hx hb hKv hP hD hS 1 0 rfl rfl h8 dX12_removeWork_198 (fun H locs hP hD hS => ?_)
        replace hP : va_P D vwCl (w_X12_removeWork cI aM aM_s aM_ke aM_te aM_re aM_bo aM_bn aM_sh aM_in aM_su aM_gr aM_tr aM_ou aM_ro (upd e7.2 (Int32.toNatClampNeg 70) e7.1) e3.1 e3.2 M_n M_be M_ma M_so M_om) H := hP
        replace hD : va_D A (w_X12_removeWork cI aM aM_s aM_ke aM_te aM_re aM_bo aM_bn aM_sh aM_in aM_su aM_gr aM_tr aM_ou aM_ro (upd e7.2 (Int32.toNatClampNeg 70) e7.1) e3.1 e3.2 M_n M_be M_ma M_so M_om) := hD
        refine lv_iload_n hx hb dX12_removeWork_199 rfl (lv_at hl 1 rfl) ?_
        have h9 := Option.some.inj hm
        subst h9
        exact hret H locs _ ls _ hP hD hS rfl dX12_removeWork_200
      refine it_W (G := fun (st71 : Int32 × Int32 × (Nat → Int32)) => ∀ (H : Heap) (locs : List Loc) (ls : Array Slot), va_P D vwCl (w_X12_removeWork cI aM aM_s aM_ke aM_te aM_re aM_bo aM_bn aM_sh aM_in aM_su aM_gr aM_tr aM_ou aM_ro st71.2.2 e3.1 e3.2 M_n M_be M_ma M_so M_om) H → va_D A (w_X12_removeWork cI aM aM_s aM_ke aM_te aM_re aM_bo aM_bn aM_sh aM_in aM_su aM_gr aM_tr aM_ou aM_ro st71.2.2 e3.1 e3.2 M_n M_be M_ma M_so M_om) → va_S A s.heap H locs → lv_has ls 8 [(0, .ref aM), (1, .int x1), (2, .int st71.1), (3, .int st71.2.1)] → W p l e rm_X12_removeWork s m args below meth c H locs 0 0 Q (F0 m 71 ls [])) (e := e7) (fun st71 x hm hG hE => ?_) fu _ hc7 H locs ls hP hD hS (lv_sub hl [2, 3, 1, 0] rfl)
      intro H locs ls hP hD hS hl
      have J183 : ∀ (x3_j183 : Int32) (y0_j183 : Int32) (y1_j183 : Int32) (M_s_j183 : Nat → Int32), (m_X12_removeWork_J183 x1 x3_j183 y0_j183 y1_j183 M_s_j183 = some x) → ∀ (H : Heap) (locs : List Loc) (ls : Array Slot), va_P D vwCl (w_X12_removeWork cI aM aM_s aM_ke aM_te aM_re aM_bo aM_bn aM_sh aM_in aM_su aM_gr aM_tr aM_ou aM_ro M_s_j183 e3.1 e3.2 M_n M_be M_ma M_so M_om) H → va_D A (w_X12_removeWork cI aM aM_s aM_ke aM_te aM_re aM_bo aM_bn aM_sh aM_in aM_su aM_gr aM_tr aM_ou aM_ro M_s_j183 e3.1 e3.2 M_n M_be M_ma M_so M_om) → va_S A s.heap H locs → lv_has ls 8 [(0, .ref aM), (1, .int x1), (3, .int x3_j183)] → W p l e rm_X12_removeWork s m args below meth c H locs 0 0 Q (F0 m 183 ls [.int y0_j183, .int y1_j183]) := by
        intro x3_j183 y0_j183 y1_j183 M_s_j183 hm H locs ls hP hD hS hl
        refine lv_iadd hx hb dX12_removeWork_183 ?_
        refine lv_istore_n (lv' := [(2, .int (y1_j183 + y0_j183)), (0, .ref aM), (1, .int x1), (3, .int x3_j183)]) hx hb dX12_removeWork_184 rfl hl (by decide) rfl (fun ls hl => ?_)
        refine lv_iinc (v := (x3_j183 + 1)) (lv' := [(3, .int (x3_j183 + 1)), (2, .int (y1_j183 + y0_j183)), (0, .ref aM), (1, .int x1)]) hx hb dX12_removeWork_185 hl (k := 3) rfl rfl (by decide) rfl (fun ls hl => ?_)
        refine lv_goto (tgt := 71) hx hb dX12_removeWork_188 (by decide) ?_
        exact hG _ (Option.some.inj hm).symm H locs ls hP hD hS (lv_sub hl [2, 3, 1, 0] rfl)
      refine lv_iload_n hx hb dX12_removeWork_71 rfl (lv_at hl 3 rfl) ?_
      refine lv_aload_n hx hb dX12_removeWork_72 rfl (lv_at hl 0 rfl) ?_
      refine va_get (D := D) (ci := 12) (v := .ref aM_s) (C := RX12) (T := TX12) (N := 19) hx hb hts k4 hown hKv hP 0 rfl rfl 0 (by decide) k3 (fun _ h9 => h9) rfl dX12_removeWork_73 ?_
      refine lv_bipush (v := 70) hx hb dX12_removeWork_76 (by decide) ?_
      replace hm := ck_some hm
      obtain ⟨h9, hm⟩ := hm
      refine va_iald hx hb hKv hP 1 0 rfl rfl h9 dX12_removeWork_78 ?_
      refine lv_icmp_ge (tgt := 191) hx hb dX12_removeWork_79 (by decide) (fun c10 => ?_) (fun c10 => ?_)
      · replace hm := if_t c10 hm
        have h9 := hE _ (Option.some.inj hm).symm
        subst h9
        exact X7_0 H locs ls hP hD hS (lv_sub hl [0, 2] rfl)
      · replace hm := if_f c10 hm
        refine lv_iconst (v := 0) hx hb dX12_removeWork_82 (by decide) ?_
        refine lv_istore (lv' := [(4, .int 0), (0, .ref aM), (1, .int x1), (2, .int st71.1), (3, .int st71.2.1)]) hx hb dX12_removeWork_83 hl (by decide) rfl (fun ls hl => ?_)
        refine lv_aload_n hx hb dX12_removeWork_85 rfl (lv_at hl 1 rfl) ?_
        refine lv_iload_n hx hb dX12_removeWork_86 rfl (lv_at hl 4 rfl) ?_
        replace hm := bd_some hm
        obtain ⟨e11, hc11, hm⟩ := hm
        refine kV_i (rest := []) (ws' := (w_X12_removeWork cI aM aM_s aM_ke aM_te aM_re aM_bo aM_bn aM_sh aM_in aM_su aM_gr aM_tr aM_ou aM_ro st71.2.2 e3.1 e3.2 M_n M_be M_ma M_so M_om)) S (c_X12_cites l D cI cJ cZ cS aM aM_s aM_ke aM_te aM_re aM_bo aM_bn aM_sh aM_in aM_su aM_gr aM_tr aM_ou aM_ro st71.2.2 e3.2 M_n M_be M_ma M_so M_om st71.2.1 e11 hc11) k5 hK hP hD hS hA 0 rfl rfl rfl rfl hl.1 rfl (Nat.le_of_ble_eq_true rfl) ⟨Nat.zero_le _, Nat.zero_le _⟩ dX12_removeWork_87 [0, 1] rfl rfl wa_X12_cites (sa_eq [(aM_ke, .inl (cI, 1048, .inl e3.1))] [2] 3 rfl rfl rfl rfl rfl rfl rfl) (fun H locs hP hD hS => ?_)
        refine lv_istore (lv' := [(5, .int e11), (4, .int 0), (0, .ref aM), (1, .int x1), (2, .int st71.1), (3, .int st71.2.1)]) hx hb dX12_removeWork_90 hl (by decide) rfl (fun ls hl => ?_)
        refine lv_iconst (v := 0) hx hb dX12_removeWork_92 (by decide) ?_
        refine lv_istore (lv' := [(6, .int 0), (5, .int e11), (4, .int 0), (0, .ref aM), (1, .int x1), (2, .int st71.1), (3, .int st71.2.1)]) hx hb dX12_removeWork_93 hl (by decide) rfl (fun ls hl => ?_)
        replace hm := bd_some hm
        obtain ⟨e12, hc12, hm⟩ := hm
        have X12_0 : ∀ (H : Heap) (locs : List Loc) (ls : Array Slot), va_P D vwCl (w_X12_removeWork cI aM aM_s aM_ke aM_te aM_re aM_bo aM_bn aM_sh aM_in aM_su aM_gr aM_tr aM_ou aM_ro e12.2 e3.1 e3.2 M_n M_be M_ma M_so M_om) H → va_D A (w_X12_removeWork cI aM aM_s aM_ke aM_te aM_re aM_bo aM_bn aM_sh aM_in aM_su aM_gr aM_tr aM_ou aM_ro e12.2 e3.1 e3.2 M_n M_be M_ma M_so M_om) → va_S A s.heap H locs → lv_has ls 8 [(0, .ref aM), (1, .int x1), (2, .int st71.1), (3, .int st71.2.1), (4, .int e12.1)] → W p l e rm_X12_removeWork s m args below meth c H locs 0 0 Q (F0 m 158 ls []) := by
          intro H locs ls hP hD hS hl
          refine lv_aload_n hx hb dX12_removeWork_158 rfl (lv_at hl 0 rfl) ?_
          refine va_get (D := D) (ci := 12) (v := .ref aM_s) (C := RX12) (T := TX12) (N := 19) hx hb hts k4 hown hKv hP 0 rfl rfl 0 (by decide) k3 (fun _ h9 => h9) rfl dX12_removeWork_159 ?_
          refine lv_bipush (v := 71) hx hb dX12_removeWork_162 (by decide) ?_
          refine lv_bipush (v := 6) hx hb dX12_removeWork_164 (by decide) ?_
          refine lv_iload_n hx hb dX12_removeWork_166 rfl (lv_at hl 2 rfl) ?_
          refine lv_imul hx hb dX12_removeWork_167 ?_
          refine lv_iadd hx hb dX12_removeWork_168 ?_
          refine lv_iload hx hb dX12_removeWork_169 (lv_at hl 4 rfl) ?_
          replace hm := ck_some hm
          obtain ⟨h13, hm⟩ := hm
          refine va_iast hx hb hKv hP hD hS 1 0 rfl rfl h13 dX12_removeWork_171 (fun H locs hP hD hS => ?_)
          replace hP : va_P D vwCl (w_X12_removeWork cI aM aM_s aM_ke aM_te aM_re aM_bo aM_bn aM_sh aM_in aM_su aM_gr aM_tr aM_ou aM_ro (upd e12.2 (Int32.toNatClampNeg (71 + (6 * st71.1))) e12.1) e3.1 e3.2 M_n M_be M_ma M_so M_om) H := hP
          replace hD : va_D A (w_X12_removeWork cI aM aM_s aM_ke aM_te aM_re aM_bo aM_bn aM_sh aM_in aM_su aM_gr aM_tr aM_ou aM_ro (upd e12.2 (Int32.toNatClampNeg (71 + (6 * st71.1))) e12.1) e3.1 e3.2 M_n M_be M_ma M_so M_om) := hD
          refine lv_iload_n hx hb dX12_removeWork_172 rfl (lv_at hl 2 rfl) ?_
          refine lv_iload hx hb dX12_removeWork_173 (lv_at hl 4 rfl) ?_
          refine lv_if_le (tgt := 182) hx hb dX12_removeWork_175 (by decide) (fun c14 => ?_) (fun c14 => ?_)
          · replace hm := if_t c14 hm
            refine lv_iconst (v := 0) hx hb dX12_removeWork_182 (by decide) ?_
            exact J183 st71.2.1 0 st71.1 (upd e12.2 (Int32.toNatClampNeg (71 + (6 * st71.1))) e12.1) hm H locs ls hP hD hS (lv_sub hl [0, 1, 3] rfl)
          · replace hm := if_f c14 hm
            refine lv_iconst (v := 1) hx hb dX12_removeWork_178 (by decide) ?_
            refine lv_goto (tgt := 183) hx hb dX12_removeWork_179 (by decide) ?_
            exact J183 st71.2.1 1 st71.1 (upd e12.2 (Int32.toNatClampNeg (71 + (6 * st71.1))) e12.1) hm H locs ls hP hD hS (lv_sub hl [0, 1, 3] rfl)
        refine it_W (G := fun (st95 : Int32 × Int32 × (Nat → Int32)) => ∀ (H : Heap) (locs : List Loc) (ls : Array Slot), va_P D vwCl (w_X12_removeWork cI aM aM_s aM_ke aM_te aM_re aM_bo aM_bn aM_sh aM_in aM_su aM_gr aM_tr aM_ou aM_ro st95.2.2 e3.1 e3.2 M_n M_be M_ma M_so M_om) H → va_D A (w_X12_removeWork cI aM aM_s aM_ke aM_te aM_re aM_bo aM_bn aM_sh aM_in aM_su aM_gr aM_tr aM_ou aM_ro st95.2.2 e3.1 e3.2 M_n M_be M_ma M_so M_om) → va_S A s.heap H locs → lv_has ls 8 [(0, .ref aM), (1, .int x1), (2, .int st71.1), (3, .int st71.2.1), (4, .int st95.1), (5, .int e11), (6, .int st95.2.1)] → W p l e rm_X12_removeWork s m args below meth c H locs 0 0 Q (F0 m 95 ls [])) (e := e12) (fun st95 x hm hG hE => ?_) fu _ hc12 H locs ls hP hD hS (lv_sub hl [3, 4, 5, 6, 2, 1, 0] rfl)
        intro H locs ls hP hD hS hl
        have J152 : ∀ (x4_j152 : Int32) (x6_j152 : Int32) (M_s_j152 : Nat → Int32), (m_X12_removeWork_J152 x1 st71.1 st71.2.1 x4_j152 e11 x6_j152 M_s_j152 = some x) → ∀ (H : Heap) (locs : List Loc) (ls : Array Slot), va_P D vwCl (w_X12_removeWork cI aM aM_s aM_ke aM_te aM_re aM_bo aM_bn aM_sh aM_in aM_su aM_gr aM_tr aM_ou aM_ro M_s_j152 e3.1 e3.2 M_n M_be M_ma M_so M_om) H → va_D A (w_X12_removeWork cI aM aM_s aM_ke aM_te aM_re aM_bo aM_bn aM_sh aM_in aM_su aM_gr aM_tr aM_ou aM_ro M_s_j152 e3.1 e3.2 M_n M_be M_ma M_so M_om) → va_S A s.heap H locs → lv_has ls 8 [(0, .ref aM), (1, .int x1), (2, .int st71.1), (3, .int st71.2.1), (4, .int x4_j152), (5, .int e11), (6, .int x6_j152)] → W p l e rm_X12_removeWork s m args below meth c H locs 0 0 Q (F0 m 152 ls []) := by
          intro x4_j152 x6_j152 M_s_j152 hm H locs ls hP hD hS hl
          refine lv_iinc (v := (x6_j152 + 1)) (lv' := [(6, .int (x6_j152 + 1)), (0, .ref aM), (1, .int x1), (2, .int st71.1), (3, .int st71.2.1), (4, .int x4_j152), (5, .int e11)]) hx hb dX12_removeWork_152 hl (k := 6) rfl rfl (by decide) rfl (fun ls hl => ?_)
          refine lv_goto (tgt := 95) hx hb dX12_removeWork_155 (by decide) ?_
          exact hG _ (Option.some.inj hm).symm H locs ls hP hD hS (lv_sub hl [1, 2, 3, 4, 5, 6, 0] rfl)
        have J148 : ∀ (x4_j148 : Int32) (x6_j148 : Int32) (y0_j148 : Int32) (y1_j148 : Int32) (M_s_j148 : Nat → Int32), (m_X12_removeWork_J148 x1 st71.1 st71.2.1 x4_j148 e11 x6_j148 y0_j148 y1_j148 M_s_j148 = some x) → ∀ (H : Heap) (locs : List Loc) (ls : Array Slot), va_P D vwCl (w_X12_removeWork cI aM aM_s aM_ke aM_te aM_re aM_bo aM_bn aM_sh aM_in aM_su aM_gr aM_tr aM_ou aM_ro M_s_j148 e3.1 e3.2 M_n M_be M_ma M_so M_om) H → va_D A (w_X12_removeWork cI aM aM_s aM_ke aM_te aM_re aM_bo aM_bn aM_sh aM_in aM_su aM_gr aM_tr aM_ou aM_ro M_s_j148 e3.1 e3.2 M_n M_be M_ma M_so M_om) → va_S A s.heap H locs → lv_has ls 8 [(0, .ref aM), (1, .int x1), (2, .int st71.1), (3, .int st71.2.1), (4, .int x4_j148), (5, .int e11), (6, .int x6_j148)] → W p l e rm_X12_removeWork s m args below meth c H locs 0 0 Q (F0 m 148 ls [.int y0_j148, .int y1_j148, .ref aM_s]) := by
          intro x4_j148 x6_j148 y0_j148 y1_j148 M_s_j148 hm H locs ls hP hD hS hl
          replace hm := ck_some hm
          obtain ⟨h15, hm⟩ := hm
          refine va_iast hx hb hKv hP hD hS 1 0 rfl rfl h15 dX12_removeWork_148 (fun H locs hP hD hS => ?_)
          replace hP : va_P D vwCl (w_X12_removeWork cI aM aM_s aM_ke aM_te aM_re aM_bo aM_bn aM_sh aM_in aM_su aM_gr aM_tr aM_ou aM_ro (upd M_s_j148 (Int32.toNatClampNeg y1_j148) y0_j148) e3.1 e3.2 M_n M_be M_ma M_so M_om) H := hP
          replace hD : va_D A (w_X12_removeWork cI aM aM_s aM_ke aM_te aM_re aM_bo aM_bn aM_sh aM_in aM_su aM_gr aM_tr aM_ou aM_ro (upd M_s_j148 (Int32.toNatClampNeg y1_j148) y0_j148) e3.1 e3.2 M_n M_be M_ma M_so M_om) := hD
          refine lv_iinc (v := (x4_j148 + 1)) (lv' := [(4, .int (x4_j148 + 1)), (0, .ref aM), (1, .int x1), (2, .int st71.1), (3, .int st71.2.1), (5, .int e11), (6, .int x6_j148)]) hx hb dX12_removeWork_149 hl (k := 4) rfl rfl (by decide) rfl (fun ls hl => ?_)
          exact J152 (x4_j148 + 1) x6_j148 (upd M_s_j148 (Int32.toNatClampNeg y1_j148) y0_j148) hm H locs ls hP hD hS (lv_sub hl [1, 2, 3, 4, 0, 5, 6] rfl)
        refine lv_iload hx hb dX12_removeWork_95 (lv_at hl 6 rfl) ?_
        refine lv_iload hx hb dX12_removeWork_97 (lv_at hl 5 rfl) ?_
        refine lv_icmp_ge (tgt := 158) hx hb dX12_removeWork_99 (by decide) (fun c16 => ?_) (fun c16 => ?_)
        · replace hm := if_t c16 hm
          have h9 := hE _ (Option.some.inj hm).symm
          subst h9
          exact X12_0 H locs ls hP hD hS (lv_sub hl [0, 1, 2, 3, 4] rfl)
        · replace hm := if_f c16 hm
          refine lv_aload_n hx hb dX12_removeWork_102 rfl (lv_at hl 0 rfl) ?_
          refine lv_iload_n hx hb dX12_removeWork_103 rfl (lv_at hl 3 rfl) ?_
          refine lv_iload hx hb dX12_removeWork_104 (lv_at hl 6 rfl) ?_
          replace hm := bd_some hm
          obtain ⟨e17, hc17, hm⟩ := hm
          refine kV_i (rest := []) (ws' := (w_X12_removeWork cI aM aM_s aM_ke aM_te aM_re aM_bo aM_bn aM_sh aM_in aM_su aM_gr aM_tr aM_ou aM_ro st95.2.2 e3.1 e3.2 M_n M_be M_ma M_so M_om)) S (c_X12_cited l D cI cJ cZ cS aM aM_s aM_ke aM_te aM_re aM_bo aM_bn aM_sh aM_in aM_su aM_gr aM_tr aM_ou aM_ro st95.2.2 e3.2 M_n M_be M_ma M_so M_om st71.2.1 st95.2.1 e17 hc17) k6 hK hP hD hS hA 0 rfl rfl rfl rfl hl.1 rfl (Nat.le_of_ble_eq_true rfl) ⟨Nat.zero_le _, Nat.zero_le _⟩ dX12_removeWork_106 [0, 1] rfl rfl wa_X12_cited (sa_eq [(aM_ke, .inl (cI, 1048, .inl e3.1))] [2] 3 rfl rfl rfl rfl rfl rfl rfl) (fun H locs hP hD hS => ?_)
          refine lv_istore (lv' := [(7, .int e17), (0, .ref aM), (1, .int x1), (2, .int st71.1), (3, .int st71.2.1), (4, .int st95.1), (5, .int e11), (6, .int st95.2.1)]) hx hb dX12_removeWork_109 hl (by decide) rfl (fun ls hl => ?_)
          refine lv_iload hx hb dX12_removeWork_111 (lv_at hl 0 rfl) ?_
          refine lv_iload_n hx hb dX12_removeWork_113 rfl (lv_at hl 2 rfl) ?_
          refine lv_icmp_eq (tgt := 152) hx hb dX12_removeWork_114 (by decide) (fun c18 => ?_) (fun c18 => ?_)
          · replace hm := if_t c18 hm
            exact J152 st95.1 st95.2.1 st95.2.2 hm H locs ls hP hD hS (lv_sub hl [1, 2, 3, 4, 5, 6, 7] rfl)
          · replace hm := if_f c18 hm
            refine lv_aload_n hx hb dX12_removeWork_117 rfl (lv_at hl 1 rfl) ?_
            refine va_get (D := D) (ci := 12) (v := .ref aM_s) (C := RX12) (T := TX12) (N := 19) hx hb hts k4 hown hKv hP 0 rfl rfl 0 (by decide) k3 (fun _ h9 => h9) rfl dX12_removeWork_118 ?_
            refine lv_bipush (v := 71) hx hb dX12_removeWork_121 (by decide) ?_
            refine lv_bipush (v := 6) hx hb dX12_removeWork_123 (by decide) ?_
            refine lv_iload_n hx hb dX12_removeWork_125 rfl (lv_at hl 3 rfl) ?_
            refine lv_imul hx hb dX12_removeWork_126 ?_
            refine lv_iadd hx hb dX12_removeWork_127 ?_
            refine lv_iconst (v := 1) hx hb dX12_removeWork_128 (by decide) ?_
            refine lv_iadd hx hb dX12_removeWork_129 ?_
            refine lv_iload hx hb dX12_removeWork_130 (lv_at hl 5 rfl) ?_
            refine lv_iadd hx hb dX12_removeWork_132 ?_
            refine lv_iload hx hb dX12_removeWork_133 (lv_at hl 0 rfl) ?_
            refine lv_iload_n hx hb dX12_removeWork_135 rfl (lv_at hl 2 rfl) ?_
            refine lv_icmp_le (tgt := 146) hx hb dX12_removeWork_136 (by decide) (fun c19 => ?_) (fun c19 => ?_)
            · replace hm := if_t c19 hm
              refine lv_iload hx hb dX12_removeWork_146 (lv_at hl 0 rfl) ?_
              exact J148 st95.1 st95.2.1 e17 (((71 + (6 * st71.1)) + 1) + st95.1) st95.2.2 hm H locs ls hP hD hS (lv_sub hl [1, 2, 3, 4, 5, 6, 7] rfl)
            · replace hm := if_f c19 hm
              refine lv_iload hx hb dX12_removeWork_139 (lv_at hl 0 rfl) ?_
              refine lv_iconst (v := 1) hx hb dX12_removeWork_141 (by decide) ?_
              refine lv_isub hx hb dX12_removeWork_142 ?_
              refine lv_goto (tgt := 148) hx hb dX12_removeWork_143 (by decide) ?_
              exact J148 st95.1 st95.2.1 (e17 - 1) (((71 + (6 * st71.1)) + 1) + st95.1) st95.2.2 hm H locs ls hP hD hS (lv_sub hl [1, 2, 3, 4, 5, 6, 7] rfl)
    refine it_W (G := fun (st31 : Int32 × (Nat → Int32)) => ∀ (H : Heap) (locs : List Loc) (ls : Array Slot), va_P D vwCl (w_X12_removeWork cI aM aM_s aM_ke aM_te aM_re aM_bo aM_bn aM_sh aM_in aM_su aM_gr aM_tr aM_ou aM_ro st31.2 e3.1 e3.2 M_n M_be M_ma M_so M_om) H → va_D A (w_X12_removeWork cI aM aM_s aM_ke aM_te aM_re aM_bo aM_bn aM_sh aM_in aM_su aM_gr aM_tr aM_ou aM_ro st31.2 e3.1 e3.2 M_n M_be M_ma M_so M_om) → va_S A s.heap H locs → lv_has ls 8 [(0, .ref aM), (1, .int x1), (2, .int st31.1)] → W p l e rm_X12_removeWork s m args below meth c H locs 0 0 Q (F0 m 31 ls [])) (e := e6) (fun st31 x hm hG hE => ?_) fu _ hc6 H locs ls hP hD hS (lv_sub hl [1, 2, 0] rfl)
    intro H locs ls hP hD hS hl
    refine lv_iload_n hx hb dX12_removeWork_31 rfl (lv_at hl 2 rfl) ?_
    refine lv_iconst (v := 1) hx hb dX12_removeWork_32 (by decide) ?_
    refine lv_bipush (v := 7) hx hb dX12_removeWork_33 (by decide) ?_
    refine lv_aload_n hx hb dX12_removeWork_35 rfl (lv_at hl 0 rfl) ?_
    refine va_get (D := D) (ci := 12) (v := .ref aM_s) (C := RX12) (T := TX12) (N := 19) hx hb hts k4 hown hKv hP 0 rfl rfl 0 (by decide) k3 (fun _ h9 => h9) rfl dX12_removeWork_36 ?_
    refine lv_iconst (v := 0) hx hb dX12_removeWork_39 (by decide) ?_
    replace hm := ck_some hm
    obtain ⟨h20, hm⟩ := hm
    refine va_iald hx hb hKv hP 1 0 rfl rfl h20 dX12_removeWork_40 ?_
    refine lv_imul hx hb dX12_removeWork_41 ?_
    refine lv_iadd hx hb dX12_removeWork_42 ?_
    refine lv_icmp_ge (tgt := 67) hx hb dX12_removeWork_43 (by decide) (fun c21 => ?_) (fun c21 => ?_)
    · replace hm := if_t c21 hm
      have h9 := hE _ (Option.some.inj hm).symm
      subst h9
      exact X6_0 H locs ls hP hD hS (lv_sub hl [0, 1] rfl)
    · replace hm := if_f c21 hm
      refine lv_aload_n hx hb dX12_removeWork_46 rfl (lv_at hl 0 rfl) ?_
      refine va_get (D := D) (ci := 12) (v := .ref aM_s) (C := RX12) (T := TX12) (N := 19) hx hb hts k4 hown hKv hP 0 rfl rfl 0 (by decide) k3 (fun _ h9 => h9) rfl dX12_removeWork_47 ?_
      refine lv_iload_n hx hb dX12_removeWork_50 rfl (lv_at hl 2 rfl) ?_
      refine lv_aload_n hx hb dX12_removeWork_51 rfl (lv_at hl 0 rfl) ?_
      refine va_get (D := D) (ci := 12) (v := .ref aM_s) (C := RX12) (T := TX12) (N := 19) hx hb hts k4 hown hKv hP 0 rfl rfl 0 (by decide) k3 (fun _ h9 => h9) rfl dX12_removeWork_52 ?_
      refine lv_iload_n hx hb dX12_removeWork_55 rfl (lv_at hl 2 rfl) ?_
      refine lv_bipush (v := 7) hx hb dX12_removeWork_56 (by decide) ?_
      refine lv_iadd hx hb dX12_removeWork_58 ?_
      replace hm := ck_some hm
      obtain ⟨h22, hm⟩ := hm
      refine va_iald hx hb hKv hP 1 0 rfl rfl h22 dX12_removeWork_59 ?_
      replace hm := ck_some hm
      obtain ⟨h23, hm⟩ := hm
      refine va_iast hx hb hKv hP hD hS 1 0 rfl rfl h23 dX12_removeWork_60 (fun H locs hP hD hS => ?_)
      replace hP : va_P D vwCl (w_X12_removeWork cI aM aM_s aM_ke aM_te aM_re aM_bo aM_bn aM_sh aM_in aM_su aM_gr aM_tr aM_ou aM_ro (upd st31.2 (Int32.toNatClampNeg st31.1) (st31.2 (Int32.toNatClampNeg (st31.1 + 7)))) e3.1 e3.2 M_n M_be M_ma M_so M_om) H := hP
      replace hD : va_D A (w_X12_removeWork cI aM aM_s aM_ke aM_te aM_re aM_bo aM_bn aM_sh aM_in aM_su aM_gr aM_tr aM_ou aM_ro (upd st31.2 (Int32.toNatClampNeg st31.1) (st31.2 (Int32.toNatClampNeg (st31.1 + 7)))) e3.1 e3.2 M_n M_be M_ma M_so M_om) := hD
      refine lv_iinc (v := (st31.1 + 1)) (lv' := [(2, .int (st31.1 + 1)), (0, .ref aM), (1, .int x1)]) hx hb dX12_removeWork_61 hl (k := 2) rfl rfl (by decide) rfl (fun ls hl => ?_)
      refine lv_goto (tgt := 31) hx hb dX12_removeWork_64 (by decide) ?_
      exact hG _ (Option.some.inj hm).symm H locs ls hP hD hS (lv_sub hl [1, 2, 0] rfl)
  · replace hm := if_t c2 hm
    refine lv_iconst (v := (-1)) hx hb dX12_removeWork_8 (by decide) ?_
    have h9 := Option.some.inj hm
    subst h9
    exact hret H locs _ ls _ hP hD hS rfl dX12_removeWork_9
set_option maxHeartbeats 4000000 in
set_option maxRecDepth 100000 in
theorem c_X12_render (l : Launch) (D : va_G) (cI cJ cZ cS : ClassId) (aM aM_s aM_ke aM_te aM_re aM_bo aM_bn aM_sh aM_in aM_su aM_gr aM_tr aM_ou aM_ro : Nat) (M_s : Nat → Int32) (M_km : Int32) (M_n : Int32) (M_be : Int32) (M_ma : Int32) (M_so : Int32) (M_bo : Nat → Int32) (M_bn : Nat → Int32) (M_sh : Nat → Int32) (M_in : Nat → Int32) (M_su : Nat → Int32) (M_gr : Nat → Int32) (M_tr : Nat → Int32) (M_ou : Nat → Int32) (M_om : Int32) (M_ro : Nat → Int32) (x1 : Int32) (o : (Nat → Int32) × (Nat → Int32) × (Nat → Int32) × (Nat → Int32) × (Nat → Int32) × (Nat → Int32) × (Nat → Int32) × (Nat → Int32) × Int32 × (Nat → Int32)) (hm : m_X12_render M_s M_bo M_bn M_sh M_in M_su M_gr M_tr M_ou M_om M_ro x1 = some o) : MV l yX12_render wsX12_render rm_X12_render D (TY cI cJ cZ cS) [.ref aM, .int x1] (w_X12_render cI cZ aM aM_s aM_ke aM_te aM_re aM_bo aM_bn aM_sh aM_in aM_su aM_gr aM_tr aM_ou aM_ro M_s M_km M_n M_be M_ma M_so M_bo M_bn M_sh M_in M_su M_gr M_tr M_ou M_om M_ro) (w_X12_render cI cZ aM aM_s aM_ke aM_te aM_re aM_bo aM_bn aM_sh aM_in aM_su aM_gr aM_tr aM_ou aM_ro M_s M_km M_n M_be M_ma M_so o.1 o.2.1 o.2.2.1 o.2.2.2.1 o.2.2.2.2.1 o.2.2.2.2.2.1 o.2.2.2.2.2.2.1 o.2.2.2.2.2.2.2.1 o.2.2.2.2.2.2.2.2.1 o.2.2.2.2.2.2.2.2.2) := by
  refine MV_of (cc := cX12_render) (maxL := 2) (by decide) rfl (Nat.le_of_ble_eq_true rfl) ?_
  intro p e s m args below meth c A Q ls H locs hx hb hml hts hown hK hA hP hD hS hl hret
  have hown : s.vm.findClass RX12 = some m.cls := hown
  have hKv : va_K D vwCl (TY cI cJ cZ cS) s := hK.1
  have hl : lv_has ls 2 [(0, .ref aM), (1, .int x1)] := hl
  have S : CallFix p m c cX12_render 2 s args wsX12_render RX12 := ⟨hx, hb, hml, hown, hts⟩
  have k1 : CallW rm_X12_render s args RX12 RX12 203 yX12_layLabels cX12_layLabels 3 none wsX12_layLabels rm_X12_layLabels 0 0 0 := cwV 0 hts gX12_render_X12_layLabels rfl rfl rfl (by decide +kernel) ⟨Nat.le_of_ble_eq_true rfl, Nat.le_of_ble_eq_true rfl⟩
  have k2 : CallW rm_X12_render s args RX12 RX12 234 yX12_layRow cX12_layRow 4 none wsX12_layRow rm_X12_layRow 0 0 1 := cwV 1 hts gX12_render_X12_layRow rfl rfl rfl (by decide +kernel) ⟨Nat.le_of_ble_eq_true rfl, Nat.le_of_ble_eq_true rfl⟩
  have k3 := hts (.fieldLink RX12 206 "CitationFormatterModel" "outMany" "I") (by decide +kernel)
  have k4 : ∀ w ∈ wsX120, w ∈ wsX12_render := by decide +kernel
  have k5 := hts (.fieldLink RX12 7 "CitationFormatterModel" "s" "[I") (by decide +kernel)
  have k6 : CallW rm_X12_render s args RX12 RX12 243 yX12_putNote cX12_putNote 5 none wsX12_putNote rm_X12_putNote 0 0 1 := cwV 1 hts gX12_render_X12_putNote rfl rfl rfl (by decide +kernel) ⟨Nat.le_of_ble_eq_true rfl, Nat.le_of_ble_eq_true rfl⟩
  have k7 : CallW rm_X12_render s args RX12 RX12 240 yX12_putNumeric cX12_putNumeric 4 none wsX12_putNumeric rm_X12_putNumeric 0 0 1 := cwV 1 hts gX12_render_X12_putNumeric rfl rfl rfl (by decide +kernel) ⟨Nat.le_of_ble_eq_true rfl, Nat.le_of_ble_eq_true rfl⟩
  have k8 : CallW rm_X12_render s args RX12 RX12 237 yX12_putAuthorYear cX12_putAuthorYear 5 none wsX12_putAuthorYear rm_X12_putAuthorYear 0 0 1 := cwV 1 hts gX12_render_X12_putAuthorYear rfl rfl rfl (by decide +kernel) ⟨Nat.le_of_ble_eq_true rfl, Nat.le_of_ble_eq_true rfl⟩
  have J56 : ∀ (M_bo_j56 : Nat → Int32) (M_bn_j56 : Nat → Int32) (M_sh_j56 : Nat → Int32) (M_in_j56 : Nat → Int32) (M_su_j56 : Nat → Int32) (M_gr_j56 : Nat → Int32) (M_tr_j56 : Nat → Int32) (M_ou_j56 : Nat → Int32) (M_om_j56 : Int32) (M_ro_j56 : Nat → Int32), (m_X12_render_J56 M_bo_j56 M_bn_j56 M_sh_j56 M_in_j56 M_su_j56 M_gr_j56 M_tr_j56 M_ou_j56 M_om_j56 M_ro_j56 = some o) → ∀ (H : Heap) (locs : List Loc) (ls : Array Slot), va_P D vwCl (w_X12_render cI cZ aM aM_s aM_ke aM_te aM_re aM_bo aM_bn aM_sh aM_in aM_su aM_gr aM_tr aM_ou aM_ro M_s M_km M_n M_be M_ma M_so M_bo_j56 M_bn_j56 M_sh_j56 M_in_j56 M_su_j56 M_gr_j56 M_tr_j56 M_ou_j56 M_om_j56 M_ro_j56) H → va_D A (w_X12_render cI cZ aM aM_s aM_ke aM_te aM_re aM_bo aM_bn aM_sh aM_in aM_su aM_gr aM_tr aM_ou aM_ro M_s M_km M_n M_be M_ma M_so M_bo_j56 M_bn_j56 M_sh_j56 M_in_j56 M_su_j56 M_gr_j56 M_tr_j56 M_ou_j56 M_om_j56 M_ro_j56) → va_S A s.heap H locs → lv_has ls 2 [(0, .ref aM)] → W p l e rm_X12_render s m args below meth c H locs 0 0 Q (F0 m 56 ls []) := by
    intro M_bo_j56 M_bn_j56 M_sh_j56 M_in_j56 M_su_j56 M_gr_j56 M_tr_j56 M_ou_j56 M_om_j56 M_ro_j56 hm H locs ls hP hD hS hl
    have h9 := Option.some.inj hm
    subst h9
    exact hret H locs _ ls hP hD hS dX12_render_56
  refine lv_aload_n hx hb dX12_render_0 rfl (lv_at hl 0 rfl) ?_
  replace hm := bd_some hm
  obtain ⟨e1, hc1, hm⟩ := hm
  obtain ⟨e1_0, e1_1, e1_2, e1_3, e1_4, e1_5, e1_6⟩ := e1
  refine kV_v (rest := []) (ws' := (w_X12_render cI cZ aM aM_s aM_ke aM_te aM_re aM_bo aM_bn aM_sh aM_in aM_su aM_gr aM_tr aM_ou aM_ro M_s M_km M_n M_be M_ma M_so e1_0 e1_1 e1_2 e1_3 e1_4 e1_5 e1_6 M_ou M_om M_ro)) S (c_X12_layLabels l D cI cJ cZ cS aM aM_s aM_ke aM_te aM_re aM_bo aM_bn aM_sh aM_in aM_su aM_gr aM_tr aM_ou aM_ro M_s M_km M_n M_be M_ma M_so M_bo M_bn M_sh M_in M_su M_gr M_tr M_om (e1_0, e1_1, e1_2, e1_3, e1_4, e1_5, e1_6) hc1) k1 hK hP hD hS hA 0 rfl rfl rfl rfl hl.1 rfl (Nat.le_of_ble_eq_true rfl) ⟨Nat.zero_le _, Nat.zero_le _⟩ dX12_render_1 [0, 1, 2, 3, 4, 5, 6, 7, 8] rfl rfl wa_X12_layLabels (sa_eq [(aM_ou, .inl (cI, 300, .inl M_ou)), (aM_ro, .inl (cI, 5, .inl M_ro))] [9, 10] 11 rfl rfl rfl rfl rfl rfl rfl) (fun H locs hP hD hS => ?_)
  refine lv_aload_n hx hb dX12_render_4 rfl (lv_at hl 0 rfl) ?_
  refine lv_iload_n hx hb dX12_render_5 rfl (lv_at hl 1 rfl) ?_
  replace hm := bd_some hm
  obtain ⟨e2, hc2, hm⟩ := hm
  refine kV_v (rest := []) (ws' := (w_X12_render cI cZ aM aM_s aM_ke aM_te aM_re aM_bo aM_bn aM_sh aM_in aM_su aM_gr aM_tr aM_ou aM_ro M_s M_km M_n M_be M_ma M_so e1_0 e1_1 e1_2 e1_3 e1_4 e1_5 e1_6 M_ou M_om e2)) S (c_X12_layRow l D cI cJ cZ cS aM aM_s aM_ke aM_te aM_re aM_bo aM_bn aM_sh aM_in aM_su aM_gr aM_tr aM_ou aM_ro M_s M_km M_n M_be M_ma M_so e1_0 e1_1 M_om M_ro x1 e2 hc2) k2 hK hP hD hS hA 0 rfl rfl rfl rfl hl.1 rfl (Nat.le_of_ble_eq_true rfl) ⟨Nat.zero_le _, Nat.zero_le _⟩ dX12_render_6 [0, 1, 2, 3, 10] rfl rfl wa_X12_layRow (sa_eq [(aM_sh, .inl (cI, 8, .inl e1_2)), (aM_in, .inl (cZ, 8, .inl e1_3)), (aM_su, .inl (cI, 8, .inl e1_4)), (aM_gr, .inl (cI, 8, .inl e1_5)), (aM_tr, .inl (cI, 8, .inl e1_6)), (aM_ou, .inl (cI, 300, .inl M_ou))] [4, 5, 6, 7, 8, 9] 11 rfl rfl rfl rfl rfl rfl rfl) (fun H locs hP hD hS => ?_)
  refine lv_aload_n hx hb dX12_render_9 rfl (lv_at hl 0 rfl) ?_
  refine lv_iconst (v := 0) hx hb dX12_render_10 (by decide) ?_
  refine va_put (D := D) (ci := 12) (v := .int 0) (ty := .int) (C := RX12) (T := TX12) (N := 19) hx hb hts k4 tyX12 tyX12_ok nmX12 hown hKv hP hD hS 0 rfl rfl 17 (by decide) k3 (fun _ h9 => h9) rfl (by decide +kernel) rfl rfl (Nat.le_of_ble_eq_true rfl) dX12_render_11 (fun H locs hP hD hS => ?_)
  replace hP : va_P D vwCl (w_X12_render cI cZ aM aM_s aM_ke aM_te aM_re aM_bo aM_bn aM_sh aM_in aM_su aM_gr aM_tr aM_ou aM_ro M_s M_km M_n M_be M_ma M_so e1_0 e1_1 e1_2 e1_3 e1_4 e1_5 e1_6 M_ou 0 e2) H := hP
  replace hD : va_D A (w_X12_render cI cZ aM aM_s aM_ke aM_te aM_re aM_bo aM_bn aM_sh aM_in aM_su aM_gr aM_tr aM_ou aM_ro M_s M_km M_n M_be M_ma M_so e1_0 e1_1 e1_2 e1_3 e1_4 e1_5 e1_6 M_ou 0 e2) := hD
  refine lv_aload_n hx hb dX12_render_14 rfl (lv_at hl 0 rfl) ?_
  refine va_get (D := D) (ci := 12) (v := .ref aM_s) (C := RX12) (T := TX12) (N := 19) hx hb hts k4 hown hKv hP 0 rfl rfl 0 (by decide) k5 (fun _ h9 => h9) rfl dX12_render_15 ?_
  refine lv_bipush (v := 57) hx hb dX12_render_18 (by decide) ?_
  replace hm := ck_some hm
  obtain ⟨h3, hm⟩ := hm
  refine va_iald hx hb hKv hP 1 0 rfl rfl h3 dX12_render_20 ?_
  refine lv_if_ne (tgt := 32) hx hb dX12_render_21 (by decide) (fun c4 => ?_) (fun c4 => ?_)
  · replace hm := if_f c4 hm
    refine lv_aload_n hx hb dX12_render_32 rfl (lv_at hl 0 rfl) ?_
    refine va_get (D := D) (ci := 12) (v := .ref aM_s) (C := RX12) (T := TX12) (N := 19) hx hb hts k4 hown hKv hP 0 rfl rfl 0 (by decide) k5 (fun _ h9 => h9) rfl dX12_render_33 ?_
    refine lv_bipush (v := 57) hx hb dX12_render_36 (by decide) ?_
    replace hm := ck_some hm
    obtain ⟨h5, hm⟩ := hm
    refine va_iald hx hb hKv hP 1 0 rfl rfl h5 dX12_render_38 ?_
    refine lv_iconst (v := 1) hx hb dX12_render_39 (by decide) ?_
    refine lv_icmp_ne (tgt := 51) hx hb dX12_render_40 (by decide) (fun c6 => ?_) (fun c6 => ?_)
    · replace hm := if_f c6 hm
      refine lv_aload_n hx hb dX12_render_51 rfl (lv_at hl 0 rfl) ?_
      refine lv_iload_n hx hb dX12_render_52 rfl (lv_at hl 1 rfl) ?_
      replace hm := bd_some hm
      obtain ⟨e7, hc7, hm⟩ := hm
      refine kV_v (rest := []) (ws' := (w_X12_render cI cZ aM aM_s aM_ke aM_te aM_re aM_bo aM_bn aM_sh aM_in aM_su aM_gr aM_tr aM_ou aM_ro M_s M_km M_n M_be M_ma M_so e1_0 e1_1 e1_2 e1_3 e1_4 e1_5 e1_6 e7.1 e7.2 e2)) S (c_X12_putNote l D cI cJ cZ cS aM aM_s aM_ke aM_te aM_re aM_bo aM_bn aM_sh aM_in aM_su aM_gr aM_tr aM_ou aM_ro M_s M_km M_n M_be M_ma M_so e1_2 e1_3 M_ou 0 e2 x1 e7 hc7) k6 hK hP hD hS hA 0 rfl rfl rfl rfl hl.1 rfl (Nat.le_of_ble_eq_true rfl) ⟨Nat.zero_le _, Nat.zero_le _⟩ dX12_render_53 [0, 1, 4, 5, 9, 10] rfl rfl wa_X12_putNote (sa_eq [(aM_bo, .inl (cI, 8, .inl e1_0)), (aM_bn, .inl (cI, 8, .inl e1_1)), (aM_su, .inl (cI, 8, .inl e1_4)), (aM_gr, .inl (cI, 8, .inl e1_5)), (aM_tr, .inl (cI, 8, .inl e1_6))] [2, 3, 6, 7, 8] 11 rfl rfl rfl rfl rfl rfl rfl) (fun H locs hP hD hS => ?_)
      exact J56 e1_0 e1_1 e1_2 e1_3 e1_4 e1_5 e1_6 e7.1 e7.2 e2 hm H locs ls hP hD hS (lv_sub hl [0] rfl)
    · replace hm := if_t c6 hm
      refine lv_aload_n hx hb dX12_render_43 rfl (lv_at hl 0 rfl) ?_
      refine lv_iload_n hx hb dX12_render_44 rfl (lv_at hl 1 rfl) ?_
      replace hm := bd_some hm
      obtain ⟨e8, hc8, hm⟩ := hm
      refine kV_v (rest := []) (ws' := (w_X12_render cI cZ aM aM_s aM_ke aM_te aM_re aM_bo aM_bn aM_sh aM_in aM_su aM_gr aM_tr aM_ou aM_ro M_s M_km M_n M_be M_ma M_so e1_0 e1_1 e1_2 e1_3 e1_4 e1_5 e1_6 e8.1 e8.2 e2)) S (c_X12_putNumeric l D cI cJ cZ cS aM aM_s aM_ke aM_te aM_re aM_bo aM_bn aM_sh aM_in aM_su aM_gr aM_tr aM_ou aM_ro M_s M_km M_n M_be M_ma M_so e1_1 M_ou 0 e2 x1 e8 hc8) k7 hK hP hD hS hA 0 rfl rfl rfl rfl hl.1 rfl (Nat.le_of_ble_eq_true rfl) ⟨Nat.zero_le _, Nat.zero_le _⟩ dX12_render_45 [0, 1, 3, 9, 10] rfl rfl wa_X12_putNumeric (sa_eq [(aM_bo, .inl (cI, 8, .inl e1_0)), (aM_sh, .inl (cI, 8, .inl e1_2)), (aM_in, .inl (cZ, 8, .inl e1_3)), (aM_su, .inl (cI, 8, .inl e1_4)), (aM_gr, .inl (cI, 8, .inl e1_5)), (aM_tr, .inl (cI, 8, .inl e1_6))] [2, 4, 5, 6, 7, 8] 11 rfl rfl rfl rfl rfl rfl rfl) (fun H locs hP hD hS => ?_)
      refine lv_goto (tgt := 56) hx hb dX12_render_48 (by decide) ?_
      exact J56 e1_0 e1_1 e1_2 e1_3 e1_4 e1_5 e1_6 e8.1 e8.2 e2 hm H locs ls hP hD hS (lv_sub hl [0] rfl)
  · replace hm := if_t c4 hm
    refine lv_aload_n hx hb dX12_render_24 rfl (lv_at hl 0 rfl) ?_
    refine lv_iload_n hx hb dX12_render_25 rfl (lv_at hl 1 rfl) ?_
    replace hm := bd_some hm
    obtain ⟨e9, hc9, hm⟩ := hm
    refine kV_v (rest := []) (ws' := (w_X12_render cI cZ aM aM_s aM_ke aM_te aM_re aM_bo aM_bn aM_sh aM_in aM_su aM_gr aM_tr aM_ou aM_ro M_s M_km M_n M_be M_ma M_so e1_0 e1_1 e1_2 e1_3 e1_4 e1_5 e1_6 e9.1 e9.2 e2)) S (c_X12_putAuthorYear l D cI cJ cZ cS aM aM_s aM_ke aM_te aM_re aM_bo aM_bn aM_sh aM_in aM_su aM_gr aM_tr aM_ou aM_ro M_s M_km M_n M_be M_ma M_so e1_2 e1_3 e1_4 M_ou 0 e2 x1 e9 hc9) k8 hK hP hD hS hA 0 rfl rfl rfl rfl hl.1 rfl (Nat.le_of_ble_eq_true rfl) ⟨Nat.zero_le _, Nat.zero_le _⟩ dX12_render_26 [0, 1, 4, 5, 6, 9, 10] rfl rfl wa_X12_putAuthorYear (sa_eq [(aM_bo, .inl (cI, 8, .inl e1_0)), (aM_bn, .inl (cI, 8, .inl e1_1)), (aM_gr, .inl (cI, 8, .inl e1_5)), (aM_tr, .inl (cI, 8, .inl e1_6))] [2, 3, 7, 8] 11 rfl rfl rfl rfl rfl rfl rfl) (fun H locs hP hD hS => ?_)
    refine lv_goto (tgt := 56) hx hb dX12_render_29 (by decide) ?_
    exact J56 e1_0 e1_1 e1_2 e1_3 e1_4 e1_5 e1_6 e9.1 e9.2 e2 hm H locs ls hP hD hS (lv_sub hl [0] rfl)
set_option maxHeartbeats 4000000 in
set_option maxRecDepth 100000 in
theorem c_X12_renderedCharacter (l : Launch) (D : va_G) (cI cJ cZ cS : ClassId) (aM aM_s aM_ke aM_te aM_re aM_bo aM_bn aM_sh aM_in aM_su aM_gr aM_tr aM_ou aM_ro : Nat) (M_s : Nat → Int32) (M_km : Int32) (M_n : Int32) (M_be : Int32) (M_ma : Int32) (M_so : Int32) (M_bo : Nat → Int32) (M_bn : Nat → Int32) (M_sh : Nat → Int32) (M_in : Nat → Int32) (M_su : Nat → Int32) (M_gr : Nat → Int32) (M_tr : Nat → Int32) (M_ou : Nat → Int32) (M_om : Int32) (M_ro : Nat → Int32) (x1 : Int32) (x2 : Int32) (o : Int32 × (Nat → Int32) × (Nat → Int32) × (Nat → Int32) × (Nat → Int32) × (Nat → Int32) × (Nat → Int32) × (Nat → Int32) × (Nat → Int32) × Int32 × (Nat → Int32)) (hm : m_X12_renderedCharacter M_s M_bo M_bn M_sh M_in M_su M_gr M_tr M_ou M_om M_ro x1 x2 = some o) : MI l yX12_renderedCharacter wsX12_renderedCharacter rm_X12_renderedCharacter D (TY cI cJ cZ cS) [.ref aM, .int x1, .int x2] (w_X12_renderedCharacter cI cZ aM aM_s aM_ke aM_te aM_re aM_bo aM_bn aM_sh aM_in aM_su aM_gr aM_tr aM_ou aM_ro M_s M_km M_n M_be M_ma M_so M_bo M_bn M_sh M_in M_su M_gr M_tr M_ou M_om M_ro) (w_X12_renderedCharacter cI cZ aM aM_s aM_ke aM_te aM_re aM_bo aM_bn aM_sh aM_in aM_su aM_gr aM_tr aM_ou aM_ro M_s M_km M_n M_be M_ma M_so o.2.1 o.2.2.1 o.2.2.2.1 o.2.2.2.2.1 o.2.2.2.2.2.1 o.2.2.2.2.2.2.1 o.2.2.2.2.2.2.2.1 o.2.2.2.2.2.2.2.2.1 o.2.2.2.2.2.2.2.2.2.1 o.2.2.2.2.2.2.2.2.2.2) (o.1) := by
  refine MI_of (cc := cX12_renderedCharacter) (maxL := 3) (by decide) rfl (Nat.le_of_ble_eq_true rfl) ?_
  intro p e s m args below meth c A Q ls H locs hx hb hml hts hown hK hA hP hD hS hl hret
  have hown : s.vm.findClass RX12 = some m.cls := hown
  have hKv : va_K D vwCl (TY cI cJ cZ cS) s := hK.1
  have hl : lv_has ls 3 [(0, .ref aM), (1, .int x1), (2, .int x2)] := hl
  have S : CallFix p m c cX12_renderedCharacter 3 s args wsX12_renderedCharacter RX12 := ⟨hx, hb, hml, hown, hts⟩
  have k1 : CallW rm_X12_renderedCharacter s args RX12 RX12 143 yX12_isCitation cX12_isCitation 2 (some .boolean) wsX12_isCitation rm_X12_isCitation 0 0 1 := cwV 1 hts gX12_renderedCharacter_X12_isCitation rfl rfl rfl (by decide +kernel) ⟨Nat.le_of_ble_eq_true rfl, Nat.le_of_ble_eq_true rfl⟩
  have k2 : CallW rm_X12_renderedCharacter s args RX12 RX12 246 yX12_render cX12_render 2 none wsX12_render rm_X12_render 0 0 1 := cwV 1 hts gX12_renderedCharacter_X12_render rfl rfl rfl (by decide +kernel) ⟨Nat.le_of_ble_eq_true rfl, Nat.le_of_ble_eq_true rfl⟩
  have k3 := hts (.fieldLink RX12 206 "CitationFormatterModel" "outMany" "I") (by decide +kernel)
  have k4 : ∀ w ∈ wsX120, w ∈ wsX12_renderedCharacter := by decide +kernel
  have k5 := hts (.fieldLink RX12 44 "CitationFormatterModel" "out" "[I") (by decide +kernel)
  have J12 : ∀ (M_bo_j12 : Nat → Int32) (M_bn_j12 : Nat → Int32) (M_sh_j12 : Nat → Int32) (M_in_j12 : Nat → Int32) (M_su_j12 : Nat → Int32) (M_gr_j12 : Nat → Int32) (M_tr_j12 : Nat → Int32) (M_ou_j12 : Nat → Int32) (M_om_j12 : Int32) (M_ro_j12 : Nat → Int32), (m_X12_renderedCharacter_J12 M_bo_j12 M_bn_j12 M_sh_j12 M_in_j12 M_su_j12 M_gr_j12 M_tr_j12 M_ou_j12 M_om_j12 M_ro_j12 = some o) → ∀ (H : Heap) (locs : List Loc) (ls : Array Slot), va_P D vwCl (w_X12_renderedCharacter cI cZ aM aM_s aM_ke aM_te aM_re aM_bo aM_bn aM_sh aM_in aM_su aM_gr aM_tr aM_ou aM_ro M_s M_km M_n M_be M_ma M_so M_bo_j12 M_bn_j12 M_sh_j12 M_in_j12 M_su_j12 M_gr_j12 M_tr_j12 M_ou_j12 M_om_j12 M_ro_j12) H → va_D A (w_X12_renderedCharacter cI cZ aM aM_s aM_ke aM_te aM_re aM_bo aM_bn aM_sh aM_in aM_su aM_gr aM_tr aM_ou aM_ro M_s M_km M_n M_be M_ma M_so M_bo_j12 M_bn_j12 M_sh_j12 M_in_j12 M_su_j12 M_gr_j12 M_tr_j12 M_ou_j12 M_om_j12 M_ro_j12) → va_S A s.heap H locs → lv_has ls 3 [(0, .ref aM)] → W p l e rm_X12_renderedCharacter s m args below meth c H locs 0 0 Q (F0 m 12 ls []) := by
    intro M_bo_j12 M_bn_j12 M_sh_j12 M_in_j12 M_su_j12 M_gr_j12 M_tr_j12 M_ou_j12 M_om_j12 M_ro_j12 hm H locs ls hP hD hS hl
    refine lv_iconst (v := (-1)) hx hb dX12_renderedCharacter_12 (by decide) ?_
    have h9 := Option.some.inj hm
    subst h9
    exact hret H locs _ ls _ hP hD hS rfl dX12_renderedCharacter_13
  have J38 : ∀ (y0_j38 : Int32) (M_bo_j38 : Nat → Int32) (M_bn_j38 : Nat → Int32) (M_sh_j38 : Nat → Int32) (M_in_j38 : Nat → Int32) (M_su_j38 : Nat → Int32) (M_gr_j38 : Nat → Int32) (M_tr_j38 : Nat → Int32) (M_ou_j38 : Nat → Int32) (M_om_j38 : Int32) (M_ro_j38 : Nat → Int32), (m_X12_renderedCharacter_J38 y0_j38 M_bo_j38 M_bn_j38 M_sh_j38 M_in_j38 M_su_j38 M_gr_j38 M_tr_j38 M_ou_j38 M_om_j38 M_ro_j38 = some o) → ∀ (H : Heap) (locs : List Loc) (ls : Array Slot), va_P D vwCl (w_X12_renderedCharacter cI cZ aM aM_s aM_ke aM_te aM_re aM_bo aM_bn aM_sh aM_in aM_su aM_gr aM_tr aM_ou aM_ro M_s M_km M_n M_be M_ma M_so M_bo_j38 M_bn_j38 M_sh_j38 M_in_j38 M_su_j38 M_gr_j38 M_tr_j38 M_ou_j38 M_om_j38 M_ro_j38) H → va_D A (w_X12_renderedCharacter cI cZ aM aM_s aM_ke aM_te aM_re aM_bo aM_bn aM_sh aM_in aM_su aM_gr aM_tr aM_ou aM_ro M_s M_km M_n M_be M_ma M_so M_bo_j38 M_bn_j38 M_sh_j38 M_in_j38 M_su_j38 M_gr_j38 M_tr_j38 M_ou_j38 M_om_j38 M_ro_j38) → va_S A s.heap H locs → lv_has ls 3 [(0, .ref aM)] → W p l e rm_X12_renderedCharacter s m args below meth c H locs 0 0 Q (F0 m 38 ls [.int y0_j38]) := by
    intro y0_j38 M_bo_j38 M_bn_j38 M_sh_j38 M_in_j38 M_su_j38 M_gr_j38 M_tr_j38 M_ou_j38 M_om_j38 M_ro_j38 hm H locs ls hP hD hS hl
    have h9 := Option.some.inj hm
    subst h9
    exact hret H locs _ ls _ hP hD hS rfl dX12_renderedCharacter_38
  refine lv_aload_n hx hb dX12_renderedCharacter_0 rfl (lv_at hl 0 rfl) ?_
  refine lv_iload_n hx hb dX12_renderedCharacter_1 rfl (lv_at hl 1 rfl) ?_
  replace hm := bd_some hm
  obtain ⟨e1, hc1, hm⟩ := hm
  refine kV_i (rest := []) (ws' := (w_X12_renderedCharacter cI cZ aM aM_s aM_ke aM_te aM_re aM_bo aM_bn aM_sh aM_in aM_su aM_gr aM_tr aM_ou aM_ro M_s M_km M_n M_be M_ma M_so M_bo M_bn M_sh M_in M_su M_gr M_tr M_ou M_om M_ro)) S (c_X12_isCitation l D cI cJ cZ cS aM aM_s aM_ke aM_te aM_re aM_bo aM_bn aM_sh aM_in aM_su aM_gr aM_tr aM_ou aM_ro M_s M_km M_n M_be M_ma M_so M_om x1 e1 hc1) k1 hK hP hD hS hA 0 rfl rfl rfl rfl hl.1 rfl (Nat.le_of_ble_eq_true rfl) ⟨Nat.zero_le _, Nat.zero_le _⟩ dX12_renderedCharacter_2 [0, 1] rfl rfl wa_X12_isCitation (sa_eq [(aM_bo, .inl (cI, 8, .inl M_bo)), (aM_bn, .inl (cI, 8, .inl M_bn)), (aM_sh, .inl (cI, 8, .inl M_sh)), (aM_in, .inl (cZ, 8, .inl M_in)), (aM_su, .inl (cI, 8, .inl M_su)), (aM_gr, .inl (cI, 8, .inl M_gr)), (aM_tr, .inl (cI, 8, .inl M_tr)), (aM_ou, .inl (cI, 300, .inl M_ou)), (aM_ro, .inl (cI, 5, .inl M_ro))] [2, 3, 4, 5, 6, 7, 8, 9, 10] 11 rfl rfl rfl rfl rfl rfl rfl) (fun H locs hP hD hS => ?_)
  refine lv_if_eq (tgt := 12) hx hb dX12_renderedCharacter_5 (by decide) (fun c2 => ?_) (fun c2 => ?_)
  · replace hm := if_t c2 hm
    exact J12 M_bo M_bn M_sh M_in M_su M_gr M_tr M_ou M_om M_ro hm H locs ls hP hD hS (lv_sub hl [0] rfl)
  · replace hm := if_f c2 hm
    refine lv_iload_n hx hb dX12_renderedCharacter_8 rfl (lv_at hl 2 rfl) ?_
    refine lv_if_ge (tgt := 14) hx hb dX12_renderedCharacter_9 (by decide) (fun c3 => ?_) (fun c3 => ?_)
    · replace hm := if_t c3 hm
      refine lv_aload_n hx hb dX12_renderedCharacter_14 rfl (lv_at hl 0 rfl) ?_
      refine lv_iload_n hx hb dX12_renderedCharacter_15 rfl (lv_at hl 1 rfl) ?_
      replace hm := bd_some hm
      obtain ⟨e4, hc4, hm⟩ := hm
      obtain ⟨e4_0, e4_1, e4_2, e4_3, e4_4, e4_5, e4_6, e4_7, e4_8, e4_9⟩ := e4
      refine kV_v (rest := []) (ws' := (w_X12_renderedCharacter cI cZ aM aM_s aM_ke aM_te aM_re aM_bo aM_bn aM_sh aM_in aM_su aM_gr aM_tr aM_ou aM_ro M_s M_km M_n M_be M_ma M_so e4_0 e4_1 e4_2 e4_3 e4_4 e4_5 e4_6 e4_7 e4_8 e4_9)) S (c_X12_render l D cI cJ cZ cS aM aM_s aM_ke aM_te aM_re aM_bo aM_bn aM_sh aM_in aM_su aM_gr aM_tr aM_ou aM_ro M_s M_km M_n M_be M_ma M_so M_bo M_bn M_sh M_in M_su M_gr M_tr M_ou M_om M_ro x1 (e4_0, e4_1, e4_2, e4_3, e4_4, e4_5, e4_6, e4_7, e4_8, e4_9) hc4) k2 hK hP hD hS hA 0 rfl rfl rfl rfl hl.1 rfl (Nat.le_of_ble_eq_true rfl) ⟨Nat.zero_le _, Nat.zero_le _⟩ dX12_renderedCharacter_16 [0, 1, 2, 3, 4, 5, 6, 7, 8, 9, 10] rfl rfl wa_X12_render (sa_eq [] [] 11 rfl rfl rfl rfl rfl rfl rfl) (fun H locs hP hD hS => ?_)
      refine lv_iload_n hx hb dX12_renderedCharacter_19 rfl (lv_at hl 2 rfl) ?_
      refine lv_aload_n hx hb dX12_renderedCharacter_20 rfl (lv_at hl 0 rfl) ?_
      refine va_get (D := D) (ci := 12) (v := .int e4_8) (C := RX12) (T := TX12) (N := 19) hx hb hts k4 hown hKv hP 0 rfl rfl 17 (by decide) k3 (fun _ h9 => h9) rfl dX12_renderedCharacter_21 ?_
      refine lv_icmp_ge (tgt := 36) hx hb dX12_renderedCharacter_24 (by decide) (fun c5 => ?_) (fun c5 => ?_)
      · replace hm := if_t c5 hm
        refine lv_bipush (v := (-9)) hx hb dX12_renderedCharacter_36 (by decide) ?_
        exact J38 (-9) e4_0 e4_1 e4_2 e4_3 e4_4 e4_5 e4_6 e4_7 e4_8 e4_9 hm H locs ls hP hD hS (lv_sub hl [0] rfl)
      · replace hm := if_f c5 hm
        refine lv_aload_n hx hb dX12_renderedCharacter_27 rfl (lv_at hl 0 rfl) ?_
        refine va_get (D := D) (ci := 12) (v := .ref aM_ou) (C := RX12) (T := TX12) (N := 19) hx hb hts k4 hown hKv hP 0 rfl rfl 16 (by decide) k5 (fun _ h9 => h9) rfl dX12_renderedCharacter_28 ?_
        refine lv_iload_n hx hb dX12_renderedCharacter_31 rfl (lv_at hl 2 rfl) ?_
        replace hm := ck_some hm
        obtain ⟨h6, hm⟩ := hm
        refine va_iald hx hb hKv hP 9 0 rfl rfl h6 dX12_renderedCharacter_32 ?_
        refine lv_goto (tgt := 38) hx hb dX12_renderedCharacter_33 (by decide) ?_
        exact J38 (e4_7 (Int32.toNatClampNeg x2)) e4_0 e4_1 e4_2 e4_3 e4_4 e4_5 e4_6 e4_7 e4_8 e4_9 hm H locs ls hP hD hS (lv_sub hl [0] rfl)
    · replace hm := if_f c3 hm
      exact J12 M_bo M_bn M_sh M_in M_su M_gr M_tr M_ou M_om M_ro hm H locs ls hP hD hS (lv_sub hl [0] rfl)
set_option maxHeartbeats 4000000 in
set_option maxRecDepth 100000 in
theorem c_X12_renderedLength (l : Launch) (D : va_G) (cI cJ cZ cS : ClassId) (aM aM_s aM_ke aM_te aM_re aM_bo aM_bn aM_sh aM_in aM_su aM_gr aM_tr aM_ou aM_ro : Nat) (M_s : Nat → Int32) (M_km : Int32) (M_n : Int32) (M_be : Int32) (M_ma : Int32) (M_so : Int32) (M_bo : Nat → Int32) (M_bn : Nat → Int32) (M_sh : Nat → Int32) (M_in : Nat → Int32) (M_su : Nat → Int32) (M_gr : Nat → Int32) (M_tr : Nat → Int32) (M_ou : Nat → Int32) (M_om : Int32) (M_ro : Nat → Int32) (x1 : Int32) (o : Int32 × (Nat → Int32) × (Nat → Int32) × (Nat → Int32) × (Nat → Int32) × (Nat → Int32) × (Nat → Int32) × (Nat → Int32) × (Nat → Int32) × Int32 × (Nat → Int32)) (hm : m_X12_renderedLength M_s M_bo M_bn M_sh M_in M_su M_gr M_tr M_ou M_om M_ro x1 = some o) : MI l yX12_renderedLength wsX12_renderedLength rm_X12_renderedLength D (TY cI cJ cZ cS) [.ref aM, .int x1] (w_X12_renderedLength cI cZ aM aM_s aM_ke aM_te aM_re aM_bo aM_bn aM_sh aM_in aM_su aM_gr aM_tr aM_ou aM_ro M_s M_km M_n M_be M_ma M_so M_bo M_bn M_sh M_in M_su M_gr M_tr M_ou M_om M_ro) (w_X12_renderedLength cI cZ aM aM_s aM_ke aM_te aM_re aM_bo aM_bn aM_sh aM_in aM_su aM_gr aM_tr aM_ou aM_ro M_s M_km M_n M_be M_ma M_so o.2.1 o.2.2.1 o.2.2.2.1 o.2.2.2.2.1 o.2.2.2.2.2.1 o.2.2.2.2.2.2.1 o.2.2.2.2.2.2.2.1 o.2.2.2.2.2.2.2.2.1 o.2.2.2.2.2.2.2.2.2.1 o.2.2.2.2.2.2.2.2.2.2) (o.1) := by
  refine MI_of (cc := cX12_renderedLength) (maxL := 2) (by decide) rfl (Nat.le_of_ble_eq_true rfl) ?_
  intro p e s m args below meth c A Q ls H locs hx hb hml hts hown hK hA hP hD hS hl hret
  have hown : s.vm.findClass RX12 = some m.cls := hown
  have hKv : va_K D vwCl (TY cI cJ cZ cS) s := hK.1
  have hl : lv_has ls 2 [(0, .ref aM), (1, .int x1)] := hl
  have S : CallFix p m c cX12_renderedLength 2 s args wsX12_renderedLength RX12 := ⟨hx, hb, hml, hown, hts⟩
  have k1 : CallW rm_X12_renderedLength s args RX12 RX12 143 yX12_isCitation cX12_isCitation 2 (some .boolean) wsX12_isCitation rm_X12_isCitation 0 0 1 := cwV 1 hts gX12_renderedLength_X12_isCitation rfl rfl rfl (by decide +kernel) ⟨Nat.le_of_ble_eq_true rfl, Nat.le_of_ble_eq_true rfl⟩
  have k2 : CallW rm_X12_renderedLength s args RX12 RX12 246 yX12_render cX12_render 2 none wsX12_render rm_X12_render 0 0 1 := cwV 1 hts gX12_renderedLength_X12_render rfl rfl rfl (by decide +kernel) ⟨Nat.le_of_ble_eq_true rfl, Nat.le_of_ble_eq_true rfl⟩
  have k3 := hts (.fieldLink RX12 206 "CitationFormatterModel" "outMany" "I") (by decide +kernel)
  have k4 : ∀ w ∈ wsX120, w ∈ wsX12_renderedLength := by decide +kernel
  refine lv_aload_n hx hb dX12_renderedLength_0 rfl (lv_at hl 0 rfl) ?_
  refine lv_iload_n hx hb dX12_renderedLength_1 rfl (lv_at hl 1 rfl) ?_
  replace hm := bd_some hm
  obtain ⟨e1, hc1, hm⟩ := hm
  refine kV_i (rest := []) (ws' := (w_X12_renderedLength cI cZ aM aM_s aM_ke aM_te aM_re aM_bo aM_bn aM_sh aM_in aM_su aM_gr aM_tr aM_ou aM_ro M_s M_km M_n M_be M_ma M_so M_bo M_bn M_sh M_in M_su M_gr M_tr M_ou M_om M_ro)) S (c_X12_isCitation l D cI cJ cZ cS aM aM_s aM_ke aM_te aM_re aM_bo aM_bn aM_sh aM_in aM_su aM_gr aM_tr aM_ou aM_ro M_s M_km M_n M_be M_ma M_so M_om x1 e1 hc1) k1 hK hP hD hS hA 0 rfl rfl rfl rfl hl.1 rfl (Nat.le_of_ble_eq_true rfl) ⟨Nat.zero_le _, Nat.zero_le _⟩ dX12_renderedLength_2 [0, 1] rfl rfl wa_X12_isCitation (sa_eq [(aM_bo, .inl (cI, 8, .inl M_bo)), (aM_bn, .inl (cI, 8, .inl M_bn)), (aM_sh, .inl (cI, 8, .inl M_sh)), (aM_in, .inl (cZ, 8, .inl M_in)), (aM_su, .inl (cI, 8, .inl M_su)), (aM_gr, .inl (cI, 8, .inl M_gr)), (aM_tr, .inl (cI, 8, .inl M_tr)), (aM_ou, .inl (cI, 300, .inl M_ou)), (aM_ro, .inl (cI, 5, .inl M_ro))] [2, 3, 4, 5, 6, 7, 8, 9, 10] 11 rfl rfl rfl rfl rfl rfl rfl) (fun H locs hP hD hS => ?_)
  refine lv_if_ne (tgt := 10) hx hb dX12_renderedLength_5 (by decide) (fun c2 => ?_) (fun c2 => ?_)
  · replace hm := if_f c2 hm
    refine lv_aload_n hx hb dX12_renderedLength_10 rfl (lv_at hl 0 rfl) ?_
    refine lv_iload_n hx hb dX12_renderedLength_11 rfl (lv_at hl 1 rfl) ?_
    replace hm := bd_some hm
    obtain ⟨e3, hc3, hm⟩ := hm
    obtain ⟨e3_0, e3_1, e3_2, e3_3, e3_4, e3_5, e3_6, e3_7, e3_8, e3_9⟩ := e3
    refine kV_v (rest := []) (ws' := (w_X12_renderedLength cI cZ aM aM_s aM_ke aM_te aM_re aM_bo aM_bn aM_sh aM_in aM_su aM_gr aM_tr aM_ou aM_ro M_s M_km M_n M_be M_ma M_so e3_0 e3_1 e3_2 e3_3 e3_4 e3_5 e3_6 e3_7 e3_8 e3_9)) S (c_X12_render l D cI cJ cZ cS aM aM_s aM_ke aM_te aM_re aM_bo aM_bn aM_sh aM_in aM_su aM_gr aM_tr aM_ou aM_ro M_s M_km M_n M_be M_ma M_so M_bo M_bn M_sh M_in M_su M_gr M_tr M_ou M_om M_ro x1 (e3_0, e3_1, e3_2, e3_3, e3_4, e3_5, e3_6, e3_7, e3_8, e3_9) hc3) k2 hK hP hD hS hA 0 rfl rfl rfl rfl hl.1 rfl (Nat.le_of_ble_eq_true rfl) ⟨Nat.zero_le _, Nat.zero_le _⟩ dX12_renderedLength_12 [0, 1, 2, 3, 4, 5, 6, 7, 8, 9, 10] rfl rfl wa_X12_render (sa_eq [] [] 11 rfl rfl rfl rfl rfl rfl rfl) (fun H locs hP hD hS => ?_)
    refine lv_aload_n hx hb dX12_renderedLength_15 rfl (lv_at hl 0 rfl) ?_
    refine va_get (D := D) (ci := 12) (v := .int e3_8) (C := RX12) (T := TX12) (N := 19) hx hb hts k4 hown hKv hP 0 rfl rfl 17 (by decide) k3 (fun _ h9 => h9) rfl dX12_renderedLength_16 ?_
    have h9 := Option.some.inj hm
    subst h9
    exact hret H locs _ ls _ hP hD hS rfl dX12_renderedLength_19
  · replace hm := if_t c2 hm
    refine lv_iconst (v := (-1)) hx hb dX12_renderedLength_8 (by decide) ?_
    have h9 := Option.some.inj hm
    subst h9
    exact hret H locs _ ls _ hP hD hS rfl dX12_renderedLength_9
set_option maxHeartbeats 4000000 in
set_option maxRecDepth 100000 in
theorem c_X12_sets (l : Launch) (D : va_G) (cI cJ cZ cS : ClassId) (aM aM_s aM_ke aM_te aM_re aM_bo aM_bn aM_sh aM_in aM_su aM_gr aM_tr aM_ou aM_ro : Nat) (M_s : Nat → Int32) (M_ke : Nat → Int32) (M_km : Int32) (M_n : Int32) (M_be : Int32) (M_ma : Int32) (M_so : Int32) (M_om : Int32) (x1 : Int32) (x2 : Int32) (o : Int32 × (Nat → Int32) × (Nat → Int32) × Int32) (hm : m_X12_sets M_s M_ke M_km x1 x2 = some o) : MI l yX12_sets wsX12_sets rm_X12_sets D (TY cI cJ cZ cS) [.ref aM, .int x1, .int x2] (w_X12_sets cI aM aM_s aM_ke aM_te aM_re aM_bo aM_bn aM_sh aM_in aM_su aM_gr aM_tr aM_ou aM_ro M_s M_ke M_km M_n M_be M_ma M_so M_om) (w_X12_sets cI aM aM_s aM_ke aM_te aM_re aM_bo aM_bn aM_sh aM_in aM_su aM_gr aM_tr aM_ou aM_ro o.2.1 o.2.2.1 o.2.2.2 M_n M_be M_ma M_so M_om) (o.1) := by
  refine MI_of (cc := cX12_sets) (maxL := 4) (by decide) rfl (Nat.le_of_ble_eq_true rfl) ?_
  intro p e s m args below meth c A Q ls H locs hx hb hml hts hown hK hA hP hD hS hl hret
  have hown : s.vm.findClass RX12 = some m.cls := hown
  have hKv : va_K D vwCl (TY cI cJ cZ cS) s := hK.1
  have hl : lv_has ls 4 [(0, .ref aM), (1, .int x1), (2, .int x2)] := hl
  have S : CallFix p m c cX12_sets 4 s args wsX12_sets RX12 := ⟨hx, hb, hml, hown, hts⟩
  have k1 : CallW rm_X12_sets s args RX12 RX12 105 yX12_keeps cX12_keeps 2 none wsX12_keeps rm_X12_keeps 0 0 0 := cwV 0 hts gX12_sets_X12_keeps rfl rfl rfl (by decide +kernel) ⟨Nat.le_of_ble_eq_true rfl, Nat.le_of_ble_eq_true rfl⟩
  have k2 := hts (.fieldLink RX12 7 "CitationFormatterModel" "s" "[I") (by decide +kernel)
  have k3 : ∀ w ∈ wsX120, w ∈ wsX12_sets := by decide +kernel
  refine lv_aload_n hx hb dX12_sets_0 rfl (lv_at hl 0 rfl) ?_
  replace hm := bd_some hm
  obtain ⟨e1, hc1, hm⟩ := hm
  refine kV_v (rest := []) (ws' := (w_X12_sets cI aM aM_s aM_ke aM_te aM_re aM_bo aM_bn aM_sh aM_in aM_su aM_gr aM_tr aM_ou aM_ro M_s e1.1 e1.2 M_n M_be M_ma M_so M_om)) S (c_X12_keeps l D cI cJ cZ cS aM aM_s aM_ke aM_te aM_re aM_bo aM_bn aM_sh aM_in aM_su aM_gr aM_tr aM_ou aM_ro M_s M_ke M_km M_n M_be M_ma M_so M_om e1 hc1) k1 hK hP hD hS hA 0 rfl rfl rfl rfl hl.1 rfl (Nat.le_of_ble_eq_true rfl) ⟨Nat.zero_le _, Nat.zero_le _⟩ dX12_sets_1 [0, 1, 2] rfl rfl wa_X12_keeps (sa_eq [] [] 3 rfl rfl rfl rfl rfl rfl rfl) (fun H locs hP hD hS => ?_)
  refine lv_aload_n hx hb dX12_sets_4 rfl (lv_at hl 0 rfl) ?_
  refine va_get (D := D) (ci := 12) (v := .ref aM_s) (C := RX12) (T := TX12) (N := 19) hx hb hts k3 hown hKv hP 0 rfl rfl 0 (by decide) k2 (fun _ h9 => h9) rfl dX12_sets_5 ?_
  refine lv_iload_n hx hb dX12_sets_8 rfl (lv_at hl 1 rfl) ?_
  replace hm := ck_some hm
  obtain ⟨h2, hm⟩ := hm
  refine va_iald hx hb hKv hP 1 0 rfl rfl h2 dX12_sets_9 ?_
  refine lv_istore_n (lv' := [(3, .int (M_s (Int32.toNatClampNeg x1))), (0, .ref aM), (1, .int x1), (2, .int x2)]) hx hb dX12_sets_10 rfl hl (by decide) rfl (fun ls hl => ?_)
  refine lv_aload_n hx hb dX12_sets_11 rfl (lv_at hl 1 rfl) ?_
  refine va_get (D := D) (ci := 12) (v := .ref aM_s) (C := RX12) (T := TX12) (N := 19) hx hb hts k3 hown hKv hP 0 rfl rfl 0 (by decide) k2 (fun _ h9 => h9) rfl dX12_sets_12 ?_
  refine lv_iload_n hx hb dX12_sets_15 rfl (lv_at hl 2 rfl) ?_
  refine lv_iload_n hx hb dX12_sets_16 rfl (lv_at hl 3 rfl) ?_
  replace hm := ck_some hm
  obtain ⟨h3, hm⟩ := hm
  refine va_iast hx hb hKv hP hD hS 1 0 rfl rfl h3 dX12_sets_17 (fun H locs hP hD hS => ?_)
  replace hP : va_P D vwCl (w_X12_sets cI aM aM_s aM_ke aM_te aM_re aM_bo aM_bn aM_sh aM_in aM_su aM_gr aM_tr aM_ou aM_ro (upd M_s (Int32.toNatClampNeg x1) x2) e1.1 e1.2 M_n M_be M_ma M_so M_om) H := hP
  replace hD : va_D A (w_X12_sets cI aM aM_s aM_ke aM_te aM_re aM_bo aM_bn aM_sh aM_in aM_su aM_gr aM_tr aM_ou aM_ro (upd M_s (Int32.toNatClampNeg x1) x2) e1.1 e1.2 M_n M_be M_ma M_so M_om) := hD
  refine lv_iload_n hx hb dX12_sets_18 rfl (lv_at hl 0 rfl) ?_
  have h9 := Option.some.inj hm
  subst h9
  exact hret H locs _ ls _ hP hD hS rfl dX12_sets_19
set_option maxHeartbeats 4000000 in
set_option maxRecDepth 100000 in
theorem c_X12_setCiteOrder (l : Launch) (D : va_G) (cI cJ cZ cS : ClassId) (aM aM_s aM_ke aM_te aM_re aM_bo aM_bn aM_sh aM_in aM_su aM_gr aM_tr aM_ou aM_ro : Nat) (M_s : Nat → Int32) (M_ke : Nat → Int32) (M_km : Int32) (M_n : Int32) (M_be : Int32) (M_ma : Int32) (M_so : Int32) (M_om : Int32) (x1 : Int32) (o : Int32 × (Nat → Int32) × (Nat → Int32) × Int32) (hm : m_X12_setCiteOrder M_s M_ke M_km x1 = some o) : MI l yX12_setCiteOrder wsX12_setCiteOrder rm_X12_setCiteOrder D (TY cI cJ cZ cS) [.ref aM, .int x1] (w_X12_setCiteOrder cI aM aM_s aM_ke aM_te aM_re aM_bo aM_bn aM_sh aM_in aM_su aM_gr aM_tr aM_ou aM_ro M_s M_ke M_km M_n M_be M_ma M_so M_om) (w_X12_setCiteOrder cI aM aM_s aM_ke aM_te aM_re aM_bo aM_bn aM_sh aM_in aM_su aM_gr aM_tr aM_ou aM_ro o.2.1 o.2.2.1 o.2.2.2 M_n M_be M_ma M_so M_om) (o.1) := by
  refine MI_of (cc := cX12_setCiteOrder) (maxL := 2) (by decide) rfl (Nat.le_of_ble_eq_true rfl) ?_
  intro p e s m args below meth c A Q ls H locs hx hb hml hts hown hK hA hP hD hS hl hret
  have hown : s.vm.findClass RX12 = some m.cls := hown
  have hKv : va_K D vwCl (TY cI cJ cZ cS) s := hK.1
  have hl : lv_has ls 2 [(0, .ref aM), (1, .int x1)] := hl
  have S : CallFix p m c cX12_setCiteOrder 2 s args wsX12_setCiteOrder RX12 := ⟨hx, hb, hml, hown, hts⟩
  have k1 : CallB rm_X12_setCiteOrder s args RX12 50 yX12_in cX12_in 6 (some .boolean) wsX12_in rm_X12_in 0 0 3 ∧ (Cond.static yX12_in).before args s = true := va_cwS 3 hts gX12_setCiteOrder_X12_in rfl rfl rfl (by decide +kernel) ⟨Nat.le_of_ble_eq_true rfl, Nat.le_of_ble_eq_true rfl⟩
  have k2 : CallW rm_X12_setCiteOrder s args RX12 RX12 128 yX12_sets cX12_sets 4 (some .int) wsX12_sets rm_X12_sets 0 0 2 := cwV 2 hts gX12_setCiteOrder_X12_sets rfl rfl rfl (by decide +kernel) ⟨Nat.le_of_ble_eq_true rfl, Nat.le_of_ble_eq_true rfl⟩
  have J21 : ∀ (y0_j21 : Int32) (M_s_j21 : Nat → Int32) (M_ke_j21 : Nat → Int32) (M_km_j21 : Int32), (m_X12_setCiteOrder_J21 y0_j21 M_s_j21 M_ke_j21 M_km_j21 = some o) → ∀ (H : Heap) (locs : List Loc) (ls : Array Slot), va_P D vwCl (w_X12_setCiteOrder cI aM aM_s aM_ke aM_te aM_re aM_bo aM_bn aM_sh aM_in aM_su aM_gr aM_tr aM_ou aM_ro M_s_j21 M_ke_j21 M_km_j21 M_n M_be M_ma M_so M_om) H → va_D A (w_X12_setCiteOrder cI aM aM_s aM_ke aM_te aM_re aM_bo aM_bn aM_sh aM_in aM_su aM_gr aM_tr aM_ou aM_ro M_s_j21 M_ke_j21 M_km_j21 M_n M_be M_ma M_so M_om) → va_S A s.heap H locs → lv_has ls 2 [(0, .ref aM)] → W p l e rm_X12_setCiteOrder s m args below meth c H locs 0 0 Q (F0 m 21 ls [.int y0_j21]) := by
    intro y0_j21 M_s_j21 M_ke_j21 M_km_j21 hm H locs ls hP hD hS hl
    have h9 := Option.some.inj hm
    subst h9
    exact hret H locs _ ls _ hP hD hS rfl dX12_setCiteOrder_21
  refine lv_iload_n hx hb dX12_setCiteOrder_0 rfl (lv_at hl 1 rfl) ?_
  refine lv_i2l hx hb dX12_setCiteOrder_1 rfl ?_
  refine lv_lconst (v := 0) hx hb dX12_setCiteOrder_2 (by decide) ?_
  refine lv_lconst (v := 1) hx hb dX12_setCiteOrder_3 (by decide) ?_
  replace hm := bd_some hm
  obtain ⟨e1, hc1, hm⟩ := hm
  refine kS_i (rest := []) S (c_X12_in l D cI cJ cZ cS (Int32.toInt64 x1) 0 1 e1 hc1) k1 hK hP hD hS hA rfl hl.1 rfl (Nat.le_of_ble_eq_true rfl) ⟨Nat.zero_le _, Nat.zero_le _⟩ dX12_setCiteOrder_4 (fun H locs hP hD hS => ?_)
  refine lv_if_eq (tgt := 20) hx hb dX12_setCiteOrder_7 (by decide) (fun c2 => ?_) (fun c2 => ?_)
  · replace hm := if_t c2 hm
    refine lv_iconst (v := (-1)) hx hb dX12_setCiteOrder_20 (by decide) ?_
    exact J21 (-1) M_s M_ke M_km hm H locs ls hP hD hS (lv_sub hl [0] rfl)
  · replace hm := if_f c2 hm
    refine lv_aload_n hx hb dX12_setCiteOrder_10 rfl (lv_at hl 0 rfl) ?_
    refine lv_bipush (v := 63) hx hb dX12_setCiteOrder_11 (by decide) ?_
    refine lv_iload_n hx hb dX12_setCiteOrder_13 rfl (lv_at hl 1 rfl) ?_
    replace hm := bd_some hm
    obtain ⟨e3, hc3, hm⟩ := hm
    obtain ⟨e3_0, e3_1, e3_2, e3_3⟩ := e3
    refine kV_i (rest := []) (ws' := (w_X12_setCiteOrder cI aM aM_s aM_ke aM_te aM_re aM_bo aM_bn aM_sh aM_in aM_su aM_gr aM_tr aM_ou aM_ro e3_1 e3_2 e3_3 M_n M_be M_ma M_so M_om)) S (c_X12_sets l D cI cJ cZ cS aM aM_s aM_ke aM_te aM_re aM_bo aM_bn aM_sh aM_in aM_su aM_gr aM_tr aM_ou aM_ro M_s M_ke M_km M_n M_be M_ma M_so M_om 63 x1 (e3_0, e3_1, e3_2, e3_3) hc3) k2 hK hP hD hS hA 0 rfl rfl rfl rfl hl.1 rfl (Nat.le_of_ble_eq_true rfl) ⟨Nat.zero_le _, Nat.zero_le _⟩ dX12_setCiteOrder_14 [0, 1, 2] rfl rfl wa_X12_sets (sa_eq [] [] 3 rfl rfl rfl rfl rfl rfl rfl) (fun H locs hP hD hS => ?_)
    refine lv_goto (tgt := 21) hx hb dX12_setCiteOrder_17 (by decide) ?_
    exact J21 e3_0 e3_1 e3_2 e3_3 hm H locs ls hP hD hS (lv_sub hl [0] rfl)
set_option maxHeartbeats 4000000 in
set_option maxRecDepth 100000 in
theorem c_X12_setCollapseLevel (l : Launch) (D : va_G) (cI cJ cZ cS : ClassId) (aM aM_s aM_ke aM_te aM_re aM_bo aM_bn aM_sh aM_in aM_su aM_gr aM_tr aM_ou aM_ro : Nat) (M_s : Nat → Int32) (M_ke : Nat → Int32) (M_km : Int32) (M_n : Int32) (M_be : Int32) (M_ma : Int32) (M_so : Int32) (M_om : Int32) (x1 : Int32) (o : Int32 × (Nat → Int32) × (Nat → Int32) × Int32) (hm : m_X12_setCollapseLevel M_s M_ke M_km x1 = some o) : MI l yX12_setCollapseLevel wsX12_setCollapseLevel rm_X12_setCollapseLevel D (TY cI cJ cZ cS) [.ref aM, .int x1] (w_X12_setCollapseLevel cI aM aM_s aM_ke aM_te aM_re aM_bo aM_bn aM_sh aM_in aM_su aM_gr aM_tr aM_ou aM_ro M_s M_ke M_km M_n M_be M_ma M_so M_om) (w_X12_setCollapseLevel cI aM aM_s aM_ke aM_te aM_re aM_bo aM_bn aM_sh aM_in aM_su aM_gr aM_tr aM_ou aM_ro o.2.1 o.2.2.1 o.2.2.2 M_n M_be M_ma M_so M_om) (o.1) := by
  refine MI_of (cc := cX12_setCollapseLevel) (maxL := 2) (by decide) rfl (Nat.le_of_ble_eq_true rfl) ?_
  intro p e s m args below meth c A Q ls H locs hx hb hml hts hown hK hA hP hD hS hl hret
  have hown : s.vm.findClass RX12 = some m.cls := hown
  have hKv : va_K D vwCl (TY cI cJ cZ cS) s := hK.1
  have hl : lv_has ls 2 [(0, .ref aM), (1, .int x1)] := hl
  have S : CallFix p m c cX12_setCollapseLevel 2 s args wsX12_setCollapseLevel RX12 := ⟨hx, hb, hml, hown, hts⟩
  have k1 := hts (.constantLong RX12 131 2) (by decide +kernel)
  have k2 : CallB rm_X12_setCollapseLevel s args RX12 50 yX12_in cX12_in 6 (some .boolean) wsX12_in rm_X12_in 0 0 3 ∧ (Cond.static yX12_in).before args s = true := va_cwS 3 hts gX12_setCollapseLevel_X12_in rfl rfl rfl (by decide +kernel) ⟨Nat.le_of_ble_eq_true rfl, Nat.le_of_ble_eq_true rfl⟩
  have k3 : CallW rm_X12_setCollapseLevel s args RX12 RX12 128 yX12_sets cX12_sets 4 (some .int) wsX12_sets rm_X12_sets 0 0 2 := cwV 2 hts gX12_setCollapseLevel_X12_sets rfl rfl rfl (by decide +kernel) ⟨Nat.le_of_ble_eq_true rfl, Nat.le_of_ble_eq_true rfl⟩
  have J23 : ∀ (y0_j23 : Int32) (M_s_j23 : Nat → Int32) (M_ke_j23 : Nat → Int32) (M_km_j23 : Int32), (m_X12_setCollapseLevel_J23 y0_j23 M_s_j23 M_ke_j23 M_km_j23 = some o) → ∀ (H : Heap) (locs : List Loc) (ls : Array Slot), va_P D vwCl (w_X12_setCollapseLevel cI aM aM_s aM_ke aM_te aM_re aM_bo aM_bn aM_sh aM_in aM_su aM_gr aM_tr aM_ou aM_ro M_s_j23 M_ke_j23 M_km_j23 M_n M_be M_ma M_so M_om) H → va_D A (w_X12_setCollapseLevel cI aM aM_s aM_ke aM_te aM_re aM_bo aM_bn aM_sh aM_in aM_su aM_gr aM_tr aM_ou aM_ro M_s_j23 M_ke_j23 M_km_j23 M_n M_be M_ma M_so M_om) → va_S A s.heap H locs → lv_has ls 2 [(0, .ref aM)] → W p l e rm_X12_setCollapseLevel s m args below meth c H locs 0 0 Q (F0 m 23 ls [.int y0_j23]) := by
    intro y0_j23 M_s_j23 M_ke_j23 M_km_j23 hm H locs ls hP hD hS hl
    have h9 := Option.some.inj hm
    subst h9
    exact hret H locs _ ls _ hP hD hS rfl dX12_setCollapseLevel_23
  refine lv_iload_n hx hb dX12_setCollapseLevel_0 rfl (lv_at hl 1 rfl) ?_
  refine lv_i2l hx hb dX12_setCollapseLevel_1 rfl ?_
  refine lv_lconst (v := 0) hx hb dX12_setCollapseLevel_2 (by decide) ?_
  refine lv_ldc2 hx hb hown k1 dX12_setCollapseLevel_3 ?_
  replace hm := bd_some hm
  obtain ⟨e1, hc1, hm⟩ := hm
  refine kS_i (rest := []) S (c_X12_in l D cI cJ cZ cS (Int32.toInt64 x1) 0 2 e1 hc1) k2 hK hP hD hS hA rfl hl.1 rfl (Nat.le_of_ble_eq_true rfl) ⟨Nat.zero_le _, Nat.zero_le _⟩ dX12_setCollapseLevel_6 (fun H locs hP hD hS => ?_)
  refine lv_if_eq (tgt := 22) hx hb dX12_setCollapseLevel_9 (by decide) (fun c2 => ?_) (fun c2 => ?_)
  · replace hm := if_t c2 hm
    refine lv_iconst (v := (-1)) hx hb dX12_setCollapseLevel_22 (by decide) ?_
    exact J23 (-1) M_s M_ke M_km hm H locs ls hP hD hS (lv_sub hl [0] rfl)
  · replace hm := if_f c2 hm
    refine lv_aload_n hx hb dX12_setCollapseLevel_12 rfl (lv_at hl 0 rfl) ?_
    refine lv_bipush (v := 61) hx hb dX12_setCollapseLevel_13 (by decide) ?_
    refine lv_iload_n hx hb dX12_setCollapseLevel_15 rfl (lv_at hl 1 rfl) ?_
    replace hm := bd_some hm
    obtain ⟨e3, hc3, hm⟩ := hm
    obtain ⟨e3_0, e3_1, e3_2, e3_3⟩ := e3
    refine kV_i (rest := []) (ws' := (w_X12_setCollapseLevel cI aM aM_s aM_ke aM_te aM_re aM_bo aM_bn aM_sh aM_in aM_su aM_gr aM_tr aM_ou aM_ro e3_1 e3_2 e3_3 M_n M_be M_ma M_so M_om)) S (c_X12_sets l D cI cJ cZ cS aM aM_s aM_ke aM_te aM_re aM_bo aM_bn aM_sh aM_in aM_su aM_gr aM_tr aM_ou aM_ro M_s M_ke M_km M_n M_be M_ma M_so M_om 61 x1 (e3_0, e3_1, e3_2, e3_3) hc3) k3 hK hP hD hS hA 0 rfl rfl rfl rfl hl.1 rfl (Nat.le_of_ble_eq_true rfl) ⟨Nat.zero_le _, Nat.zero_le _⟩ dX12_setCollapseLevel_16 [0, 1, 2] rfl rfl wa_X12_sets (sa_eq [] [] 3 rfl rfl rfl rfl rfl rfl rfl) (fun H locs hP hD hS => ?_)
    refine lv_goto (tgt := 23) hx hb dX12_setCollapseLevel_19 (by decide) ?_
    exact J23 e3_0 e3_1 e3_2 e3_3 hm H locs ls hP hD hS (lv_sub hl [0] rfl)
set_option maxHeartbeats 4000000 in
set_option maxRecDepth 100000 in
theorem c_X12_setDisambiguation (l : Launch) (D : va_G) (cI cJ cZ cS : ClassId) (aM aM_s aM_ke aM_te aM_re aM_bo aM_bn aM_sh aM_in aM_su aM_gr aM_tr aM_ou aM_ro : Nat) (M_s : Nat → Int32) (M_ke : Nat → Int32) (M_km : Int32) (M_n : Int32) (M_be : Int32) (M_ma : Int32) (M_so : Int32) (M_om : Int32) (x1 : Int32) (o : Int32 × (Nat → Int32) × (Nat → Int32) × Int32) (hm : m_X12_setDisambiguation M_s M_ke M_km x1 = some o) : MI l yX12_setDisambiguation wsX12_setDisambiguation rm_X12_setDisambiguation D (TY cI cJ cZ cS) [.ref aM, .int x1] (w_X12_setDisambiguation cI aM aM_s aM_ke aM_te aM_re aM_bo aM_bn aM_sh aM_in aM_su aM_gr aM_tr aM_ou aM_ro M_s M_ke M_km M_n M_be M_ma M_so M_om) (w_X12_setDisambiguation cI aM aM_s aM_ke aM_te aM_re aM_bo aM_bn aM_sh aM_in aM_su aM_gr aM_tr aM_ou aM_ro o.2.1 o.2.2.1 o.2.2.2 M_n M_be M_ma M_so M_om) (o.1) := by
  refine MI_of (cc := cX12_setDisambiguation) (maxL := 2) (by decide) rfl (Nat.le_of_ble_eq_true rfl) ?_
  intro p e s m args below meth c A Q ls H locs hx hb hml hts hown hK hA hP hD hS hl hret
  have hown : s.vm.findClass RX12 = some m.cls := hown
  have hKv : va_K D vwCl (TY cI cJ cZ cS) s := hK.1
  have hl : lv_has ls 2 [(0, .ref aM), (1, .int x1)] := hl
  have S : CallFix p m c cX12_setDisambiguation 2 s args wsX12_setDisambiguation RX12 := ⟨hx, hb, hml, hown, hts⟩
  have k1 := hts (.constantLong RX12 137 7) (by decide +kernel)
  have k2 : CallB rm_X12_setDisambiguation s args RX12 50 yX12_in cX12_in 6 (some .boolean) wsX12_in rm_X12_in 0 0 3 ∧ (Cond.static yX12_in).before args s = true := va_cwS 3 hts gX12_setDisambiguation_X12_in rfl rfl rfl (by decide +kernel) ⟨Nat.le_of_ble_eq_true rfl, Nat.le_of_ble_eq_true rfl⟩
  have k3 : CallW rm_X12_setDisambiguation s args RX12 RX12 128 yX12_sets cX12_sets 4 (some .int) wsX12_sets rm_X12_sets 0 0 2 := cwV 2 hts gX12_setDisambiguation_X12_sets rfl rfl rfl (by decide +kernel) ⟨Nat.le_of_ble_eq_true rfl, Nat.le_of_ble_eq_true rfl⟩
  have J23 : ∀ (y0_j23 : Int32) (M_s_j23 : Nat → Int32) (M_ke_j23 : Nat → Int32) (M_km_j23 : Int32), (m_X12_setDisambiguation_J23 y0_j23 M_s_j23 M_ke_j23 M_km_j23 = some o) → ∀ (H : Heap) (locs : List Loc) (ls : Array Slot), va_P D vwCl (w_X12_setDisambiguation cI aM aM_s aM_ke aM_te aM_re aM_bo aM_bn aM_sh aM_in aM_su aM_gr aM_tr aM_ou aM_ro M_s_j23 M_ke_j23 M_km_j23 M_n M_be M_ma M_so M_om) H → va_D A (w_X12_setDisambiguation cI aM aM_s aM_ke aM_te aM_re aM_bo aM_bn aM_sh aM_in aM_su aM_gr aM_tr aM_ou aM_ro M_s_j23 M_ke_j23 M_km_j23 M_n M_be M_ma M_so M_om) → va_S A s.heap H locs → lv_has ls 2 [(0, .ref aM)] → W p l e rm_X12_setDisambiguation s m args below meth c H locs 0 0 Q (F0 m 23 ls [.int y0_j23]) := by
    intro y0_j23 M_s_j23 M_ke_j23 M_km_j23 hm H locs ls hP hD hS hl
    have h9 := Option.some.inj hm
    subst h9
    exact hret H locs _ ls _ hP hD hS rfl dX12_setDisambiguation_23
  refine lv_iload_n hx hb dX12_setDisambiguation_0 rfl (lv_at hl 1 rfl) ?_
  refine lv_i2l hx hb dX12_setDisambiguation_1 rfl ?_
  refine lv_lconst (v := 0) hx hb dX12_setDisambiguation_2 (by decide) ?_
  refine lv_ldc2 hx hb hown k1 dX12_setDisambiguation_3 ?_
  replace hm := bd_some hm
  obtain ⟨e1, hc1, hm⟩ := hm
  refine kS_i (rest := []) S (c_X12_in l D cI cJ cZ cS (Int32.toInt64 x1) 0 7 e1 hc1) k2 hK hP hD hS hA rfl hl.1 rfl (Nat.le_of_ble_eq_true rfl) ⟨Nat.zero_le _, Nat.zero_le _⟩ dX12_setDisambiguation_6 (fun H locs hP hD hS => ?_)
  refine lv_if_eq (tgt := 22) hx hb dX12_setDisambiguation_9 (by decide) (fun c2 => ?_) (fun c2 => ?_)
  · replace hm := if_t c2 hm
    refine lv_iconst (v := (-1)) hx hb dX12_setDisambiguation_22 (by decide) ?_
    exact J23 (-1) M_s M_ke M_km hm H locs ls hP hD hS (lv_sub hl [0] rfl)
  · replace hm := if_f c2 hm
    refine lv_aload_n hx hb dX12_setDisambiguation_12 rfl (lv_at hl 0 rfl) ?_
    refine lv_bipush (v := 60) hx hb dX12_setDisambiguation_13 (by decide) ?_
    refine lv_iload_n hx hb dX12_setDisambiguation_15 rfl (lv_at hl 1 rfl) ?_
    replace hm := bd_some hm
    obtain ⟨e3, hc3, hm⟩ := hm
    obtain ⟨e3_0, e3_1, e3_2, e3_3⟩ := e3
    refine kV_i (rest := []) (ws' := (w_X12_setDisambiguation cI aM aM_s aM_ke aM_te aM_re aM_bo aM_bn aM_sh aM_in aM_su aM_gr aM_tr aM_ou aM_ro e3_1 e3_2 e3_3 M_n M_be M_ma M_so M_om)) S (c_X12_sets l D cI cJ cZ cS aM aM_s aM_ke aM_te aM_re aM_bo aM_bn aM_sh aM_in aM_su aM_gr aM_tr aM_ou aM_ro M_s M_ke M_km M_n M_be M_ma M_so M_om 60 x1 (e3_0, e3_1, e3_2, e3_3) hc3) k3 hK hP hD hS hA 0 rfl rfl rfl rfl hl.1 rfl (Nat.le_of_ble_eq_true rfl) ⟨Nat.zero_le _, Nat.zero_le _⟩ dX12_setDisambiguation_16 [0, 1, 2] rfl rfl wa_X12_sets (sa_eq [] [] 3 rfl rfl rfl rfl rfl rfl rfl) (fun H locs hP hD hS => ?_)
    refine lv_goto (tgt := 23) hx hb dX12_setDisambiguation_19 (by decide) ?_
    exact J23 e3_0 e3_1 e3_2 e3_3 hm H locs ls hP hD hS (lv_sub hl [0] rfl)
set_option maxHeartbeats 4000000 in
set_option maxRecDepth 100000 in
theorem c_X12_setEtAl (l : Launch) (D : va_G) (cI cJ cZ cS : ClassId) (aM aM_s aM_ke aM_te aM_re aM_bo aM_bn aM_sh aM_in aM_su aM_gr aM_tr aM_ou aM_ro : Nat) (M_s : Nat → Int32) (M_ke : Nat → Int32) (M_km : Int32) (M_n : Int32) (M_be : Int32) (M_ma : Int32) (M_so : Int32) (M_om : Int32) (x1 : Int32) (x2 : Int32) (o : Int32 × (Nat → Int32) × (Nat → Int32) × Int32) (hm : m_X12_setEtAl M_s M_ke M_km x1 x2 = some o) : MI l yX12_setEtAl wsX12_setEtAl rm_X12_setEtAl D (TY cI cJ cZ cS) [.ref aM, .int x1, .int x2] (w_X12_setEtAl cI aM aM_s aM_ke aM_te aM_re aM_bo aM_bn aM_sh aM_in aM_su aM_gr aM_tr aM_ou aM_ro M_s M_ke M_km M_n M_be M_ma M_so M_om) (w_X12_setEtAl cI aM aM_s aM_ke aM_te aM_re aM_bo aM_bn aM_sh aM_in aM_su aM_gr aM_tr aM_ou aM_ro o.2.1 o.2.2.1 o.2.2.2 M_n M_be M_ma M_so M_om) (o.1) := by
  refine MI_of (cc := cX12_setEtAl) (maxL := 4) (by decide) rfl (Nat.le_of_ble_eq_true rfl) ?_
  intro p e s m args below meth c A Q ls H locs hx hb hml hts hown hK hA hP hD hS hl hret
  have hown : s.vm.findClass RX12 = some m.cls := hown
  have hKv : va_K D vwCl (TY cI cJ cZ cS) s := hK.1
  have hl : lv_has ls 4 [(0, .ref aM), (1, .int x1), (2, .int x2)] := hl
  have S : CallFix p m c cX12_setEtAl 4 s args wsX12_setEtAl RX12 := ⟨hx, hb, hml, hown, hts⟩
  have k1 := hts (.constantLong RX12 133 5) (by decide +kernel)
  have k2 : CallB rm_X12_setEtAl s args RX12 50 yX12_in cX12_in 6 (some .boolean) wsX12_in rm_X12_in 0 0 3 ∧ (Cond.static yX12_in).before args s = true := va_cwS 3 hts gX12_setEtAl_X12_in rfl rfl rfl (by decide +kernel) ⟨Nat.le_of_ble_eq_true rfl, Nat.le_of_ble_eq_true rfl⟩
  have k3 := hts (.constantLong RX12 135 3) (by decide +kernel)
  have k4 : CallW rm_X12_setEtAl s args RX12 RX12 128 yX12_sets cX12_sets 4 (some .int) wsX12_sets rm_X12_sets 0 0 2 := cwV 2 hts gX12_setEtAl_X12_sets rfl rfl rfl (by decide +kernel) ⟨Nat.le_of_ble_eq_true rfl, Nat.le_of_ble_eq_true rfl⟩
  have k5 := hts (.fieldLink RX12 7 "CitationFormatterModel" "s" "[I") (by decide +kernel)
  have k6 : ∀ w ∈ wsX120, w ∈ wsX12_setEtAl := by decide +kernel
  have J24 : ∀ (M_s_j24 : Nat → Int32) (M_ke_j24 : Nat → Int32) (M_km_j24 : Int32), (m_X12_setEtAl_J24 M_s_j24 M_ke_j24 M_km_j24 = some o) → ∀ (H : Heap) (locs : List Loc) (ls : Array Slot), va_P D vwCl (w_X12_setEtAl cI aM aM_s aM_ke aM_te aM_re aM_bo aM_bn aM_sh aM_in aM_su aM_gr aM_tr aM_ou aM_ro M_s_j24 M_ke_j24 M_km_j24 M_n M_be M_ma M_so M_om) H → va_D A (w_X12_setEtAl cI aM aM_s aM_ke aM_te aM_re aM_bo aM_bn aM_sh aM_in aM_su aM_gr aM_tr aM_ou aM_ro M_s_j24 M_ke_j24 M_km_j24 M_n M_be M_ma M_so M_om) → va_S A s.heap H locs → lv_has ls 4 [(0, .ref aM)] → W p l e rm_X12_setEtAl s m args below meth c H locs 0 0 Q (F0 m 24 ls []) := by
    intro M_s_j24 M_ke_j24 M_km_j24 hm H locs ls hP hD hS hl
    refine lv_iconst (v := (-1)) hx hb dX12_setEtAl_24 (by decide) ?_
    have h9 := Option.some.inj hm
    subst h9
    exact hret H locs _ ls _ hP hD hS rfl dX12_setEtAl_25
  refine lv_iload_n hx hb dX12_setEtAl_0 rfl (lv_at hl 1 rfl) ?_
  refine lv_i2l hx hb dX12_setEtAl_1 rfl ?_
  refine lv_lconst (v := 0) hx hb dX12_setEtAl_2 (by decide) ?_
  refine lv_ldc2 hx hb hown k1 dX12_setEtAl_3 ?_
  replace hm := bd_some hm
  obtain ⟨e1, hc1, hm⟩ := hm
  refine kS_i (rest := []) S (c_X12_in l D cI cJ cZ cS (Int32.toInt64 x1) 0 5 e1 hc1) k2 hK hP hD hS hA rfl hl.1 rfl (Nat.le_of_ble_eq_true rfl) ⟨Nat.zero_le _, Nat.zero_le _⟩ dX12_setEtAl_6 (fun H locs hP hD hS => ?_)
  refine lv_if_eq (tgt := 24) hx hb dX12_setEtAl_9 (by decide) (fun c2 => ?_) (fun c2 => ?_)
  · replace hm := if_t c2 hm
    exact J24 M_s M_ke M_km hm H locs ls hP hD hS (lv_sub hl [0] rfl)
  · replace hm := if_f c2 hm
    refine lv_iload_n hx hb dX12_setEtAl_12 rfl (lv_at hl 2 rfl) ?_
    refine lv_i2l hx hb dX12_setEtAl_13 rfl ?_
    refine lv_lconst (v := 1) hx hb dX12_setEtAl_14 (by decide) ?_
    refine lv_ldc2 hx hb hown k3 dX12_setEtAl_15 ?_
    replace hm := bd_some hm
    obtain ⟨e3, hc3, hm⟩ := hm
    refine kS_i (rest := []) S (c_X12_in l D cI cJ cZ cS (Int32.toInt64 x2) 1 3 e3 hc3) k2 hK hP hD hS hA rfl hl.1 rfl (Nat.le_of_ble_eq_true rfl) ⟨Nat.zero_le _, Nat.zero_le _⟩ dX12_setEtAl_18 (fun H locs hP hD hS => ?_)
    refine lv_if_ne (tgt := 26) hx hb dX12_setEtAl_21 (by decide) (fun c4 => ?_) (fun c4 => ?_)
    · replace hm := if_f c4 hm
      refine lv_bipush (v := 10) hx hb dX12_setEtAl_26 (by decide) ?_
      refine lv_aload_n hx hb dX12_setEtAl_28 rfl (lv_at hl 0 rfl) ?_
      refine lv_bipush (v := 58) hx hb dX12_setEtAl_29 (by decide) ?_
      refine lv_iload_n hx hb dX12_setEtAl_31 rfl (lv_at hl 1 rfl) ?_
      replace hm := bd_some hm
      obtain ⟨e5, hc5, hm⟩ := hm
      obtain ⟨e5_0, e5_1, e5_2, e5_3⟩ := e5
      refine kV_i (rest := [.int 10]) (ws' := (w_X12_setEtAl cI aM aM_s aM_ke aM_te aM_re aM_bo aM_bn aM_sh aM_in aM_su aM_gr aM_tr aM_ou aM_ro e5_1 e5_2 e5_3 M_n M_be M_ma M_so M_om)) S (c_X12_sets l D cI cJ cZ cS aM aM_s aM_ke aM_te aM_re aM_bo aM_bn aM_sh aM_in aM_su aM_gr aM_tr aM_ou aM_ro M_s M_ke M_km M_n M_be M_ma M_so M_om 58 x1 (e5_0, e5_1, e5_2, e5_3) hc5) k4 hK hP hD hS hA 0 rfl rfl rfl rfl hl.1 rfl (Nat.le_of_ble_eq_true rfl) ⟨Nat.zero_le _, Nat.zero_le _⟩ dX12_setEtAl_32 [0, 1, 2] rfl rfl wa_X12_sets (sa_eq [] [] 3 rfl rfl rfl rfl rfl rfl rfl) (fun H locs hP hD hS => ?_)
      refine lv_imul hx hb dX12_setEtAl_35 ?_
      refine lv_aload_n hx hb dX12_setEtAl_36 rfl (lv_at hl 0 rfl) ?_
      refine va_get (D := D) (ci := 12) (v := .ref aM_s) (C := RX12) (T := TX12) (N := 19) hx hb hts k6 hown hKv hP 0 rfl rfl 0 (by decide) k5 (fun _ h9 => h9) rfl dX12_setEtAl_37 ?_
      refine lv_bipush (v := 59) hx hb dX12_setEtAl_40 (by decide) ?_
      replace hm := ck_some hm
      obtain ⟨h6, hm⟩ := hm
      refine va_iald hx hb hKv hP 1 0 rfl rfl h6 dX12_setEtAl_42 ?_
      refine lv_iadd hx hb dX12_setEtAl_43 ?_
      refine lv_istore_n (lv' := [(3, .int ((10 * e5_0) + (e5_1 (Int32.toNatClampNeg 59)))), (0, .ref aM), (1, .int x1), (2, .int x2)]) hx hb dX12_setEtAl_44 rfl hl (by decide) rfl (fun ls hl => ?_)
      refine lv_aload_n hx hb dX12_setEtAl_45 rfl (lv_at hl 1 rfl) ?_
      refine va_get (D := D) (ci := 12) (v := .ref aM_s) (C := RX12) (T := TX12) (N := 19) hx hb hts k6 hown hKv hP 0 rfl rfl 0 (by decide) k5 (fun _ h9 => h9) rfl dX12_setEtAl_46 ?_
      refine lv_bipush (v := 59) hx hb dX12_setEtAl_49 (by decide) ?_
      refine lv_iload_n hx hb dX12_setEtAl_51 rfl (lv_at hl 3 rfl) ?_
      replace hm := ck_some hm
      obtain ⟨h7, hm⟩ := hm
      refine va_iast hx hb hKv hP hD hS 1 0 rfl rfl h7 dX12_setEtAl_52 (fun H locs hP hD hS => ?_)
      replace hP : va_P D vwCl (w_X12_setEtAl cI aM aM_s aM_ke aM_te aM_re aM_bo aM_bn aM_sh aM_in aM_su aM_gr aM_tr aM_ou aM_ro (upd e5_1 (Int32.toNatClampNeg 59) x2) e5_2 e5_3 M_n M_be M_ma M_so M_om) H := hP
      replace hD : va_D A (w_X12_setEtAl cI aM aM_s aM_ke aM_te aM_re aM_bo aM_bn aM_sh aM_in aM_su aM_gr aM_tr aM_ou aM_ro (upd e5_1 (Int32.toNatClampNeg 59) x2) e5_2 e5_3 M_n M_be M_ma M_so M_om) := hD
      refine lv_iload_n hx hb dX12_setEtAl_53 rfl (lv_at hl 0 rfl) ?_
      have h9 := Option.some.inj hm
      subst h9
      exact hret H locs _ ls _ hP hD hS rfl dX12_setEtAl_54
    · replace hm := if_t c4 hm
      exact J24 M_s M_ke M_km hm H locs ls hP hD hS (lv_sub hl [0] rfl)
set_option maxHeartbeats 4000000 in
set_option maxRecDepth 100000 in
theorem c_X12_setNumbering (l : Launch) (D : va_G) (cI cJ cZ cS : ClassId) (aM aM_s aM_ke aM_te aM_re aM_bo aM_bn aM_sh aM_in aM_su aM_gr aM_tr aM_ou aM_ro : Nat) (M_s : Nat → Int32) (M_ke : Nat → Int32) (M_km : Int32) (M_n : Int32) (M_be : Int32) (M_ma : Int32) (M_so : Int32) (M_om : Int32) (x1 : Int32) (o : Int32 × (Nat → Int32) × (Nat → Int32) × Int32) (hm : m_X12_setNumbering M_s M_ke M_km x1 = some o) : MI l yX12_setNumbering wsX12_setNumbering rm_X12_setNumbering D (TY cI cJ cZ cS) [.ref aM, .int x1] (w_X12_setNumbering cI aM aM_s aM_ke aM_te aM_re aM_bo aM_bn aM_sh aM_in aM_su aM_gr aM_tr aM_ou aM_ro M_s M_ke M_km M_n M_be M_ma M_so M_om) (w_X12_setNumbering cI aM aM_s aM_ke aM_te aM_re aM_bo aM_bn aM_sh aM_in aM_su aM_gr aM_tr aM_ou aM_ro o.2.1 o.2.2.1 o.2.2.2 M_n M_be M_ma M_so M_om) (o.1) := by
  refine MI_of (cc := cX12_setNumbering) (maxL := 2) (by decide) rfl (Nat.le_of_ble_eq_true rfl) ?_
  intro p e s m args below meth c A Q ls H locs hx hb hml hts hown hK hA hP hD hS hl hret
  have hown : s.vm.findClass RX12 = some m.cls := hown
  have hKv : va_K D vwCl (TY cI cJ cZ cS) s := hK.1
  have hl : lv_has ls 2 [(0, .ref aM), (1, .int x1)] := hl
  have S : CallFix p m c cX12_setNumbering 2 s args wsX12_setNumbering RX12 := ⟨hx, hb, hml, hown, hts⟩
  have k1 : CallB rm_X12_setNumbering s args RX12 50 yX12_in cX12_in 6 (some .boolean) wsX12_in rm_X12_in 0 0 3 ∧ (Cond.static yX12_in).before args s = true := va_cwS 3 hts gX12_setNumbering_X12_in rfl rfl rfl (by decide +kernel) ⟨Nat.le_of_ble_eq_true rfl, Nat.le_of_ble_eq_true rfl⟩
  have k2 : CallW rm_X12_setNumbering s args RX12 RX12 128 yX12_sets cX12_sets 4 (some .int) wsX12_sets rm_X12_sets 0 0 2 := cwV 2 hts gX12_setNumbering_X12_sets rfl rfl rfl (by decide +kernel) ⟨Nat.le_of_ble_eq_true rfl, Nat.le_of_ble_eq_true rfl⟩
  have J21 : ∀ (y0_j21 : Int32) (M_s_j21 : Nat → Int32) (M_ke_j21 : Nat → Int32) (M_km_j21 : Int32), (m_X12_setNumbering_J21 y0_j21 M_s_j21 M_ke_j21 M_km_j21 = some o) → ∀ (H : Heap) (locs : List Loc) (ls : Array Slot), va_P D vwCl (w_X12_setNumbering cI aM aM_s aM_ke aM_te aM_re aM_bo aM_bn aM_sh aM_in aM_su aM_gr aM_tr aM_ou aM_ro M_s_j21 M_ke_j21 M_km_j21 M_n M_be M_ma M_so M_om) H → va_D A (w_X12_setNumbering cI aM aM_s aM_ke aM_te aM_re aM_bo aM_bn aM_sh aM_in aM_su aM_gr aM_tr aM_ou aM_ro M_s_j21 M_ke_j21 M_km_j21 M_n M_be M_ma M_so M_om) → va_S A s.heap H locs → lv_has ls 2 [(0, .ref aM)] → W p l e rm_X12_setNumbering s m args below meth c H locs 0 0 Q (F0 m 21 ls [.int y0_j21]) := by
    intro y0_j21 M_s_j21 M_ke_j21 M_km_j21 hm H locs ls hP hD hS hl
    have h9 := Option.some.inj hm
    subst h9
    exact hret H locs _ ls _ hP hD hS rfl dX12_setNumbering_21
  refine lv_iload_n hx hb dX12_setNumbering_0 rfl (lv_at hl 1 rfl) ?_
  refine lv_i2l hx hb dX12_setNumbering_1 rfl ?_
  refine lv_lconst (v := 0) hx hb dX12_setNumbering_2 (by decide) ?_
  refine lv_lconst (v := 1) hx hb dX12_setNumbering_3 (by decide) ?_
  replace hm := bd_some hm
  obtain ⟨e1, hc1, hm⟩ := hm
  refine kS_i (rest := []) S (c_X12_in l D cI cJ cZ cS (Int32.toInt64 x1) 0 1 e1 hc1) k1 hK hP hD hS hA rfl hl.1 rfl (Nat.le_of_ble_eq_true rfl) ⟨Nat.zero_le _, Nat.zero_le _⟩ dX12_setNumbering_4 (fun H locs hP hD hS => ?_)
  refine lv_if_eq (tgt := 20) hx hb dX12_setNumbering_7 (by decide) (fun c2 => ?_) (fun c2 => ?_)
  · replace hm := if_t c2 hm
    refine lv_iconst (v := (-1)) hx hb dX12_setNumbering_20 (by decide) ?_
    exact J21 (-1) M_s M_ke M_km hm H locs ls hP hD hS (lv_sub hl [0] rfl)
  · replace hm := if_f c2 hm
    refine lv_aload_n hx hb dX12_setNumbering_10 rfl (lv_at hl 0 rfl) ?_
    refine lv_bipush (v := 62) hx hb dX12_setNumbering_11 (by decide) ?_
    refine lv_iload_n hx hb dX12_setNumbering_13 rfl (lv_at hl 1 rfl) ?_
    replace hm := bd_some hm
    obtain ⟨e3, hc3, hm⟩ := hm
    obtain ⟨e3_0, e3_1, e3_2, e3_3⟩ := e3
    refine kV_i (rest := []) (ws' := (w_X12_setNumbering cI aM aM_s aM_ke aM_te aM_re aM_bo aM_bn aM_sh aM_in aM_su aM_gr aM_tr aM_ou aM_ro e3_1 e3_2 e3_3 M_n M_be M_ma M_so M_om)) S (c_X12_sets l D cI cJ cZ cS aM aM_s aM_ke aM_te aM_re aM_bo aM_bn aM_sh aM_in aM_su aM_gr aM_tr aM_ou aM_ro M_s M_ke M_km M_n M_be M_ma M_so M_om 62 x1 (e3_0, e3_1, e3_2, e3_3) hc3) k2 hK hP hD hS hA 0 rfl rfl rfl rfl hl.1 rfl (Nat.le_of_ble_eq_true rfl) ⟨Nat.zero_le _, Nat.zero_le _⟩ dX12_setNumbering_14 [0, 1, 2] rfl rfl wa_X12_sets (sa_eq [] [] 3 rfl rfl rfl rfl rfl rfl rfl) (fun H locs hP hD hS => ?_)
    refine lv_goto (tgt := 21) hx hb dX12_setNumbering_17 (by decide) ?_
    exact J21 e3_0 e3_1 e3_2 e3_3 hm H locs ls hP hD hS (lv_sub hl [0] rfl)
set_option maxHeartbeats 4000000 in
set_option maxRecDepth 100000 in
theorem c_X12_setSortSlot (l : Launch) (D : va_G) (cI cJ cZ cS : ClassId) (aM aM_s aM_ke aM_te aM_re aM_bo aM_bn aM_sh aM_in aM_su aM_gr aM_tr aM_ou aM_ro : Nat) (M_s : Nat → Int32) (M_ke : Nat → Int32) (M_km : Int32) (M_n : Int32) (M_be : Int32) (M_ma : Int32) (M_so : Int32) (M_om : Int32) (x1 : Int32) (x2 : Int32) (x3 : Int32) (o : Int32 × (Nat → Int32) × (Nat → Int32) × Int32) (hm : m_X12_setSortSlot M_s M_ke M_km x1 x2 x3 = some o) : MI l yX12_setSortSlot wsX12_setSortSlot rm_X12_setSortSlot D (TY cI cJ cZ cS) [.ref aM, .int x1, .int x2, .int x3] (w_X12_setSortSlot cI aM aM_s aM_ke aM_te aM_re aM_bo aM_bn aM_sh aM_in aM_su aM_gr aM_tr aM_ou aM_ro M_s M_ke M_km M_n M_be M_ma M_so M_om) (w_X12_setSortSlot cI aM aM_s aM_ke aM_te aM_re aM_bo aM_bn aM_sh aM_in aM_su aM_gr aM_tr aM_ou aM_ro o.2.1 o.2.2.1 o.2.2.2 M_n M_be M_ma M_so M_om) (o.1) := by
  refine MI_of (cc := cX12_setSortSlot) (maxL := 5) (by decide) rfl (Nat.le_of_ble_eq_true rfl) ?_
  intro p e s m args below meth c A Q ls H locs hx hb hml hts hown hK hA hP hD hS hl hret
  have hown : s.vm.findClass RX12 = some m.cls := hown
  have hKv : va_K D vwCl (TY cI cJ cZ cS) s := hK.1
  have hl : lv_has ls 5 [(0, .ref aM), (1, .int x1), (2, .int x2), (3, .int x3)] := hl
  have S : CallFix p m c cX12_setSortSlot 5 s args wsX12_setSortSlot RX12 := ⟨hx, hb, hml, hown, hts⟩
  have k1 := hts (.constantLong RX12 131 2) (by decide +kernel)
  have k2 : CallB rm_X12_setSortSlot s args RX12 50 yX12_in cX12_in 6 (some .boolean) wsX12_in rm_X12_in 0 0 3 ∧ (Cond.static yX12_in).before args s = true := va_cwS 3 hts gX12_setSortSlot_X12_in rfl rfl rfl (by decide +kernel) ⟨Nat.le_of_ble_eq_true rfl, Nat.le_of_ble_eq_true rfl⟩
  have k3 := hts (.constantLong RX12 135 3) (by decide +kernel)
  have k4 : CallW rm_X12_setSortSlot s args RX12 RX12 128 yX12_sets cX12_sets 4 (some .int) wsX12_sets rm_X12_sets 0 0 2 := cwV 2 hts gX12_setSortSlot_X12_sets rfl rfl rfl (by decide +kernel) ⟨Nat.le_of_ble_eq_true rfl, Nat.le_of_ble_eq_true rfl⟩
  have k5 := hts (.fieldLink RX12 7 "CitationFormatterModel" "s" "[I") (by decide +kernel)
  have k6 : ∀ w ∈ wsX120, w ∈ wsX12_setSortSlot := by decide +kernel
  have J34 : ∀ (M_s_j34 : Nat → Int32) (M_ke_j34 : Nat → Int32) (M_km_j34 : Int32), (m_X12_setSortSlot_J34 M_s_j34 M_ke_j34 M_km_j34 = some o) → ∀ (H : Heap) (locs : List Loc) (ls : Array Slot), va_P D vwCl (w_X12_setSortSlot cI aM aM_s aM_ke aM_te aM_re aM_bo aM_bn aM_sh aM_in aM_su aM_gr aM_tr aM_ou aM_ro M_s_j34 M_ke_j34 M_km_j34 M_n M_be M_ma M_so M_om) H → va_D A (w_X12_setSortSlot cI aM aM_s aM_ke aM_te aM_re aM_bo aM_bn aM_sh aM_in aM_su aM_gr aM_tr aM_ou aM_ro M_s_j34 M_ke_j34 M_km_j34 M_n M_be M_ma M_so M_om) → va_S A s.heap H locs → lv_has ls 5 [(0, .ref aM)] → W p l e rm_X12_setSortSlot s m args below meth c H locs 0 0 Q (F0 m 34 ls []) := by
    intro M_s_j34 M_ke_j34 M_km_j34 hm H locs ls hP hD hS hl
    refine lv_iconst (v := (-1)) hx hb dX12_setSortSlot_34 (by decide) ?_
    have h9 := Option.some.inj hm
    subst h9
    exact hret H locs _ ls _ hP hD hS rfl dX12_setSortSlot_35
  refine lv_iload_n hx hb dX12_setSortSlot_0 rfl (lv_at hl 1 rfl) ?_
  refine lv_i2l hx hb dX12_setSortSlot_1 rfl ?_
  refine lv_lconst (v := 0) hx hb dX12_setSortSlot_2 (by decide) ?_
  refine lv_ldc2 hx hb hown k1 dX12_setSortSlot_3 ?_
  replace hm := bd_some hm
  obtain ⟨e1, hc1, hm⟩ := hm
  refine kS_i (rest := []) S (c_X12_in l D cI cJ cZ cS (Int32.toInt64 x1) 0 2 e1 hc1) k2 hK hP hD hS hA rfl hl.1 rfl (Nat.le_of_ble_eq_true rfl) ⟨Nat.zero_le _, Nat.zero_le _⟩ dX12_setSortSlot_6 (fun H locs hP hD hS => ?_)
  refine lv_if_eq (tgt := 34) hx hb dX12_setSortSlot_9 (by decide) (fun c2 => ?_) (fun c2 => ?_)
  · replace hm := if_t c2 hm
    exact J34 M_s M_ke M_km hm H locs ls hP hD hS (lv_sub hl [0] rfl)
  · replace hm := if_f c2 hm
    refine lv_iload_n hx hb dX12_setSortSlot_12 rfl (lv_at hl 2 rfl) ?_
    refine lv_i2l hx hb dX12_setSortSlot_13 rfl ?_
    refine lv_lconst (v := 0) hx hb dX12_setSortSlot_14 (by decide) ?_
    refine lv_ldc2 hx hb hown k3 dX12_setSortSlot_15 ?_
    replace hm := bd_some hm
    obtain ⟨e3, hc3, hm⟩ := hm
    refine kS_i (rest := []) S (c_X12_in l D cI cJ cZ cS (Int32.toInt64 x2) 0 3 e3 hc3) k2 hK hP hD hS hA rfl hl.1 rfl (Nat.le_of_ble_eq_true rfl) ⟨Nat.zero_le _, Nat.zero_le _⟩ dX12_setSortSlot_18 (fun H locs hP hD hS => ?_)
    refine lv_if_eq (tgt := 34) hx hb dX12_setSortSlot_21 (by decide) (fun c4 => ?_) (fun c4 => ?_)
    · replace hm := if_t c4 hm
      exact J34 M_s M_ke M_km hm H locs ls hP hD hS (lv_sub hl [0] rfl)
    · replace hm := if_f c4 hm
      refine lv_iload_n hx hb dX12_setSortSlot_24 rfl (lv_at hl 3 rfl) ?_
      refine lv_i2l hx hb dX12_setSortSlot_25 rfl ?_
      refine lv_lconst (v := 0) hx hb dX12_setSortSlot_26 (by decide) ?_
      refine lv_lconst (v := 1) hx hb dX12_setSortSlot_27 (by decide) ?_
      replace hm := bd_some hm
      obtain ⟨e5, hc5, hm⟩ := hm
      refine kS_i (rest := []) S (c_X12_in l D cI cJ cZ cS (Int32.toInt64 x3) 0 1 e5 hc5) k2 hK hP hD hS hA rfl hl.1 rfl (Nat.le_of_ble_eq_true rfl) ⟨Nat.zero_le _, Nat.zero_le _⟩ dX12_setSortSlot_28 (fun H locs hP hD hS => ?_)
      refine lv_if_ne (tgt := 36) hx hb dX12_setSortSlot_31 (by decide) (fun c6 => ?_) (fun c6 => ?_)
      · replace hm := if_f c6 hm
        refine lv_iconst (v := 2) hx hb dX12_setSortSlot_36 (by decide) ?_
        refine lv_aload_n hx hb dX12_setSortSlot_37 rfl (lv_at hl 0 rfl) ?_
        refine lv_bipush (v := 64) hx hb dX12_setSortSlot_38 (by decide) ?_
        refine lv_iconst (v := 2) hx hb dX12_setSortSlot_40 (by decide) ?_
        refine lv_iload_n hx hb dX12_setSortSlot_41 rfl (lv_at hl 1 rfl) ?_
        refine lv_imul hx hb dX12_setSortSlot_42 ?_
        refine lv_iadd hx hb dX12_setSortSlot_43 ?_
        refine lv_iload_n hx hb dX12_setSortSlot_44 rfl (lv_at hl 2 rfl) ?_
        replace hm := bd_some hm
        obtain ⟨e7, hc7, hm⟩ := hm
        obtain ⟨e7_0, e7_1, e7_2, e7_3⟩ := e7
        refine kV_i (rest := [.int 2]) (ws' := (w_X12_setSortSlot cI aM aM_s aM_ke aM_te aM_re aM_bo aM_bn aM_sh aM_in aM_su aM_gr aM_tr aM_ou aM_ro e7_1 e7_2 e7_3 M_n M_be M_ma M_so M_om)) S (c_X12_sets l D cI cJ cZ cS aM aM_s aM_ke aM_te aM_re aM_bo aM_bn aM_sh aM_in aM_su aM_gr aM_tr aM_ou aM_ro M_s M_ke M_km M_n M_be M_ma M_so M_om (64 + (2 * x1)) x2 (e7_0, e7_1, e7_2, e7_3) hc7) k4 hK hP hD hS hA 0 rfl rfl rfl rfl hl.1 rfl (Nat.le_of_ble_eq_true rfl) ⟨Nat.zero_le _, Nat.zero_le _⟩ dX12_setSortSlot_45 [0, 1, 2] rfl rfl wa_X12_sets (sa_eq [] [] 3 rfl rfl rfl rfl rfl rfl rfl) (fun H locs hP hD hS => ?_)
        refine lv_imul hx hb dX12_setSortSlot_48 ?_
        refine lv_aload_n hx hb dX12_setSortSlot_49 rfl (lv_at hl 0 rfl) ?_
        refine va_get (D := D) (ci := 12) (v := .ref aM_s) (C := RX12) (T := TX12) (N := 19) hx hb hts k6 hown hKv hP 0 rfl rfl 0 (by decide) k5 (fun _ h9 => h9) rfl dX12_setSortSlot_50 ?_
        refine lv_bipush (v := 64) hx hb dX12_setSortSlot_53 (by decide) ?_
        refine lv_iconst (v := 2) hx hb dX12_setSortSlot_55 (by decide) ?_
        refine lv_iload_n hx hb dX12_setSortSlot_56 rfl (lv_at hl 1 rfl) ?_
        refine lv_imul hx hb dX12_setSortSlot_57 ?_
        refine lv_iadd hx hb dX12_setSortSlot_58 ?_
        refine lv_iconst (v := 1) hx hb dX12_setSortSlot_59 (by decide) ?_
        refine lv_iadd hx hb dX12_setSortSlot_60 ?_
        replace hm := ck_some hm
        obtain ⟨h8, hm⟩ := hm
        refine va_iald hx hb hKv hP 1 0 rfl rfl h8 dX12_setSortSlot_61 ?_
        refine lv_iadd hx hb dX12_setSortSlot_62 ?_
        refine lv_istore (lv' := [(4, .int ((2 * e7_0) + (e7_1 (Int32.toNatClampNeg ((64 + (2 * x1)) + 1))))), (0, .ref aM), (1, .int x1), (2, .int x2), (3, .int x3)]) hx hb dX12_setSortSlot_63 hl (by decide) rfl (fun ls hl => ?_)
        refine lv_aload_n hx hb dX12_setSortSlot_65 rfl (lv_at hl 1 rfl) ?_
        refine va_get (D := D) (ci := 12) (v := .ref aM_s) (C := RX12) (T := TX12) (N := 19) hx hb hts k6 hown hKv hP 0 rfl rfl 0 (by decide) k5 (fun _ h9 => h9) rfl dX12_setSortSlot_66 ?_
        refine lv_bipush (v := 64) hx hb dX12_setSortSlot_69 (by decide) ?_
        refine lv_iconst (v := 2) hx hb dX12_setSortSlot_71 (by decide) ?_
        refine lv_iload_n hx hb dX12_setSortSlot_72 rfl (lv_at hl 2 rfl) ?_
        refine lv_imul hx hb dX12_setSortSlot_73 ?_
        refine lv_iadd hx hb dX12_setSortSlot_74 ?_
        refine lv_iconst (v := 1) hx hb dX12_setSortSlot_75 (by decide) ?_
        refine lv_iadd hx hb dX12_setSortSlot_76 ?_
        refine lv_iload_n hx hb dX12_setSortSlot_77 rfl (lv_at hl 4 rfl) ?_
        replace hm := ck_some hm
        obtain ⟨h9, hm⟩ := hm
        refine va_iast hx hb hKv hP hD hS 1 0 rfl rfl h9 dX12_setSortSlot_78 (fun H locs hP hD hS => ?_)
        replace hP : va_P D vwCl (w_X12_setSortSlot cI aM aM_s aM_ke aM_te aM_re aM_bo aM_bn aM_sh aM_in aM_su aM_gr aM_tr aM_ou aM_ro (upd e7_1 (Int32.toNatClampNeg ((64 + (2 * x1)) + 1)) x3) e7_2 e7_3 M_n M_be M_ma M_so M_om) H := hP
        replace hD : va_D A (w_X12_setSortSlot cI aM aM_s aM_ke aM_te aM_re aM_bo aM_bn aM_sh aM_in aM_su aM_gr aM_tr aM_ou aM_ro (upd e7_1 (Int32.toNatClampNeg ((64 + (2 * x1)) + 1)) x3) e7_2 e7_3 M_n M_be M_ma M_so M_om) := hD
        refine lv_iload hx hb dX12_setSortSlot_79 (lv_at hl 0 rfl) ?_
        have h9 := Option.some.inj hm
        subst h9
        exact hret H locs _ ls _ hP hD hS rfl dX12_setSortSlot_81
      · replace hm := if_t c6 hm
        exact J34 M_s M_ke M_km hm H locs ls hP hD hS (lv_sub hl [0] rfl)
set_option maxHeartbeats 4000000 in
set_option maxRecDepth 100000 in
theorem c_X12_setStyle (l : Launch) (D : va_G) (cI cJ cZ cS : ClassId) (aM aM_s aM_ke aM_te aM_re aM_bo aM_bn aM_sh aM_in aM_su aM_gr aM_tr aM_ou aM_ro : Nat) (M_s : Nat → Int32) (M_ke : Nat → Int32) (M_km : Int32) (M_n : Int32) (M_be : Int32) (M_ma : Int32) (M_so : Int32) (M_om : Int32) (x1 : Int32) (o : Int32 × (Nat → Int32) × (Nat → Int32) × Int32) (hm : m_X12_setStyle M_s M_ke M_km x1 = some o) : MI l yX12_setStyle wsX12_setStyle rm_X12_setStyle D (TY cI cJ cZ cS) [.ref aM, .int x1] (w_X12_setStyle cI aM aM_s aM_ke aM_te aM_re aM_bo aM_bn aM_sh aM_in aM_su aM_gr aM_tr aM_ou aM_ro M_s M_ke M_km M_n M_be M_ma M_so M_om) (w_X12_setStyle cI aM aM_s aM_ke aM_te aM_re aM_bo aM_bn aM_sh aM_in aM_su aM_gr aM_tr aM_ou aM_ro o.2.1 o.2.2.1 o.2.2.2 M_n M_be M_ma M_so M_om) (o.1) := by
  refine MI_of (cc := cX12_setStyle) (maxL := 2) (by decide) rfl (Nat.le_of_ble_eq_true rfl) ?_
  intro p e s m args below meth c A Q ls H locs hx hb hml hts hown hK hA hP hD hS hl hret
  have hown : s.vm.findClass RX12 = some m.cls := hown
  have hKv : va_K D vwCl (TY cI cJ cZ cS) s := hK.1
  have hl : lv_has ls 2 [(0, .ref aM), (1, .int x1)] := hl
  have S : CallFix p m c cX12_setStyle 2 s args wsX12_setStyle RX12 := ⟨hx, hb, hml, hown, hts⟩
  have k1 := hts (.constantLong RX12 131 2) (by decide +kernel)
  have k2 : CallB rm_X12_setStyle s args RX12 50 yX12_in cX12_in 6 (some .boolean) wsX12_in rm_X12_in 0 0 3 ∧ (Cond.static yX12_in).before args s = true := va_cwS 3 hts gX12_setStyle_X12_in rfl rfl rfl (by decide +kernel) ⟨Nat.le_of_ble_eq_true rfl, Nat.le_of_ble_eq_true rfl⟩
  have k3 : CallW rm_X12_setStyle s args RX12 RX12 128 yX12_sets cX12_sets 4 (some .int) wsX12_sets rm_X12_sets 0 0 2 := cwV 2 hts gX12_setStyle_X12_sets rfl rfl rfl (by decide +kernel) ⟨Nat.le_of_ble_eq_true rfl, Nat.le_of_ble_eq_true rfl⟩
  have J23 : ∀ (y0_j23 : Int32) (M_s_j23 : Nat → Int32) (M_ke_j23 : Nat → Int32) (M_km_j23 : Int32), (m_X12_setStyle_J23 y0_j23 M_s_j23 M_ke_j23 M_km_j23 = some o) → ∀ (H : Heap) (locs : List Loc) (ls : Array Slot), va_P D vwCl (w_X12_setStyle cI aM aM_s aM_ke aM_te aM_re aM_bo aM_bn aM_sh aM_in aM_su aM_gr aM_tr aM_ou aM_ro M_s_j23 M_ke_j23 M_km_j23 M_n M_be M_ma M_so M_om) H → va_D A (w_X12_setStyle cI aM aM_s aM_ke aM_te aM_re aM_bo aM_bn aM_sh aM_in aM_su aM_gr aM_tr aM_ou aM_ro M_s_j23 M_ke_j23 M_km_j23 M_n M_be M_ma M_so M_om) → va_S A s.heap H locs → lv_has ls 2 [(0, .ref aM)] → W p l e rm_X12_setStyle s m args below meth c H locs 0 0 Q (F0 m 23 ls [.int y0_j23]) := by
    intro y0_j23 M_s_j23 M_ke_j23 M_km_j23 hm H locs ls hP hD hS hl
    have h9 := Option.some.inj hm
    subst h9
    exact hret H locs _ ls _ hP hD hS rfl dX12_setStyle_23
  refine lv_iload_n hx hb dX12_setStyle_0 rfl (lv_at hl 1 rfl) ?_
  refine lv_i2l hx hb dX12_setStyle_1 rfl ?_
  refine lv_lconst (v := 0) hx hb dX12_setStyle_2 (by decide) ?_
  refine lv_ldc2 hx hb hown k1 dX12_setStyle_3 ?_
  replace hm := bd_some hm
  obtain ⟨e1, hc1, hm⟩ := hm
  refine kS_i (rest := []) S (c_X12_in l D cI cJ cZ cS (Int32.toInt64 x1) 0 2 e1 hc1) k2 hK hP hD hS hA rfl hl.1 rfl (Nat.le_of_ble_eq_true rfl) ⟨Nat.zero_le _, Nat.zero_le _⟩ dX12_setStyle_6 (fun H locs hP hD hS => ?_)
  refine lv_if_eq (tgt := 22) hx hb dX12_setStyle_9 (by decide) (fun c2 => ?_) (fun c2 => ?_)
  · replace hm := if_t c2 hm
    refine lv_iconst (v := (-1)) hx hb dX12_setStyle_22 (by decide) ?_
    exact J23 (-1) M_s M_ke M_km hm H locs ls hP hD hS (lv_sub hl [0] rfl)
  · replace hm := if_f c2 hm
    refine lv_aload_n hx hb dX12_setStyle_12 rfl (lv_at hl 0 rfl) ?_
    refine lv_bipush (v := 57) hx hb dX12_setStyle_13 (by decide) ?_
    refine lv_iload_n hx hb dX12_setStyle_15 rfl (lv_at hl 1 rfl) ?_
    replace hm := bd_some hm
    obtain ⟨e3, hc3, hm⟩ := hm
    obtain ⟨e3_0, e3_1, e3_2, e3_3⟩ := e3
    refine kV_i (rest := []) (ws' := (w_X12_setStyle cI aM aM_s aM_ke aM_te aM_re aM_bo aM_bn aM_sh aM_in aM_su aM_gr aM_tr aM_ou aM_ro e3_1 e3_2 e3_3 M_n M_be M_ma M_so M_om)) S (c_X12_sets l D cI cJ cZ cS aM aM_s aM_ke aM_te aM_re aM_bo aM_bn aM_sh aM_in aM_su aM_gr aM_tr aM_ou aM_ro M_s M_ke M_km M_n M_be M_ma M_so M_om 57 x1 (e3_0, e3_1, e3_2, e3_3) hc3) k3 hK hP hD hS hA 0 rfl rfl rfl rfl hl.1 rfl (Nat.le_of_ble_eq_true rfl) ⟨Nat.zero_le _, Nat.zero_le _⟩ dX12_setStyle_16 [0, 1, 2] rfl rfl wa_X12_sets (sa_eq [] [] 3 rfl rfl rfl rfl rfl rfl rfl) (fun H locs hP hD hS => ?_)
    refine lv_goto (tgt := 23) hx hb dX12_setStyle_19 (by decide) ?_
    exact J23 e3_0 e3_1 e3_2 e3_3 hm H locs ls hP hD hS (lv_sub hl [0] rfl)
set_option maxHeartbeats 4000000 in
set_option maxRecDepth 100000 in
theorem c_X12_setYear (l : Launch) (D : va_G) (cI cJ cZ cS : ClassId) (aM aM_s aM_ke aM_te aM_re aM_bo aM_bn aM_sh aM_in aM_su aM_gr aM_tr aM_ou aM_ro : Nat) (M_s : Nat → Int32) (M_ke : Nat → Int32) (M_km : Int32) (M_n : Int32) (M_be : Int32) (M_ma : Int32) (M_so : Int32) (M_om : Int32) (x1 : Int32) (x2 : Int32) (o : Int32 × (Nat → Int32) × (Nat → Int32) × Int32) (hm : m_X12_setYear M_s M_ke M_km x1 x2 = some o) : MI l yX12_setYear wsX12_setYear rm_X12_setYear D (TY cI cJ cZ cS) [.ref aM, .int x1, .int x2] (w_X12_setYear cI aM aM_s aM_ke aM_te aM_re aM_bo aM_bn aM_sh aM_in aM_su aM_gr aM_tr aM_ou aM_ro M_s M_ke M_km M_n M_be M_ma M_so M_om) (w_X12_setYear cI aM aM_s aM_ke aM_te aM_re aM_bo aM_bn aM_sh aM_in aM_su aM_gr aM_tr aM_ou aM_ro o.2.1 o.2.2.1 o.2.2.2 M_n M_be M_ma M_so M_om) (o.1) := by
  refine MI_of (cc := cX12_setYear) (maxL := 3) (by decide) rfl (Nat.le_of_ble_eq_true rfl) ?_
  intro p e s m args below meth c A Q ls H locs hx hb hml hts hown hK hA hP hD hS hl hret
  have hown : s.vm.findClass RX12 = some m.cls := hown
  have hKv : va_K D vwCl (TY cI cJ cZ cS) s := hK.1
  have hl : lv_has ls 3 [(0, .ref aM), (1, .int x1), (2, .int x2)] := hl
  have S : CallFix p m c cX12_setYear 3 s args wsX12_setYear RX12 := ⟨hx, hb, hml, hown, hts⟩
  have k1 : CallW rm_X12_setYear s args RX12 RX12 116 yX12_isWork cX12_isWork 2 (some .boolean) wsX12_isWork rm_X12_isWork 0 0 1 := cwV 1 hts gX12_setYear_X12_isWork rfl rfl rfl (by decide +kernel) ⟨Nat.le_of_ble_eq_true rfl, Nat.le_of_ble_eq_true rfl⟩
  have k2 := hts (.constantLong RX12 126 99) (by decide +kernel)
  have k3 : CallB rm_X12_setYear s args RX12 50 yX12_in cX12_in 6 (some .boolean) wsX12_in rm_X12_in 0 0 3 ∧ (Cond.static yX12_in).before args s = true := va_cwS 3 hts gX12_setYear_X12_in rfl rfl rfl (by decide +kernel) ⟨Nat.le_of_ble_eq_true rfl, Nat.le_of_ble_eq_true rfl⟩
  have k4 : CallW rm_X12_setYear s args RX12 RX12 128 yX12_sets cX12_sets 4 (some .int) wsX12_sets rm_X12_sets 0 0 2 := cwV 2 hts gX12_setYear_X12_sets rfl rfl rfl (by decide +kernel) ⟨Nat.le_of_ble_eq_true rfl, Nat.le_of_ble_eq_true rfl⟩
  have J20 : ∀ (M_s_j20 : Nat → Int32) (M_ke_j20 : Nat → Int32) (M_km_j20 : Int32), (m_X12_setYear_J20 M_s_j20 M_ke_j20 M_km_j20 = some o) → ∀ (H : Heap) (locs : List Loc) (ls : Array Slot), va_P D vwCl (w_X12_setYear cI aM aM_s aM_ke aM_te aM_re aM_bo aM_bn aM_sh aM_in aM_su aM_gr aM_tr aM_ou aM_ro M_s_j20 M_ke_j20 M_km_j20 M_n M_be M_ma M_so M_om) H → va_D A (w_X12_setYear cI aM aM_s aM_ke aM_te aM_re aM_bo aM_bn aM_sh aM_in aM_su aM_gr aM_tr aM_ou aM_ro M_s_j20 M_ke_j20 M_km_j20 M_n M_be M_ma M_so M_om) → va_S A s.heap H locs → lv_has ls 3 [(0, .ref aM)] → W p l e rm_X12_setYear s m args below meth c H locs 0 0 Q (F0 m 20 ls []) := by
    intro M_s_j20 M_ke_j20 M_km_j20 hm H locs ls hP hD hS hl
    refine lv_iconst (v := (-1)) hx hb dX12_setYear_20 (by decide) ?_
    have h9 := Option.some.inj hm
    subst h9
    exact hret H locs _ ls _ hP hD hS rfl dX12_setYear_21
  refine lv_aload_n hx hb dX12_setYear_0 rfl (lv_at hl 0 rfl) ?_
  refine lv_iload_n hx hb dX12_setYear_1 rfl (lv_at hl 1 rfl) ?_
  replace hm := bd_some hm
  obtain ⟨e1, hc1, hm⟩ := hm
  refine kV_i (rest := []) (ws' := (w_X12_setYear cI aM aM_s aM_ke aM_te aM_re aM_bo aM_bn aM_sh aM_in aM_su aM_gr aM_tr aM_ou aM_ro M_s M_ke M_km M_n M_be M_ma M_so M_om)) S (c_X12_isWork l D cI cJ cZ cS aM aM_s aM_ke aM_te aM_re aM_bo aM_bn aM_sh aM_in aM_su aM_gr aM_tr aM_ou aM_ro M_s M_km M_n M_be M_ma M_so M_om x1 e1 hc1) k1 hK hP hD hS hA 0 rfl rfl rfl rfl hl.1 rfl (Nat.le_of_ble_eq_true rfl) ⟨Nat.zero_le _, Nat.zero_le _⟩ dX12_setYear_2 [0, 1] rfl rfl wa_X12_isWork (sa_eq [(aM_ke, .inl (cI, 1048, .inl M_ke))] [2] 3 rfl rfl rfl rfl rfl rfl rfl) (fun H locs hP hD hS => ?_)
  refine lv_if_eq (tgt := 20) hx hb dX12_setYear_5 (by decide) (fun c2 => ?_) (fun c2 => ?_)
  · replace hm := if_t c2 hm
    exact J20 M_s M_ke M_km hm H locs ls hP hD hS (lv_sub hl [0] rfl)
  · replace hm := if_f c2 hm
    refine lv_iload_n hx hb dX12_setYear_8 rfl (lv_at hl 2 rfl) ?_
    refine lv_i2l hx hb dX12_setYear_9 rfl ?_
    refine lv_lconst (v := 0) hx hb dX12_setYear_10 (by decide) ?_
    refine lv_ldc2 hx hb hown k2 dX12_setYear_11 ?_
    replace hm := bd_some hm
    obtain ⟨e3, hc3, hm⟩ := hm
    refine kS_i (rest := []) S (c_X12_in l D cI cJ cZ cS (Int32.toInt64 x2) 0 99 e3 hc3) k3 hK hP hD hS hA rfl hl.1 rfl (Nat.le_of_ble_eq_true rfl) ⟨Nat.zero_le _, Nat.zero_le _⟩ dX12_setYear_14 (fun H locs hP hD hS => ?_)
    refine lv_if_ne (tgt := 22) hx hb dX12_setYear_17 (by decide) (fun c4 => ?_) (fun c4 => ?_)
    · replace hm := if_f c4 hm
      refine lv_aload_n hx hb dX12_setYear_22 rfl (lv_at hl 0 rfl) ?_
      refine lv_iconst (v := 1) hx hb dX12_setYear_23 (by decide) ?_
      refine lv_bipush (v := 7) hx hb dX12_setYear_24 (by decide) ?_
      refine lv_iload_n hx hb dX12_setYear_26 rfl (lv_at hl 1 rfl) ?_
      refine lv_imul hx hb dX12_setYear_27 ?_
      refine lv_iadd hx hb dX12_setYear_28 ?_
      refine lv_iconst (v := 5) hx hb dX12_setYear_29 (by decide) ?_
      refine lv_iadd hx hb dX12_setYear_30 ?_
      refine lv_iload_n hx hb dX12_setYear_31 rfl (lv_at hl 2 rfl) ?_
      replace hm := bd_some hm
      obtain ⟨e5, hc5, hm⟩ := hm
      obtain ⟨e5_0, e5_1, e5_2, e5_3⟩ := e5
      refine kV_i (rest := []) (ws' := (w_X12_setYear cI aM aM_s aM_ke aM_te aM_re aM_bo aM_bn aM_sh aM_in aM_su aM_gr aM_tr aM_ou aM_ro e5_1 e5_2 e5_3 M_n M_be M_ma M_so M_om)) S (c_X12_sets l D cI cJ cZ cS aM aM_s aM_ke aM_te aM_re aM_bo aM_bn aM_sh aM_in aM_su aM_gr aM_tr aM_ou aM_ro M_s M_ke M_km M_n M_be M_ma M_so M_om ((1 + (7 * x1)) + 5) x2 (e5_0, e5_1, e5_2, e5_3) hc5) k4 hK hP hD hS hA 0 rfl rfl rfl rfl hl.1 rfl (Nat.le_of_ble_eq_true rfl) ⟨Nat.zero_le _, Nat.zero_le _⟩ dX12_setYear_32 [0, 1, 2] rfl rfl wa_X12_sets (sa_eq [] [] 3 rfl rfl rfl rfl rfl rfl rfl) (fun H locs hP hD hS => ?_)
      have h9 := Option.some.inj hm
      subst h9
      exact hret H locs _ ls _ hP hD hS rfl dX12_setYear_35
    · replace hm := if_t c4 hm
      exact J20 M_s M_ke M_km hm H locs ls hP hD hS (lv_sub hl [0] rfl)
set_option maxHeartbeats 4000000 in
set_option maxRecDepth 100000 in
theorem c_X12_shownAuthors (l : Launch) (D : va_G) (cI cJ cZ cS : ClassId) (aM aM_s aM_ke aM_te aM_re aM_bo aM_bn aM_sh aM_in aM_su aM_gr aM_tr aM_ou aM_ro : Nat) (M_s : Nat → Int32) (M_km : Int32) (M_n : Int32) (M_be : Int32) (M_ma : Int32) (M_so : Int32) (M_bo : Nat → Int32) (M_bn : Nat → Int32) (M_sh : Nat → Int32) (M_in : Nat → Int32) (M_su : Nat → Int32) (M_gr : Nat → Int32) (M_tr : Nat → Int32) (M_om : Int32) (x1 : Int32) (o : Int32 × (Nat → Int32) × (Nat → Int32) × (Nat → Int32) × (Nat → Int32) × (Nat → Int32) × (Nat → Int32) × (Nat → Int32)) (hm : m_X12_shownAuthors M_s M_bo M_bn M_sh M_in M_su M_gr M_tr x1 = some o) : MI l yX12_shownAuthors wsX12_shownAuthors rm_X12_shownAuthors D (TY cI cJ cZ cS) [.ref aM, .int x1] (w_X12_shownAuthors cI cZ aM aM_s aM_ke aM_te aM_re aM_bo aM_bn aM_sh aM_in aM_su aM_gr aM_tr aM_ou aM_ro M_s M_km M_n M_be M_ma M_so M_bo M_bn M_sh M_in M_su M_gr M_tr M_om) (w_X12_shownAuthors cI cZ aM aM_s aM_ke aM_te aM_re aM_bo aM_bn aM_sh aM_in aM_su aM_gr aM_tr aM_ou aM_ro M_s M_km M_n M_be M_ma M_so o.2.1 o.2.2.1 o.2.2.2.1 o.2.2.2.2.1 o.2.2.2.2.2.1 o.2.2.2.2.2.2.1 o.2.2.2.2.2.2.2 M_om) (o.1) := by
  refine MI_of (cc := cX12_shownAuthors) (maxL := 2) (by decide) rfl (Nat.le_of_ble_eq_true rfl) ?_
  intro p e s m args below meth c A Q ls H locs hx hb hml hts hown hK hA hP hD hS hl hret
  have hown : s.vm.findClass RX12 = some m.cls := hown
  have hKv : va_K D vwCl (TY cI cJ cZ cS) s := hK.1
  have hl : lv_has ls 2 [(0, .ref aM), (1, .int x1)] := hl
  have S : CallFix p m c cX12_shownAuthors 2 s args wsX12_shownAuthors RX12 := ⟨hx, hb, hml, hown, hts⟩
  have k1 : CallW rm_X12_shownAuthors s args RX12 RX12 116 yX12_isWork cX12_isWork 2 (some .boolean) wsX12_isWork rm_X12_isWork 0 0 1 := cwV 1 hts gX12_shownAuthors_X12_isWork rfl rfl rfl (by decide +kernel) ⟨Nat.le_of_ble_eq_true rfl, Nat.le_of_ble_eq_true rfl⟩
  have k2 : CallW rm_X12_shownAuthors s args RX12 RX12 203 yX12_layLabels cX12_layLabels 3 none wsX12_layLabels rm_X12_layLabels 0 0 0 := cwV 0 hts gX12_shownAuthors_X12_layLabels rfl rfl rfl (by decide +kernel) ⟨Nat.le_of_ble_eq_true rfl, Nat.le_of_ble_eq_true rfl⟩
  have k3 := hts (.fieldLink RX12 28 "CitationFormatterModel" "shown" "[I") (by decide +kernel)
  have k4 : ∀ w ∈ wsX120, w ∈ wsX12_shownAuthors := by decide +kernel
  refine lv_aload_n hx hb dX12_shownAuthors_0 rfl (lv_at hl 0 rfl) ?_
  refine lv_iload_n hx hb dX12_shownAuthors_1 rfl (lv_at hl 1 rfl) ?_
  replace hm := bd_some hm
  obtain ⟨e1, hc1, hm⟩ := hm
  refine kV_i (rest := []) (ws' := (w_X12_shownAuthors cI cZ aM aM_s aM_ke aM_te aM_re aM_bo aM_bn aM_sh aM_in aM_su aM_gr aM_tr aM_ou aM_ro M_s M_km M_n M_be M_ma M_so M_bo M_bn M_sh M_in M_su M_gr M_tr M_om)) S (c_X12_isWork l D cI cJ cZ cS aM aM_s aM_ke aM_te aM_re aM_bo aM_bn aM_sh aM_in aM_su aM_gr aM_tr aM_ou aM_ro M_s M_km M_n M_be M_ma M_so M_om x1 e1 hc1) k1 hK hP hD hS hA 0 rfl rfl rfl rfl hl.1 rfl (Nat.le_of_ble_eq_true rfl) ⟨Nat.zero_le _, Nat.zero_le _⟩ dX12_shownAuthors_2 [0, 1] rfl rfl wa_X12_isWork (sa_eq [(aM_bo, .inl (cI, 8, .inl M_bo)), (aM_bn, .inl (cI, 8, .inl M_bn)), (aM_sh, .inl (cI, 8, .inl M_sh)), (aM_in, .inl (cZ, 8, .inl M_in)), (aM_su, .inl (cI, 8, .inl M_su)), (aM_gr, .inl (cI, 8, .inl M_gr)), (aM_tr, .inl (cI, 8, .inl M_tr))] [2, 3, 4, 5, 6, 7, 8] 9 rfl rfl rfl rfl rfl rfl rfl) (fun H locs hP hD hS => ?_)
  refine lv_if_ne (tgt := 10) hx hb dX12_shownAuthors_5 (by decide) (fun c2 => ?_) (fun c2 => ?_)
  · replace hm := if_f c2 hm
    refine lv_aload_n hx hb dX12_shownAuthors_10 rfl (lv_at hl 0 rfl) ?_
    replace hm := bd_some hm
    obtain ⟨e3, hc3, hm⟩ := hm
    obtain ⟨e3_0, e3_1, e3_2, e3_3, e3_4, e3_5, e3_6⟩ := e3
    refine kV_v (rest := []) (ws' := (w_X12_shownAuthors cI cZ aM aM_s aM_ke aM_te aM_re aM_bo aM_bn aM_sh aM_in aM_su aM_gr aM_tr aM_ou aM_ro M_s M_km M_n M_be M_ma M_so e3_0 e3_1 e3_2 e3_3 e3_4 e3_5 e3_6 M_om)) S (c_X12_layLabels l D cI cJ cZ cS aM aM_s aM_ke aM_te aM_re aM_bo aM_bn aM_sh aM_in aM_su aM_gr aM_tr aM_ou aM_ro M_s M_km M_n M_be M_ma M_so M_bo M_bn M_sh M_in M_su M_gr M_tr M_om (e3_0, e3_1, e3_2, e3_3, e3_4, e3_5, e3_6) hc3) k2 hK hP hD hS hA 0 rfl rfl rfl rfl hl.1 rfl (Nat.le_of_ble_eq_true rfl) ⟨Nat.zero_le _, Nat.zero_le _⟩ dX12_shownAuthors_11 [0, 1, 2, 3, 4, 5, 6, 7, 8] rfl rfl wa_X12_layLabels (sa_eq [] [] 9 rfl rfl rfl rfl rfl rfl rfl) (fun H locs hP hD hS => ?_)
    refine lv_aload_n hx hb dX12_shownAuthors_14 rfl (lv_at hl 0 rfl) ?_
    refine va_get (D := D) (ci := 12) (v := .ref aM_sh) (C := RX12) (T := TX12) (N := 19) hx hb hts k4 hown hKv hP 0 rfl rfl 11 (by decide) k3 (fun _ h9 => h9) rfl dX12_shownAuthors_15 ?_
    refine lv_iload_n hx hb dX12_shownAuthors_18 rfl (lv_at hl 1 rfl) ?_
    replace hm := ck_some hm
    obtain ⟨h4, hm⟩ := hm
    refine va_iald hx hb hKv hP 4 0 rfl rfl h4 dX12_shownAuthors_19 ?_
    have h9 := Option.some.inj hm
    subst h9
    exact hret H locs _ ls _ hP hD hS rfl dX12_shownAuthors_20
  · replace hm := if_t c2 hm
    refine lv_iconst (v := (-1)) hx hb dX12_shownAuthors_8 (by decide) ?_
    have h9 := Option.some.inj hm
    subst h9
    exact hret H locs _ ls _ hP hD hS rfl dX12_shownAuthors_9
set_option maxHeartbeats 4000000 in
set_option maxRecDepth 100000 in
theorem c_X12_showsInitials (l : Launch) (D : va_G) (cI cJ cZ cS : ClassId) (aM aM_s aM_ke aM_te aM_re aM_bo aM_bn aM_sh aM_in aM_su aM_gr aM_tr aM_ou aM_ro : Nat) (M_s : Nat → Int32) (M_km : Int32) (M_n : Int32) (M_be : Int32) (M_ma : Int32) (M_so : Int32) (M_bo : Nat → Int32) (M_bn : Nat → Int32) (M_sh : Nat → Int32) (M_in : Nat → Int32) (M_su : Nat → Int32) (M_gr : Nat → Int32) (M_tr : Nat → Int32) (M_om : Int32) (x1 : Int32) (o : Int32 × (Nat → Int32) × (Nat → Int32) × (Nat → Int32) × (Nat → Int32) × (Nat → Int32) × (Nat → Int32) × (Nat → Int32)) (hm : m_X12_showsInitials M_s M_bo M_bn M_sh M_in M_su M_gr M_tr x1 = some o) : MI l yX12_showsInitials wsX12_showsInitials rm_X12_showsInitials D (TY cI cJ cZ cS) [.ref aM, .int x1] (w_X12_showsInitials cI cZ aM aM_s aM_ke aM_te aM_re aM_bo aM_bn aM_sh aM_in aM_su aM_gr aM_tr aM_ou aM_ro M_s M_km M_n M_be M_ma M_so M_bo M_bn M_sh M_in M_su M_gr M_tr M_om) (w_X12_showsInitials cI cZ aM aM_s aM_ke aM_te aM_re aM_bo aM_bn aM_sh aM_in aM_su aM_gr aM_tr aM_ou aM_ro M_s M_km M_n M_be M_ma M_so o.2.1 o.2.2.1 o.2.2.2.1 o.2.2.2.2.1 o.2.2.2.2.2.1 o.2.2.2.2.2.2.1 o.2.2.2.2.2.2.2 M_om) (o.1) := by
  refine MI_of (cc := cX12_showsInitials) (maxL := 2) (by decide) rfl (Nat.le_of_ble_eq_true rfl) ?_
  intro p e s m args below meth c A Q ls H locs hx hb hml hts hown hK hA hP hD hS hl hret
  have hown : s.vm.findClass RX12 = some m.cls := hown
  have hKv : va_K D vwCl (TY cI cJ cZ cS) s := hK.1
  have hl : lv_has ls 2 [(0, .ref aM), (1, .int x1)] := hl
  have S : CallFix p m c cX12_showsInitials 2 s args wsX12_showsInitials RX12 := ⟨hx, hb, hml, hown, hts⟩
  have k1 : CallW rm_X12_showsInitials s args RX12 RX12 116 yX12_isWork cX12_isWork 2 (some .boolean) wsX12_isWork rm_X12_isWork 0 0 1 := cwV 1 hts gX12_showsInitials_X12_isWork rfl rfl rfl (by decide +kernel) ⟨Nat.le_of_ble_eq_true rfl, Nat.le_of_ble_eq_true rfl⟩
  have k2 : CallW rm_X12_showsInitials s args RX12 RX12 203 yX12_layLabels cX12_layLabels 3 none wsX12_layLabels rm_X12_layLabels 0 0 0 := cwV 0 hts gX12_showsInitials_X12_layLabels rfl rfl rfl (by decide +kernel) ⟨Nat.le_of_ble_eq_true rfl, Nat.le_of_ble_eq_true rfl⟩
  have k3 := hts (.fieldLink RX12 31 "CitationFormatterModel" "initials" "[Z") (by decide +kernel)
  have k4 : ∀ w ∈ wsX120, w ∈ wsX12_showsInitials := by decide +kernel
  have J28 : ∀ (y0_j28 : Int32) (M_bo_j28 : Nat → Int32) (M_bn_j28 : Nat → Int32) (M_sh_j28 : Nat → Int32) (M_in_j28 : Nat → Int32) (M_su_j28 : Nat → Int32) (M_gr_j28 : Nat → Int32) (M_tr_j28 : Nat → Int32), (m_X12_showsInitials_J28 y0_j28 M_bo_j28 M_bn_j28 M_sh_j28 M_in_j28 M_su_j28 M_gr_j28 M_tr_j28 = some o) → ∀ (H : Heap) (locs : List Loc) (ls : Array Slot), va_P D vwCl (w_X12_showsInitials cI cZ aM aM_s aM_ke aM_te aM_re aM_bo aM_bn aM_sh aM_in aM_su aM_gr aM_tr aM_ou aM_ro M_s M_km M_n M_be M_ma M_so M_bo_j28 M_bn_j28 M_sh_j28 M_in_j28 M_su_j28 M_gr_j28 M_tr_j28 M_om) H → va_D A (w_X12_showsInitials cI cZ aM aM_s aM_ke aM_te aM_re aM_bo aM_bn aM_sh aM_in aM_su aM_gr aM_tr aM_ou aM_ro M_s M_km M_n M_be M_ma M_so M_bo_j28 M_bn_j28 M_sh_j28 M_in_j28 M_su_j28 M_gr_j28 M_tr_j28 M_om) → va_S A s.heap H locs → lv_has ls 2 [(0, .ref aM)] → W p l e rm_X12_showsInitials s m args below meth c H locs 0 0 Q (F0 m 28 ls [.int y0_j28]) := by
    intro y0_j28 M_bo_j28 M_bn_j28 M_sh_j28 M_in_j28 M_su_j28 M_gr_j28 M_tr_j28 hm H locs ls hP hD hS hl
    have h9 := Option.some.inj hm
    subst h9
    exact hret H locs _ ls _ hP hD hS rfl dX12_showsInitials_28
  refine lv_aload_n hx hb dX12_showsInitials_0 rfl (lv_at hl 0 rfl) ?_
  refine lv_iload_n hx hb dX12_showsInitials_1 rfl (lv_at hl 1 rfl) ?_
  replace hm := bd_some hm
  obtain ⟨e1, hc1, hm⟩ := hm
  refine kV_i (rest := []) (ws' := (w_X12_showsInitials cI cZ aM aM_s aM_ke aM_te aM_re aM_bo aM_bn aM_sh aM_in aM_su aM_gr aM_tr aM_ou aM_ro M_s M_km M_n M_be M_ma M_so M_bo M_bn M_sh M_in M_su M_gr M_tr M_om)) S (c_X12_isWork l D cI cJ cZ cS aM aM_s aM_ke aM_te aM_re aM_bo aM_bn aM_sh aM_in aM_su aM_gr aM_tr aM_ou aM_ro M_s M_km M_n M_be M_ma M_so M_om x1 e1 hc1) k1 hK hP hD hS hA 0 rfl rfl rfl rfl hl.1 rfl (Nat.le_of_ble_eq_true rfl) ⟨Nat.zero_le _, Nat.zero_le _⟩ dX12_showsInitials_2 [0, 1] rfl rfl wa_X12_isWork (sa_eq [(aM_bo, .inl (cI, 8, .inl M_bo)), (aM_bn, .inl (cI, 8, .inl M_bn)), (aM_sh, .inl (cI, 8, .inl M_sh)), (aM_in, .inl (cZ, 8, .inl M_in)), (aM_su, .inl (cI, 8, .inl M_su)), (aM_gr, .inl (cI, 8, .inl M_gr)), (aM_tr, .inl (cI, 8, .inl M_tr))] [2, 3, 4, 5, 6, 7, 8] 9 rfl rfl rfl rfl rfl rfl rfl) (fun H locs hP hD hS => ?_)
  refine lv_if_ne (tgt := 10) hx hb dX12_showsInitials_5 (by decide) (fun c2 => ?_) (fun c2 => ?_)
  · replace hm := if_f c2 hm
    refine lv_aload_n hx hb dX12_showsInitials_10 rfl (lv_at hl 0 rfl) ?_
    replace hm := bd_some hm
    obtain ⟨e3, hc3, hm⟩ := hm
    obtain ⟨e3_0, e3_1, e3_2, e3_3, e3_4, e3_5, e3_6⟩ := e3
    refine kV_v (rest := []) (ws' := (w_X12_showsInitials cI cZ aM aM_s aM_ke aM_te aM_re aM_bo aM_bn aM_sh aM_in aM_su aM_gr aM_tr aM_ou aM_ro M_s M_km M_n M_be M_ma M_so e3_0 e3_1 e3_2 e3_3 e3_4 e3_5 e3_6 M_om)) S (c_X12_layLabels l D cI cJ cZ cS aM aM_s aM_ke aM_te aM_re aM_bo aM_bn aM_sh aM_in aM_su aM_gr aM_tr aM_ou aM_ro M_s M_km M_n M_be M_ma M_so M_bo M_bn M_sh M_in M_su M_gr M_tr M_om (e3_0, e3_1, e3_2, e3_3, e3_4, e3_5, e3_6) hc3) k2 hK hP hD hS hA 0 rfl rfl rfl rfl hl.1 rfl (Nat.le_of_ble_eq_true rfl) ⟨Nat.zero_le _, Nat.zero_le _⟩ dX12_showsInitials_11 [0, 1, 2, 3, 4, 5, 6, 7, 8] rfl rfl wa_X12_layLabels (sa_eq [] [] 9 rfl rfl rfl rfl rfl rfl rfl) (fun H locs hP hD hS => ?_)
    refine lv_aload_n hx hb dX12_showsInitials_14 rfl (lv_at hl 0 rfl) ?_
    refine va_get (D := D) (ci := 12) (v := .ref aM_in) (C := RX12) (T := TX12) (N := 19) hx hb hts k4 hown hKv hP 0 rfl rfl 12 (by decide) k3 (fun _ h9 => h9) rfl dX12_showsInitials_15 ?_
    refine lv_iload_n hx hb dX12_showsInitials_18 rfl (lv_at hl 1 rfl) ?_
    replace hm := ck_some hm
    obtain ⟨h4, hm⟩ := hm
    refine va_zald hx hb hKv hP 5 2 rfl rfl h4 dX12_showsInitials_19 ?_
    refine lv_if_eq (tgt := 27) hx hb dX12_showsInitials_20 (by decide) (fun c5 => ?_) (fun c5 => ?_)
    · replace hm := if_t c5 hm
      refine lv_iconst (v := 0) hx hb dX12_showsInitials_27 (by decide) ?_
      exact J28 0 e3_0 e3_1 e3_2 e3_3 e3_4 e3_5 e3_6 hm H locs ls hP hD hS (lv_sub hl [0] rfl)
    · replace hm := if_f c5 hm
      refine lv_iconst (v := 1) hx hb dX12_showsInitials_23 (by decide) ?_
      refine lv_goto (tgt := 28) hx hb dX12_showsInitials_24 (by decide) ?_
      exact J28 1 e3_0 e3_1 e3_2 e3_3 e3_4 e3_5 e3_6 hm H locs ls hP hD hS (lv_sub hl [0] rfl)
  · replace hm := if_t c2 hm
    refine lv_iconst (v := (-1)) hx hb dX12_showsInitials_8 (by decide) ?_
    have h9 := Option.some.inj hm
    subst h9
    exact hret H locs _ ls _ hP hD hS rfl dX12_showsInitials_9
set_option maxHeartbeats 4000000 in
set_option maxRecDepth 100000 in
theorem c_X12_suffixOf (l : Launch) (D : va_G) (cI cJ cZ cS : ClassId) (aM aM_s aM_ke aM_te aM_re aM_bo aM_bn aM_sh aM_in aM_su aM_gr aM_tr aM_ou aM_ro : Nat) (M_s : Nat → Int32) (M_km : Int32) (M_n : Int32) (M_be : Int32) (M_ma : Int32) (M_so : Int32) (M_bo : Nat → Int32) (M_bn : Nat → Int32) (M_sh : Nat → Int32) (M_in : Nat → Int32) (M_su : Nat → Int32) (M_gr : Nat → Int32) (M_tr : Nat → Int32) (M_om : Int32) (x1 : Int32) (o : Int32 × (Nat → Int32) × (Nat → Int32) × (Nat → Int32) × (Nat → Int32) × (Nat → Int32) × (Nat → Int32) × (Nat → Int32)) (hm : m_X12_suffixOf M_s M_bo M_bn M_sh M_in M_su M_gr M_tr x1 = some o) : MI l yX12_suffixOf wsX12_suffixOf rm_X12_suffixOf D (TY cI cJ cZ cS) [.ref aM, .int x1] (w_X12_suffixOf cI cZ aM aM_s aM_ke aM_te aM_re aM_bo aM_bn aM_sh aM_in aM_su aM_gr aM_tr aM_ou aM_ro M_s M_km M_n M_be M_ma M_so M_bo M_bn M_sh M_in M_su M_gr M_tr M_om) (w_X12_suffixOf cI cZ aM aM_s aM_ke aM_te aM_re aM_bo aM_bn aM_sh aM_in aM_su aM_gr aM_tr aM_ou aM_ro M_s M_km M_n M_be M_ma M_so o.2.1 o.2.2.1 o.2.2.2.1 o.2.2.2.2.1 o.2.2.2.2.2.1 o.2.2.2.2.2.2.1 o.2.2.2.2.2.2.2 M_om) (o.1) := by
  refine MI_of (cc := cX12_suffixOf) (maxL := 2) (by decide) rfl (Nat.le_of_ble_eq_true rfl) ?_
  intro p e s m args below meth c A Q ls H locs hx hb hml hts hown hK hA hP hD hS hl hret
  have hown : s.vm.findClass RX12 = some m.cls := hown
  have hKv : va_K D vwCl (TY cI cJ cZ cS) s := hK.1
  have hl : lv_has ls 2 [(0, .ref aM), (1, .int x1)] := hl
  have S : CallFix p m c cX12_suffixOf 2 s args wsX12_suffixOf RX12 := ⟨hx, hb, hml, hown, hts⟩
  have k1 : CallW rm_X12_suffixOf s args RX12 RX12 116 yX12_isWork cX12_isWork 2 (some .boolean) wsX12_isWork rm_X12_isWork 0 0 1 := cwV 1 hts gX12_suffixOf_X12_isWork rfl rfl rfl (by decide +kernel) ⟨Nat.le_of_ble_eq_true rfl, Nat.le_of_ble_eq_true rfl⟩
  have k2 : CallW rm_X12_suffixOf s args RX12 RX12 203 yX12_layLabels cX12_layLabels 3 none wsX12_layLabels rm_X12_layLabels 0 0 0 := cwV 0 hts gX12_suffixOf_X12_layLabels rfl rfl rfl (by decide +kernel) ⟨Nat.le_of_ble_eq_true rfl, Nat.le_of_ble_eq_true rfl⟩
  have k3 := hts (.fieldLink RX12 35 "CitationFormatterModel" "suffix" "[I") (by decide +kernel)
  have k4 : ∀ w ∈ wsX120, w ∈ wsX12_suffixOf := by decide +kernel
  refine lv_aload_n hx hb dX12_suffixOf_0 rfl (lv_at hl 0 rfl) ?_
  refine lv_iload_n hx hb dX12_suffixOf_1 rfl (lv_at hl 1 rfl) ?_
  replace hm := bd_some hm
  obtain ⟨e1, hc1, hm⟩ := hm
  refine kV_i (rest := []) (ws' := (w_X12_suffixOf cI cZ aM aM_s aM_ke aM_te aM_re aM_bo aM_bn aM_sh aM_in aM_su aM_gr aM_tr aM_ou aM_ro M_s M_km M_n M_be M_ma M_so M_bo M_bn M_sh M_in M_su M_gr M_tr M_om)) S (c_X12_isWork l D cI cJ cZ cS aM aM_s aM_ke aM_te aM_re aM_bo aM_bn aM_sh aM_in aM_su aM_gr aM_tr aM_ou aM_ro M_s M_km M_n M_be M_ma M_so M_om x1 e1 hc1) k1 hK hP hD hS hA 0 rfl rfl rfl rfl hl.1 rfl (Nat.le_of_ble_eq_true rfl) ⟨Nat.zero_le _, Nat.zero_le _⟩ dX12_suffixOf_2 [0, 1] rfl rfl wa_X12_isWork (sa_eq [(aM_bo, .inl (cI, 8, .inl M_bo)), (aM_bn, .inl (cI, 8, .inl M_bn)), (aM_sh, .inl (cI, 8, .inl M_sh)), (aM_in, .inl (cZ, 8, .inl M_in)), (aM_su, .inl (cI, 8, .inl M_su)), (aM_gr, .inl (cI, 8, .inl M_gr)), (aM_tr, .inl (cI, 8, .inl M_tr))] [2, 3, 4, 5, 6, 7, 8] 9 rfl rfl rfl rfl rfl rfl rfl) (fun H locs hP hD hS => ?_)
  refine lv_if_ne (tgt := 10) hx hb dX12_suffixOf_5 (by decide) (fun c2 => ?_) (fun c2 => ?_)
  · replace hm := if_f c2 hm
    refine lv_aload_n hx hb dX12_suffixOf_10 rfl (lv_at hl 0 rfl) ?_
    replace hm := bd_some hm
    obtain ⟨e3, hc3, hm⟩ := hm
    obtain ⟨e3_0, e3_1, e3_2, e3_3, e3_4, e3_5, e3_6⟩ := e3
    refine kV_v (rest := []) (ws' := (w_X12_suffixOf cI cZ aM aM_s aM_ke aM_te aM_re aM_bo aM_bn aM_sh aM_in aM_su aM_gr aM_tr aM_ou aM_ro M_s M_km M_n M_be M_ma M_so e3_0 e3_1 e3_2 e3_3 e3_4 e3_5 e3_6 M_om)) S (c_X12_layLabels l D cI cJ cZ cS aM aM_s aM_ke aM_te aM_re aM_bo aM_bn aM_sh aM_in aM_su aM_gr aM_tr aM_ou aM_ro M_s M_km M_n M_be M_ma M_so M_bo M_bn M_sh M_in M_su M_gr M_tr M_om (e3_0, e3_1, e3_2, e3_3, e3_4, e3_5, e3_6) hc3) k2 hK hP hD hS hA 0 rfl rfl rfl rfl hl.1 rfl (Nat.le_of_ble_eq_true rfl) ⟨Nat.zero_le _, Nat.zero_le _⟩ dX12_suffixOf_11 [0, 1, 2, 3, 4, 5, 6, 7, 8] rfl rfl wa_X12_layLabels (sa_eq [] [] 9 rfl rfl rfl rfl rfl rfl rfl) (fun H locs hP hD hS => ?_)
    refine lv_aload_n hx hb dX12_suffixOf_14 rfl (lv_at hl 0 rfl) ?_
    refine va_get (D := D) (ci := 12) (v := .ref aM_su) (C := RX12) (T := TX12) (N := 19) hx hb hts k4 hown hKv hP 0 rfl rfl 13 (by decide) k3 (fun _ h9 => h9) rfl dX12_suffixOf_15 ?_
    refine lv_iload_n hx hb dX12_suffixOf_18 rfl (lv_at hl 1 rfl) ?_
    replace hm := ck_some hm
    obtain ⟨h4, hm⟩ := hm
    refine va_iald hx hb hKv hP 6 0 rfl rfl h4 dX12_suffixOf_19 ?_
    have h9 := Option.some.inj hm
    subst h9
    exact hret H locs _ ls _ hP hD hS rfl dX12_suffixOf_20
  · replace hm := if_t c2 hm
    refine lv_iconst (v := (-1)) hx hb dX12_suffixOf_8 (by decide) ?_
    have h9 := Option.some.inj hm
    subst h9
    exact hret H locs _ ls _ hP hD hS rfl dX12_suffixOf_9
set_option maxHeartbeats 4000000 in
set_option maxRecDepth 100000 in
theorem c_X12_undo (l : Launch) (D : va_G) (cI cJ cZ cS : ClassId) (aM aM_s aM_ke aM_te aM_re aM_bo aM_bn aM_sh aM_in aM_su aM_gr aM_tr aM_ou aM_ro : Nat) (M_s : Nat → Int32) (M_ke : Nat → Int32) (M_km : Int32) (M_n : Int32) (M_be : Int32) (M_ma : Int32) (M_so : Int32) (M_om : Int32) (o : Int32 × (Nat → Int32) × Int32) (hm : m_X12_undo M_s M_ke M_km = some o) : MI l yX12_undo wsX12_undo rm_X12_undo D (TY cI cJ cZ cS) [.ref aM] (w_X12_undo cI aM aM_s aM_ke aM_te aM_re aM_bo aM_bn aM_sh aM_in aM_su aM_gr aM_tr aM_ou aM_ro M_s M_ke M_km M_n M_be M_ma M_so M_om) (w_X12_undo cI aM aM_s aM_ke aM_te aM_re aM_bo aM_bn aM_sh aM_in aM_su aM_gr aM_tr aM_ou aM_ro o.2.1 M_ke o.2.2 M_n M_be M_ma M_so M_om) (o.1) := by
  refine MI_of (cc := cX12_undo) (maxL := 2) (by decide) rfl (Nat.le_of_ble_eq_true rfl) ?_
  intro p e s m args below meth c A Q ls H locs hx hb hml hts hown hK hA hP hD hS hl hret
  have hown : s.vm.findClass RX12 = some m.cls := hown
  have hKv : va_K D vwCl (TY cI cJ cZ cS) s := hK.1
  have hl : lv_has ls 2 [(0, .ref aM)] := hl
  have S : CallFix p m c cX12_undo 2 s args wsX12_undo RX12 := ⟨hx, hb, hml, hown, hts⟩
  have k1 := hts (.fieldLink RX12 54 "CitationFormatterModel" "keptMany" "I") (by decide +kernel)
  have k2 : ∀ w ∈ wsX120, w ∈ wsX12_undo := by decide +kernel
  have k3 := hts (.fieldLink RX12 7 "CitationFormatterModel" "s" "[I") (by decide +kernel)
  have k4 := hts (.fieldLink RX12 13 "CitationFormatterModel" "kept" "[I") (by decide +kernel)
  refine lv_aload_n hx hb dX12_undo_0 rfl (lv_at hl 0 rfl) ?_
  refine va_get (D := D) (ci := 12) (v := .int M_km) (C := RX12) (T := TX12) (N := 19) hx hb hts k2 hown hKv hP 0 rfl rfl 2 (by decide) k1 (fun _ h9 => h9) rfl dX12_undo_1 ?_
  refine lv_if_ne (tgt := 10) hx hb dX12_undo_4 (by decide) (fun c1 => ?_) (fun c1 => ?_)
  · replace hm := if_f c1 hm
    refine lv_aload_n hx hb dX12_undo_10 rfl (lv_at hl 0 rfl) ?_
    refine lv_dup hx hb dX12_undo_11 rfl ?_
    refine va_get (D := D) (ci := 12) (v := .int M_km) (C := RX12) (T := TX12) (N := 19) hx hb hts k2 hown hKv hP 0 rfl rfl 2 (by decide) k1 (fun _ h9 => h9) rfl dX12_undo_12 ?_
    refine lv_iconst (v := 1) hx hb dX12_undo_15 (by decide) ?_
    refine lv_isub hx hb dX12_undo_16 ?_
    refine va_put (D := D) (ci := 12) (v := .int (M_km - 1)) (ty := .int) (C := RX12) (T := TX12) (N := 19) hx hb hts k2 tyX12 tyX12_ok nmX12 hown hKv hP hD hS 0 rfl rfl 2 (by decide) k1 (fun _ h9 => h9) rfl (by decide +kernel) rfl rfl (Nat.le_of_ble_eq_true rfl) dX12_undo_17 (fun H locs hP hD hS => ?_)
    replace hP : va_P D vwCl (w_X12_undo cI aM aM_s aM_ke aM_te aM_re aM_bo aM_bn aM_sh aM_in aM_su aM_gr aM_tr aM_ou aM_ro M_s M_ke (M_km - 1) M_n M_be M_ma M_so M_om) H := hP
    replace hD : va_D A (w_X12_undo cI aM aM_s aM_ke aM_te aM_re aM_bo aM_bn aM_sh aM_in aM_su aM_gr aM_tr aM_ou aM_ro M_s M_ke (M_km - 1) M_n M_be M_ma M_so M_om) := hD
    refine lv_iconst (v := 0) hx hb dX12_undo_20 (by decide) ?_
    refine lv_istore_n (lv' := [(1, .int 0), (0, .ref aM)]) hx hb dX12_undo_21 rfl hl (by decide) rfl (fun ls hl => ?_)
    replace hm := bd_some hm
    obtain ⟨e2, hc2, hm⟩ := hm
    have X2_0 : ∀ (H : Heap) (locs : List Loc) (ls : Array Slot), va_P D vwCl (w_X12_undo cI aM aM_s aM_ke aM_te aM_re aM_bo aM_bn aM_sh aM_in aM_su aM_gr aM_tr aM_ou aM_ro e2 M_ke (M_km - 1) M_n M_be M_ma M_so M_om) H → va_D A (w_X12_undo cI aM aM_s aM_ke aM_te aM_re aM_bo aM_bn aM_sh aM_in aM_su aM_gr aM_tr aM_ou aM_ro e2 M_ke (M_km - 1) M_n M_be M_ma M_so M_om) → va_S A s.heap H locs → lv_has ls 2 [(0, .ref aM)] → W p l e rm_X12_undo s m args below meth c H locs 0 0 Q (F0 m 56 ls []) := by
      intro H locs ls hP hD hS hl
      refine lv_aload_n hx hb dX12_undo_56 rfl (lv_at hl 0 rfl) ?_
      refine va_get (D := D) (ci := 12) (v := .int (M_km - 1)) (C := RX12) (T := TX12) (N := 19) hx hb hts k2 hown hKv hP 0 rfl rfl 2 (by decide) k1 (fun _ h9 => h9) rfl dX12_undo_57 ?_
      have h9 := Option.some.inj hm
      subst h9
      exact hret H locs _ ls _ hP hD hS rfl dX12_undo_60
    refine it_W (G := fun (st22 : Int32 × (Nat → Int32)) => ∀ (H : Heap) (locs : List Loc) (ls : Array Slot), va_P D vwCl (w_X12_undo cI aM aM_s aM_ke aM_te aM_re aM_bo aM_bn aM_sh aM_in aM_su aM_gr aM_tr aM_ou aM_ro st22.2 M_ke (M_km - 1) M_n M_be M_ma M_so M_om) H → va_D A (w_X12_undo cI aM aM_s aM_ke aM_te aM_re aM_bo aM_bn aM_sh aM_in aM_su aM_gr aM_tr aM_ou aM_ro st22.2 M_ke (M_km - 1) M_n M_be M_ma M_so M_om) → va_S A s.heap H locs → lv_has ls 2 [(0, .ref aM), (1, .int st22.1)] → W p l e rm_X12_undo s m args below meth c H locs 0 0 Q (F0 m 22 ls [])) (e := e2) (fun st22 x hm hG hE => ?_) fu _ hc2 H locs ls hP hD hS (lv_sub hl [1, 0] rfl)
    intro H locs ls hP hD hS hl
    refine lv_iload_n hx hb dX12_undo_22 rfl (lv_at hl 1 rfl) ?_
    refine lv_sipush (v := 131) hx hb dX12_undo_23 (by decide) ?_
    refine lv_icmp_ge (tgt := 56) hx hb dX12_undo_26 (by decide) (fun c3 => ?_) (fun c3 => ?_)
    · replace hm := if_t c3 hm
      have h9 := hE _ (Option.some.inj hm).symm
      subst h9
      exact X2_0 H locs ls hP hD hS (lv_sub hl [0] rfl)
    · replace hm := if_f c3 hm
      refine lv_aload_n hx hb dX12_undo_29 rfl (lv_at hl 0 rfl) ?_
      refine va_get (D := D) (ci := 12) (v := .ref aM_s) (C := RX12) (T := TX12) (N := 19) hx hb hts k2 hown hKv hP 0 rfl rfl 0 (by decide) k3 (fun _ h9 => h9) rfl dX12_undo_30 ?_
      refine lv_iload_n hx hb dX12_undo_33 rfl (lv_at hl 1 rfl) ?_
      refine lv_aload_n hx hb dX12_undo_34 rfl (lv_at hl 0 rfl) ?_
      refine va_get (D := D) (ci := 12) (v := .ref aM_ke) (C := RX12) (T := TX12) (N := 19) hx hb hts k2 hown hKv hP 0 rfl rfl 1 (by decide) k4 (fun _ h9 => h9) rfl dX12_undo_35 ?_
      refine lv_sipush (v := 131) hx hb dX12_undo_38 (by decide) ?_
      refine lv_aload_n hx hb dX12_undo_41 rfl (lv_at hl 0 rfl) ?_
      refine va_get (D := D) (ci := 12) (v := .int (M_km - 1)) (C := RX12) (T := TX12) (N := 19) hx hb hts k2 hown hKv hP 0 rfl rfl 2 (by decide) k1 (fun _ h9 => h9) rfl dX12_undo_42 ?_
      refine lv_imul hx hb dX12_undo_45 ?_
      refine lv_iload_n hx hb dX12_undo_46 rfl (lv_at hl 1 rfl) ?_
      refine lv_iadd hx hb dX12_undo_47 ?_
      replace hm := ck_some hm
      obtain ⟨h4, hm⟩ := hm
      refine va_iald hx hb hKv hP 2 0 rfl rfl h4 dX12_undo_48 ?_
      replace hm := ck_some hm
      obtain ⟨h5, hm⟩ := hm
      refine va_iast hx hb hKv hP hD hS 1 0 rfl rfl h5 dX12_undo_49 (fun H locs hP hD hS => ?_)
      replace hP : va_P D vwCl (w_X12_undo cI aM aM_s aM_ke aM_te aM_re aM_bo aM_bn aM_sh aM_in aM_su aM_gr aM_tr aM_ou aM_ro (upd st22.2 (Int32.toNatClampNeg st22.1) (M_ke (Int32.toNatClampNeg ((131 * (M_km - 1)) + st22.1)))) M_ke (M_km - 1) M_n M_be M_ma M_so M_om) H := hP
      replace hD : va_D A (w_X12_undo cI aM aM_s aM_ke aM_te aM_re aM_bo aM_bn aM_sh aM_in aM_su aM_gr aM_tr aM_ou aM_ro (upd st22.2 (Int32.toNatClampNeg st22.1) (M_ke (Int32.toNatClampNeg ((131 * (M_km - 1)) + st22.1)))) M_ke (M_km - 1) M_n M_be M_ma M_so M_om) := hD
      refine lv_iinc (v := (st22.1 + 1)) (lv' := [(1, .int (st22.1 + 1)), (0, .ref aM)]) hx hb dX12_undo_50 hl (k := 1) rfl rfl (by decide) rfl (fun ls hl => ?_)
      refine lv_goto (tgt := 22) hx hb dX12_undo_53 (by decide) ?_
      exact hG _ (Option.some.inj hm).symm H locs ls hP hD hS (lv_sub hl [1, 0] rfl)
  · replace hm := if_t c1 hm
    refine lv_bipush (v := (-2)) hx hb dX12_undo_7 (by decide) ?_
    have h9 := Option.some.inj hm
    subst h9
    exact hret H locs _ ls _ hP hD hS rfl dX12_undo_9
set_option maxHeartbeats 4000000 in
set_option maxRecDepth 100000 in
theorem c_X12_workCount (l : Launch) (D : va_G) (cI cJ cZ cS : ClassId) (aM aM_s aM_ke aM_te aM_re aM_bo aM_bn aM_sh aM_in aM_su aM_gr aM_tr aM_ou aM_ro : Nat) (M_s : Nat → Int32) (M_km : Int32) (M_n : Int32) (M_be : Int32) (M_ma : Int32) (M_so : Int32) (M_om : Int32) (o : Int32) (hm : m_X12_workCount M_s = some o) : MI l yX12_workCount wsX12_workCount rm_X12_workCount D (TY cI cJ cZ cS) [.ref aM] (w_X12_workCount cI aM aM_s aM_ke aM_te aM_re aM_bo aM_bn aM_sh aM_in aM_su aM_gr aM_tr aM_ou aM_ro M_s M_km M_n M_be M_ma M_so M_om) (w_X12_workCount cI aM aM_s aM_ke aM_te aM_re aM_bo aM_bn aM_sh aM_in aM_su aM_gr aM_tr aM_ou aM_ro M_s M_km M_n M_be M_ma M_so M_om) (o) := by
  refine MI_of (cc := cX12_workCount) (maxL := 1) (by decide) rfl (Nat.le_of_ble_eq_true rfl) ?_
  intro p e s m args below meth c A Q ls H locs hx hb hml hts hown hK hA hP hD hS hl hret
  have hown : s.vm.findClass RX12 = some m.cls := hown
  have hKv : va_K D vwCl (TY cI cJ cZ cS) s := hK.1
  have hl : lv_has ls 1 [(0, .ref aM)] := hl
  have S : CallFix p m c cX12_workCount 1 s args wsX12_workCount RX12 := ⟨hx, hb, hml, hown, hts⟩
  have k1 := hts (.fieldLink RX12 7 "CitationFormatterModel" "s" "[I") (by decide +kernel)
  have k2 : ∀ w ∈ wsX120, w ∈ wsX12_workCount := by decide +kernel
  refine lv_aload_n hx hb dX12_workCount_0 rfl (lv_at hl 0 rfl) ?_
  refine va_get (D := D) (ci := 12) (v := .ref aM_s) (C := RX12) (T := TX12) (N := 19) hx hb hts k2 hown hKv hP 0 rfl rfl 0 (by decide) k1 (fun _ h9 => h9) rfl dX12_workCount_1 ?_
  refine lv_iconst (v := 0) hx hb dX12_workCount_4 (by decide) ?_
  replace hm := ck_some hm
  obtain ⟨h1, hm⟩ := hm
  refine va_iald hx hb hKv hP 1 0 rfl rfl h1 dX12_workCount_5 ?_
  have h9 := Option.some.inj hm
  subst h9
  exact hret H locs _ ls _ hP hD hS rfl dX12_workCount_6
